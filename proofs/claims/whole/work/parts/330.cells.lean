/-! the cells of the elimination, in whole numbers -/
def zz (q : Rat) : Int := q.floor
theorem zz_of {q : Rat} (h : isZ q) : ((zz q : Int) : Rat) = q := by
  obtain ⟨z, rfl⟩ := h
  unfold zz
  rw [Rat.floor_intCast]
theorem zz_eq {q : Rat} {z : Int} (h : q = (z : Rat)) : zz q = z := by
  rw [h]
  unfold zz
  exact Rat.floor_intCast z
/-- the determinant with s unknowns taken; the cells then -/
def Dq (A : AR) (u : Option Nat) (s : Nat) : Rat := Dk (wq A) (Cq A u) (plc A + s)
def Bq (A : AR) (u : Option Nat) (s i j : Nat) : Rat := Dq A u s * Sk (wq A) (Cq A u) (plc A + s) (plc A + i) (plc A + j)
abbrev Pv (A : AR) (u : Option Nat) (s : Nat) : Prop := Piv (wq A) (Cq A u) (plc A + s)
theorem Bq_Z {A : AR} {u : Option Nat} {s : Nat} (hp : Pv A u s) (i j : Nat) : isZ (Bq A u s i j) := DS_isZ Am_Z hp _ _
theorem Dq_Z {A : AR} {u : Option Nat} {s : Nat} (hp : Pv A u s) : isZ (Dq A u s) := Dk_isZ Am_Z hp
theorem Bq_comm {A : AR} {u : Option Nat} (s i j : Nat) : Bq A u s i j = Bq A u s j i := by unfold Bq; rw [Sk_comm]
theorem Dq_succ {A : AR} {u : Option Nat} (s : Nat) : Dq A u (s + 1) = Bq A u s s s := rfl
theorem zD_pos {A : AR} {u : Option Nat} {s : Nat} (hp : Pv A u s) : 0 < zz (Dq A u s) := by
  have h := Dk_pos (wq_W A) hp
  have e := zz_of (Dq_Z hp)
  have : ((0 : Int) : Rat) < ((zz (Dq A u s) : Int) : Rat) := by rw [e]; exact h
  exact cast_lt.mp this
theorem zD_lt {A : AR} (hA : RowOK A) {u : Option Nat} {s : Nat} (hs : s ≤ nU A) (hp : Pv A u s) : zz (Dq A u s) < 18014398509481984 := by
  have h := Dk_lt hA u hs hp
  have e := zz_of (Dq_Z hp)
  exact cast_lt.mp (by rw [e]; exact h)
theorem sq_abs {x M : Int} (hM : 0 ≤ M) (h : x * x ≤ M * M) : -M ≤ x ∧ x ≤ M := by
  constructor
  · by_cases q : -M ≤ x
    · exact q
    · exfalso
      have h1 : 0 < (-x - M) * (-x - M) := Int.mul_pos (by omega) (by omega)
      have h2 : 0 ≤ M * (-x - M) := Int.mul_nonneg hM (by omega)
      have : x * x = M * M + 2 * (M * (-x - M)) + (-x - M) * (-x - M) := by grind
      omega
  · by_cases q : x ≤ M
    · exact q
    · exfalso
      have h1 : 0 < (x - M) * (x - M) := Int.mul_pos (by omega) (by omega)
      have h2 : 0 ≤ M * (x - M) := Int.mul_nonneg hM (by omega)
      have : x * x = M * M + 2 * (M * (x - M)) + (x - M) * (x - M) := by grind
      omega
/-- a cell is small: at most 2 to the 54th times 4 thousand millions -/
theorem Bz_b {A : AR} (hA : RowOK A) {u : Option Nat} {s : Nat} (hs : s ≤ nU A) (hp : Pv A u s) (i j : Nat) : -72057594037927936000000000 ≤ zz (Bq A u s i j) ∧ zz (Bq A u s i j) ≤ 72057594037927936000000000 := by
  have hD := Dk_lt hA u hs hp
  have hD0 := Dk_pos (wq_W A) hp
  have hc := Sk_cs (C := Cq A u) (wq_W A) (plc A + s) (plc A + i) (plc A + j)
  have a1 := Sk_le (wq_W A) hp (plc A + i)
  have a2 := Sk_le (wq_W A) hp (plc A + j)
  have n1 := Sk_nn (C := Cq A u) (wq_W A) (plc A + s) (plc A + i)
  have n2 := Sk_nn (C := Cq A u) (wq_W A) (plc A + s) (plc A + j)
  rw [Am_uu] at a1 a2
  have b1 : ((prS A u i i 40 : Int) : Rat) ≤ ((4000000000 : Int) : Rat) := cast_le.mpr (by have := prS_b hA u i i (n := 40) (by omega); omega)
  have b2 : ((prS A u j j 40 : Int) : Rat) ≤ ((4000000000 : Int) : Rat) := cast_le.mpr (by have := prS_b hA u j j (n := 40) (by omega); omega)
  have e := zz_of (Bq_Z (u := u) hp i j)
  refine sq_abs (by decide) (cast_le.mp ?_)
  rw [cast_mul, e]
  unfold Bq Dq
  generalize Dk (wq A) (Cq A u) (plc A + s) = d at *
  generalize Sk (wq A) (Cq A u) (plc A + s) (plc A + i) (plc A + j) = x at *
  generalize Sk (wq A) (Cq A u) (plc A + s) (plc A + i) (plc A + i) = y at *
  generalize Sk (wq A) (Cq A u) (plc A + s) (plc A + j) (plc A + j) = v at *
  generalize ((prS A u i i 40 : Int) : Rat) = p1 at *
  generalize ((prS A u j j 40 : Int) : Rat) = p2 at *
  have m4 : ((4000000000 : Int) : Rat) = 4000000000 := rfl
  have m5 : ((18014398509481984 : Int) : Rat) = 18014398509481984 := rfl
  rw [m4] at b1 b2
  rw [m5] at hD
  have y4 : y ≤ 4000000000 := by grind
  have v4 : v ≤ 4000000000 := by grind
  have yv : y * v ≤ 4000000000 * 4000000000 := Rat.le_trans (Rat.mul_le_mul_of_nonneg_right y4 n2) (Rat.mul_le_mul_of_nonneg_left v4 (by decide))
  have xx : x * x ≤ 4000000000 * 4000000000 := Rat.le_trans hc yv
  have d0 : 0 ≤ d := Rat.le_of_lt hD0
  have d1 : d ≤ 18014398509481984 := Rat.le_of_lt hD
  have dd : d * d ≤ 18014398509481984 * 18014398509481984 := Rat.le_trans (Rat.mul_le_mul_of_nonneg_right d1 d0) (Rat.mul_le_mul_of_nonneg_left d1 (by decide))
  have dd0 : 0 ≤ d * d := Rat.mul_nonneg d0 d0
  have h1 : d * d * (x * x) ≤ d * d * (4000000000 * 4000000000) := Rat.mul_le_mul_of_nonneg_left xx dd0
  have h2 : d * d * (4000000000 * 4000000000) ≤ 18014398509481984 * 18014398509481984 * (4000000000 * 4000000000) := Rat.mul_le_mul_of_nonneg_right dd (by grind)
  have h3 : d * x * (d * x) = d * d * (x * x) := by grind
  rw [h3]
  refine Rat.le_trans (Rat.le_trans h1 h2) ?_
  rw [cast_mul]
  have m6 : ((72057594037927936000000000 : Int) : Rat) = 72057594037927936000000000 := rfl
  rw [m6]
  grind
theorem Bz_az {A : AR} (hA : RowOK A) {u : Option Nat} {s : Nat} (hs : s ≤ nU A) (hp : Pv A u s) (i j : Nat) : az (zz (Bq A u s i j)) < 134217728 ^ 4 := by
  have h := Bz_b hA (u := u) hs hp i j
  have e : (134217728 : Int) ^ 4 = 324518553658426726783156020576256 := by decide +kernel
  rw [e, az_def]
  split <;> omega
/-- one turn of the elimination leaves nothing over -/
theorem bareiss {A : AR} {u : Option Nat} {s : Nat} (hp : Pv A u (s + 1)) (i j : Nat) : zz (Bq A u s s s) * zz (Bq A u s i j) - zz (Bq A u s s i) * zz (Bq A u s s j) = zz (Dq A u s) * zz (Bq A u (s + 1) i j) := by
  have hp' : Pv A u s := fun l hl => hp l (by omega)
  have hne : Sk (wq A) (Cq A u) (plc A + s) (plc A + s) (plc A + s) ≠ 0 := hp _ (by omega)
  apply cast_eq.mp
  rw [cast_sub, cast_mul, cast_mul, cast_mul, zz_of (Bq_Z hp' _ _), zz_of (Bq_Z hp' _ _), zz_of (Bq_Z hp' _ _), zz_of (Bq_Z hp' _ _), zz_of (Dq_Z hp'), zz_of (Bq_Z hp _ _)]
  have e1 : Bq A u (s + 1) i j = Dq A u (s + 1) * Sk (wq A) (Cq A u) (plc A + s + 1) (plc A + i) (plc A + j) := rfl
  rw [e1, Dq_succ, Sk_succ hne]
  unfold Bq
  rw [Sk_comm (plc A + s) (plc A + i) (plc A + s)]
  generalize Dq A u s = d
  generalize Sk (wq A) (Cq A u) (plc A + s) (plc A + s) (plc A + s) = p at *
  generalize Sk (wq A) (Cq A u) (plc A + s) (plc A + s) (plc A + i) = x
  generalize Sk (wq A) (Cq A u) (plc A + s) (plc A + s) (plc A + j) = y
  generalize Sk (wq A) (Cq A u) (plc A + s) (plc A + i) (plc A + j) = v
  grind
/-- what the places leave, by whole numbers -/
def B0 (A : AR) (u : Option Nat) (i j m : Nat) : Int := pbS A (plc A) * prS A u i j 40 - si (fun p => if 0 < pcS A p 40 then pbS A (plc A) / pcS A p 40 * psS A u p i 40 * psS A u p j 40 else 0) m
theorem pb_dvd {A : AR} : ∀ {m p : Nat}, p < m → ∃ z, pbS A m = pcS A p 40 * z
  | 0, p, h => by omega
  | m + 1, p, h => by
    by_cases e : p = m
    · subst e; exact ⟨pbS A p, by show pbS A p * pcS A p 40 = _; exact Int.mul_comm _ _⟩
    · obtain ⟨z, hz⟩ := pb_dvd (A := A) (m := m) (p := p) (by omega)
      exact ⟨z * pcS A m 40, by show pbS A m * pcS A m 40 = _; rw [hz]; grind⟩
theorem B0_eq {A : AR} {u : Option Nat} (hpos : ∀ p, p < plc A → pcS A p 40 ≠ 0) (i j : Nat) : zz (Bq A u 0 i j) = B0 A u i j (plc A) := by
  obtain ⟨-, -, -, h4, h5⟩ := stage (u := u) hpos (Nat.le_refl (plc A))
  apply zz_eq
  unfold Bq Dq
  rw [Nat.add_zero, h5, h4, Am_uu]
  have e : ((pbS A (plc A) : Int) : Rat) * su (fun l => Am (wq A) (Cq A u) l (plc A + i) * Am (wq A) (Cq A u) l (plc A + j) / Am (wq A) (Cq A u) l l) (plc A) = ((si (fun p => if 0 < pcS A p 40 then pbS A (plc A) / pcS A p 40 * psS A u p i 40 * psS A u p j 40 else 0) (plc A) : Int) : Rat) := by
    rw [← su_mul, ← su_cast]
    refine su_congr (fun l hl => ?_)
    have h0 := hpos l hl
    have h1 : 0 < pcS A l 40 := by have := pc_nn (A := A) l 40; omega
    rw [Am_pu hl, Am_pu hl, Am_pp hl hl, if_pos rfl, if_pos h1]
    obtain ⟨z, hz⟩ := pb_dvd (A := A) hl
    rw [hz, Int.mul_ediv_cancel_left _ h0, cast_mul, cast_mul, cast_mul]
    have hc : ((pcS A l 40 : Int) : Rat) ≠ 0 := fun e => h0 (cast_eq.mp e)
    generalize ((pcS A l 40 : Int) : Rat) = c at *
    grind
  unfold B0
  rw [cast_sub, cast_mul, ← e]
  grind
