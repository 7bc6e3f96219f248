/-! the unknowns of a row, times the bottom -/
def Xq (A : AR) (u : Option Nat) (l : Nat) : Rat := xs (wq A) (Cq A u) (plc A + nU A) (plc A + nU A) l
def Tq (A : AR) (u : Option Nat) (l : Nat) : Rat := Dq A u (nU A) * Xq A u l
theorem sq_absR {x M : Rat} (hM : 0 ≤ M) (h : x * x ≤ M * M) : bd x M := by
  unfold bd
  constructor
  · by_cases q : -M ≤ x
    · exact q
    · exfalso
      have h1 : 0 < (-x - M) * (-x - M) := Rat.mul_pos (by grind) (by grind)
      have h2 : 0 ≤ M * (-x - M) := Rat.mul_nonneg hM (by grind)
      grind
  · by_cases q : x ≤ M
    · exact q
    · exfalso
      have h1 : 0 < (x - M) * (x - M) := Rat.mul_pos (by grind) (by grind)
      have h2 : 0 ≤ M * (x - M) := Rat.mul_nonneg hM (by grind)
      grind
theorem sq0_le : ∀ l : Bool, ∀ c, c < 4 → ∀ f, f < 3 → ∀ i, i < 7 → (sq0 l c f).getD i 1 ≤ 20540 := by decide +kernel
section TQ
variable {A : AR} {u : Option Nat}
theorem pr_le (hA : RowOK A) (u : Option Nat) {i : Nat} (hi : i < nU A) : prS A u i i 40 ≤ 20540 := by
  have h1 := sq_le hA u hi
  have h6 := nU_le hA
  have h2 := sq0_le (aL A) (ct (aS A) 40) (by have := hA.2.2.1; omega) (aC A) (by have := hA.2.2.2.2.2.1; omega) i (by omega)
  have e : sq0 (aL A) (ct (aS A) 40) (aC A) = sqb A := rfl
  rw [e] at h2
  omega
def βq (A : AR) (c : Nat) : Rat := if c < nU A then ((20540 : Int) : Rat) else ((10000000 : Int) : Rat)
theorem Sp_bd (hA : RowOK A) (hp : Piv (wq A) (Cq A u) (plc A)) {r : Nat} (hr : r < nU A) (c : Nat) : bd (Sk (wq A) (Cq A u) (plc A) (plc A + r) (plc A + c)) (βq A c) := by
  have hc := Sk_cs (C := Cq A u) (wq_W A) (plc A) (plc A + r) (plc A + c)
  have a1 := Sk_le (wq_W A) hp (plc A + r)
  have a2 := Sk_le (wq_W A) hp (plc A + c)
  have n1 := Sk_nn (C := Cq A u) (wq_W A) (plc A) (plc A + r)
  have n2 := Sk_nn (C := Cq A u) (wq_W A) (plc A) (plc A + c)
  rw [Am_uu] at a1 a2
  have b1 : ((prS A u r r 40 : Int) : Rat) ≤ ((20540 : Int) : Rat) := cast_le.mpr (pr_le hA u hr)
  unfold βq
  by_cases q : c < nU A
  · have b2 : ((prS A u c c 40 : Int) : Rat) ≤ ((20540 : Int) : Rat) := cast_le.mpr (pr_le hA u q)
    rw [if_pos q]
    refine sq_absR (by decide +kernel) (Rat.le_trans hc ?_)
    refine Rat.le_trans (Rat.mul_le_mul_of_nonneg_right (Rat.le_trans a1 b1) n2) ?_
    exact Rat.mul_le_mul_of_nonneg_left (Rat.le_trans a2 b2) (by decide +kernel)
  · have b2 : ((prS A u c c 40 : Int) : Rat) ≤ ((4000000000 : Int) : Rat) := cast_le.mpr (by have := prS_b hA u c c (n := 40) (by omega); omega)
    rw [if_neg q]
    refine sq_absR (by decide +kernel) (Rat.le_trans hc ?_)
    refine Rat.le_trans (Rat.mul_le_mul_of_nonneg_right (Rat.le_trans a1 b1) n2) ?_
    refine Rat.le_trans (Rat.mul_le_mul_of_nonneg_left (Rat.le_trans a2 b2) (by decide +kernel)) ?_
    decide +kernel
theorem num_b : ∀ n, n < 7 → fct n * (((10000000 : Int) : Rat) * ((20540 : Int) : Rat) ^ (n - 1)) ≤ ((30000000000000000000000000000000 : Int) : Rat) := by decide +kernel
theorem Tq_bd (hA : RowOK A) (hp : Pv A u (nU A)) {i : Nat} (hi : i < nU A) : bd (Tq A u (plc A + i)) ((10000000000000000000000000000000000000 : Int) : Rat) := by
  have h6 := nU_le hA
  have hp0 : Piv (wq A) (Cq A u) (plc A) := fun l hl => hp l (by omega)
  have hsys : ∀ r, r ∈ Kl (nU A) → Am (wq A) (fun i => rs (wq A) (Cq A u) (plc A) (plc A + i)) r (nU A) = sl (fun l => Xq A u (plc A + l) * Am (wq A) (fun i => rs (wq A) (Cq A u) (plc A) (plc A + i)) r l) (Kl (nU A)) := by
    intro r hr
    have hr := mem_Kl.mp hr
    rw [sl_su]
    exact back hp (Nat.le_refl _) (by omega) (by omega) (plc A + nU A)
  have h := cramer_bd (A := Am (wq A) (fun i => rs (wq A) (Cq A u) (plc A) (plc A + i))) (β := βq A) (M := ((20540 : Int) : Rat)) (b := 0) hi (fun r hr c => Sp_bd hA hp0 hr c) (fun c hc => by unfold βq; rw [if_pos hc]; exact Rat.le_refl) (fun c => by unfold βq; split <;> decide +kernel) hsys (by decide +kernel)
  rw [dt_Dk (Piv_sh hp)] at h
  have e1 : βq A (nU A) = ((10000000 : Int) : Rat) := by unfold βq; rw [if_neg (by omega)]
  rw [e1] at h
  have h2 := bd_up h (num_b (nU A) (by omega))
  have hst := (stage (u := u) (piv_pos hp0) (Nat.le_refl (plc A))).2.2.2.2
  have hb := pb_b hA (Nat.le_refl (plc A))
  have h3 : bd (Dk (wq A) (Cq A u) (plc A)) ((194400 : Int) : Rat) := by
    rw [hst]
    exact ⟨by rw [← Rat.intCast_neg]; exact cast_le.mpr (by omega), cast_le.mpr hb.2⟩
  have h4 := bd_mul h3 h2
  have e2 : Tq A u (plc A + i) = Dk (wq A) (Cq A u) (plc A) * (Dk (wq A) (fun i => rs (wq A) (Cq A u) (plc A) (plc A + i)) (nU A) * Xq A u (plc A + i)) := by
    unfold Tq Dq
    rw [Dk_sh]; grind
  rw [e2]
  refine bd_up h4 ?_
  decide +kernel
theorem Tq_Z (hp : Pv A u (nU A)) {l : Nat} (hl : l < plc A + nU A) : isZ (Tq A u l) := Dx_isZ Am_Z hp _ hl
theorem bd_zz {q : Rat} {b : Int} (hq : isZ q) (h : bd q ((b : Int) : Rat)) : -b ≤ zz q ∧ zz q ≤ b := by
  have e := zz_of hq
  rw [← e] at h
  obtain ⟨h1, h2⟩ := h
  rw [← Rat.intCast_neg] at h1
  exact ⟨cast_le.mp h1, cast_le.mp h2⟩
theorem Tz_b (hA : RowOK A) (hp : Pv A u (nU A)) {i : Nat} (hi : i < nU A) : -10000000000000000000000000000000000000 ≤ zz (Tq A u (plc A + i)) ∧ zz (Tq A u (plc A + i)) ≤ 10000000000000000000000000000000000000 := bd_zz (Tq_Z hp (by omega)) (Tq_bd hA hp hi)
/-- the sum of what the later unknowns make of row i -/
def bkS (A : AR) (u : Option Nat) (i j : Nat) : Int := si (fun l => if i < l then zz (Bq A u i i l) * zz (Tq A u (plc A + l)) else 0) j
theorem Bq_low {s : Nat} (hp : Pv A u s) (i : Nat) {j : Nat} (hj : j < s) : Bq A u s i j = 0 := by
  unfold Bq
  rw [Sk_low hp _ (by omega)]; grind
theorem tops_eq (hp : Pv A u (nU A)) {i : Nat} (hi : i < nU A) : zz (Dq A u (nU A)) * zz (Bq A u i i (nU A)) - bkS A u i (nU A) = zz (Bq A u i i i) * zz (Tq A u (plc A + i)) := by
  have hpi : Pv A u i := fun l hl => hp l (by omega)
  have h := back hp (k := plc A + i) (i := plc A + i) (by omega) (by omega) (by omega) (plc A + nU A)
  apply cast_eq.mp
  have eb : ((bkS A u i (nU A) : Int) : Rat) = su (fun l => if i < l then Bq A u i i l * Tq A u (plc A + l) else 0) (nU A) := by
    unfold bkS
    rw [← su_cast]
    refine su_congr (fun l hl => ?_)
    by_cases q : i < l
    · rw [if_pos q, if_pos q, cast_mul, zz_of (Bq_Z hpi _ _), zz_of (Tq_Z hp (by omega))]
    · rw [if_neg q, if_neg q, cast_0]
  rw [cast_sub, cast_mul, cast_mul, eb, zz_of (Dq_Z hp), zz_of (Bq_Z hpi _ _), zz_of (Bq_Z hpi _ _), zz_of (Tq_Z hp (by omega))]
  have e1 : Dq A u (nU A) * Bq A u i i (nU A) = su (fun l => Bq A u i i l * Tq A u (plc A + l)) (nU A) := by
    have e2 : su (fun l => Bq A u i i l * Tq A u (plc A + l)) (nU A) = Dq A u (nU A) * Dq A u i * su (fun l => xs (wq A) (Cq A u) (plc A + nU A) (plc A + nU A) (plc A + l) * Sk (wq A) (Cq A u) (plc A + i) (plc A + i) (plc A + l)) (nU A) := by
      rw [← su_mul]
      refine su_congr (fun l _ => ?_)
      unfold Bq Tq Xq
      grind
    rw [e2, ← h]
    unfold Bq
    grind
  have e3 : su (fun l => Bq A u i i l * Tq A u (plc A + l)) (nU A) = su (fun l => if i < l then Bq A u i i l * Tq A u (plc A + l) else 0) (nU A) + Bq A u i i i * Tq A u (plc A + i) := by
    have e4 := su_single (a := Bq A u i i i * Tq A u (plc A + i)) (i := i) (nU A)
    rw [if_pos hi] at e4
    rw [← e4, ← su_add]
    refine su_congr (fun l _ => ?_)
    by_cases q : i < l
    · rw [if_pos q, if_neg (by omega)]; grind
    · rw [if_neg q]
      by_cases q2 : l = i
      · rw [if_pos q2, q2]; grind
      · rw [if_neg q2, Bq_low hpi _ (by omega)]; grind
  rw [e1, e3]
  grind
/-- the places -/
def plS (A : AR) (u : Option Nat) (p j : Nat) : Int := si (fun l => zz (Tq A u (plc A + l)) * psS A u p l 40) j
theorem place_eq (hp : Pv A u (nU A)) {p : Nat} (hpl : p < plc A) : zz (Dq A u (nU A)) * psS A u p (nU A) 40 - plS A u p (nU A) = pcS A p 40 * zz (Tq A u p) := by
  have h := normal hp (plc A + nU A) p (mem_Kl.mpr (by omega))
  rw [sl_su, su_app, Am_pu hpl] at h
  have e1 : su (fun l => xs (wq A) (Cq A u) (plc A + nU A) (plc A + nU A) l * Am (wq A) (Cq A u) p l) (plc A) = Xq A u p * ((pcS A p 40 : Int) : Rat) := by
    have e4 := su_single (a := Xq A u p * ((pcS A p 40 : Int) : Rat)) (i := p) (plc A)
    rw [if_pos hpl] at e4
    rw [← e4]
    refine su_congr (fun l hl => ?_)
    rw [Am_pp hpl hl]
    by_cases q : l = p
    · rw [if_pos q, if_pos q.symm, q]; rfl
    · rw [if_neg q, if_neg (fun w => q w.symm)]; grind
  have e2 : su (fun l => xs (wq A) (Cq A u) (plc A + nU A) (plc A + nU A) (plc A + l) * Am (wq A) (Cq A u) p (plc A + l)) (nU A) = su (fun l => Xq A u (plc A + l) * ((psS A u p l 40 : Int) : Rat)) (nU A) := su_congr (fun l _ => by rw [Am_pu hpl]; rfl)
  rw [e1, e2] at h
  apply cast_eq.mp
  have eb : ((plS A u p (nU A) : Int) : Rat) = Dq A u (nU A) * su (fun l => Xq A u (plc A + l) * ((psS A u p l 40 : Int) : Rat)) (nU A) := by
    unfold plS
    rw [← su_cast, ← su_mul]
    refine su_congr (fun l hl => ?_)
    rw [cast_mul, zz_of (Tq_Z hp (by omega))]
    unfold Tq
    grind
  rw [cast_sub, cast_mul, cast_mul, eb, zz_of (Dq_Z hp), zz_of (Tq_Z hp (by omega)), h]
  unfold Tq
  grind
theorem plS_b (hA : RowOK A) (hp : Pv A u (nU A)) (p : Nat) : ∀ j, j ≤ nU A → -(j * 4000000000000000000000000000000000000000000 : Int) ≤ plS A u p j ∧ plS A u p j ≤ j * 4000000000000000000000000000000000000000000 := fun j hj => si_abs (by decide) (fun i hi => by
  have h1 := Tz_b hA hp (i := i) (by omega)
  have h2 := psS_b hA u p i (n := 40) (by omega)
  have := mul_abs_le (X := 10000000000000000000000000000000000000) (Y := 400000) (y := psS A u p i 40) h1.1 h1.2 (by omega) (by omega)
  omega)
theorem bkS_b (hA : RowOK A) (hp : Pv A u (nU A)) {i : Nat} (hi : i < nU A) : ∀ j, j ≤ nU A → -(j * 720575940379279360000000000000000000000000000000000000000000000 : Int) ≤ bkS A u i j ∧ bkS A u i j ≤ j * 720575940379279360000000000000000000000000000000000000000000000 := fun j hj => si_abs (by decide) (fun l hl => by
  have hpi : Pv A u i := fun l hl => hp l (by omega)
  have h1 := Tz_b hA hp (i := l) (by omega)
  have h2 := Bz_b hA (u := u) (by omega) hpi i l
  have := mul_abs_le h2.1 h2.2 h1.1 h1.2
  split <;> omega)
theorem Tp_b (hA : RowOK A) (hp : Pv A u (nU A)) {p : Nat} (hpl : p < plc A) : -30000000000000000000000000000000000000000000 ≤ zz (Tq A u p) ∧ zz (Tq A u p) ≤ 30000000000000000000000000000000000000000000 := by
  have h6 := nU_le hA
  have h := place_eq hp hpl
  have h1 := plS_b hA hp p (nU A) (Nat.le_refl _)
  have h2 := psS_b hA u p (nU A) (n := 40) (by omega)
  have d1 := zD_pos hp
  have d2 := zD_lt hA (Nat.le_refl _) hp
  have m := mul_abs_le (X := 18014398509481984) (Y := 400000) (x := zz (Dq A u (nU A))) (y := psS A u p (nU A) 40) (by omega) (by omega) (by omega) (by omega)
  have c1 : 1 ≤ pcS A p 40 := by
    have := pc_nn (A := A) p 40
    have := piv_pos (A := A) (u := u) (fun l hl => hp l (by omega)) p hpl
    omega
  have hN : (nU A : Int) * 4000000000000000000000000000000000000000000 ≤ 6 * 4000000000000000000000000000000000000000000 := Int.mul_le_mul_of_nonneg_right (by omega) (by decide)
  generalize zz (Dq A u (nU A)) * psS A u p (nU A) 40 = x at *
  generalize plS A u p (nU A) = y at *
  generalize (nU A : Int) * 4000000000000000000000000000000000000000000 = z at *
  generalize zz (Tq A u p) = t at *
  generalize pcS A p 40 = c at *
  have hb : -30000000000000000000000000000000000000000000 ≤ c * t ∧ c * t ≤ 30000000000000000000000000000000000000000000 := by omega
  constructor
  · by_cases q : -30000000000000000000000000000000000000000000 ≤ t
    · exact q
    · have : c * t ≤ 1 * t := Int.mul_le_mul_of_nonpos_right c1 (by omega)
      omega
  · by_cases q : t ≤ 30000000000000000000000000000000000000000000
    · exact q
    · have : 1 * t ≤ c * t := Int.mul_le_mul_of_nonneg_right c1 (by omega)
      omega
end TQ
