/-! the reference's columns and the class's make up the same rows -/
def crI (A : AR) (u : Option Nat) (l t : Nat) : Int := if l < NN A then lc (rcl A) l t else yv A u t
def Cr (A : AR) (u : Option Nat) (l t : Nat) : Rat := ((crI A u l t : Int) : Rat)
def arS (A : AR) (u : Option Nat) (i j : Nat) : Int := si (fun t => if aK A t = true then crI A u i t * crI A u j t else 0) 40
theorem Am_r (A : AR) (u : Option Nat) (i j : Nat) : Am (wq A) (Cr A u) i j = ((arS A u i j : Int) : Rat) := by
  unfold Am ip arS
  rw [← su_cast]
  refine su_congr (fun t ht => ?_)
  unfold wq Cr
  by_cases h : aK A t = true
  · rw [if_pos h, if_pos h, cast_mul]; grind
  · rw [if_neg h, if_neg h, cast_0]; grind
theorem Ar_Z (A : AR) (u : Option Nat) (i j : Nat) : isZ (Am (wq A) (Cr A u) i j) := ⟨_, Am_r A u i j⟩
theorem yv_b {A : AR} (hA : RowOK A) (u : Option Nat) (t : Nat) : -10000 ≤ yv A u t ∧ yv A u t ≤ 10000 := by
  cases u with
  | none => exact hA.1 t
  | some x => show -10000 ≤ (if t = x then (1 : Int) else 0) ∧ (if t = x then (1 : Int) else 0) ≤ 10000; split <;> omega
theorem crI_b {A : AR} (hA : RowOK A) (u : Option Nat) (l : Nat) {t : Nat} (ht : t < 40) : -10000 ≤ crI A u l t ∧ crI A u l t ≤ 10000 := by
  unfold crI
  split
  · have := rc_b A l ht
    omega
  · exact yv_b hA u t
theorem ar_b {A : AR} (hA : RowOK A) (u : Option Nat) (i j : Nat) : -4000000000 ≤ arS A u i j ∧ arS A u i j ≤ 4000000000 := by
  have h := si_abs (M := 100000000) (f := fun t => if aK A t = true then crI A u i t * crI A u j t else 0) (by decide) (n := 40) (fun t ht => by
    split
    · have h1 := crI_b hA u i ht
      have h2 := crI_b hA u j ht
      exact mul_abs_le (X := 10000) (Y := 10000) h1.1 h1.2 h2.1 h2.2
    · omega)
  have : arS A u i j = si (fun t => if aK A t = true then crI A u i t * crI A u j t else 0) 40 := rfl
  rw [← this] at h
  omega
theorem Ar_bd {A : AR} (hA : RowOK A) (u : Option Nat) (i j : Nat) : bd (Am (wq A) (Cr A u) i j) MB := by
  rw [Am_r]
  have h := ar_b hA u i j
  unfold bd MB
  have e : (-((8589934592 : Int) : Rat)) = ((-8589934592 : Int) : Rat) := by rw [Rat.intCast_neg]
  rw [e]
  exact ⟨cast_le.mpr (by omega), cast_le.mpr (by omega)⟩
section LI
variable {A : AR} {u : Option Nat}
/-- the season that the last numbers make -/
def sea (A : AR) (y : Nat → Rat) (p : Nat) : Rat := su (fun k => y (1 + nU A + k) * ((seac (aP A) k p : Int) : Rat)) (aP A - 1)
/-- the class's numbers out of the reference's -/
def cnv (A : AR) (y : Nat → Rat) (l : Nat) : Rat := if l < plc A then y 0 + sea A y l else y (1 + (l - plc A))
/-- and back -/
def cni (A : AR) (x : Nat → Rat) (l : Nat) : Rat := if l = 0 then su x (plc A) / (plc A : Int) else if l ≤ nU A then x (plc A + (l - 1)) else x (l - (1 + nU A)) - su x (plc A) / (plc A : Int)
theorem lc_r0 (t : Nat) : lc (rcl A) 0 t = 1 := by rw [rcl_eq]; rfl
theorem lc_ru {i : Nat} (hi : i < nU A) (t : Nat) : lc (rcl A) (1 + i) t = lc (uc A) i t := by
  rw [rcl_eq]
  unfold lc
  rw [Nat.add_comm 1 i, List.getD_cons_succ, List.getD_eq_getElem?_getD, List.getD_eq_getElem?_getD, List.getElem?_append_left hi]
theorem lc_rs {k : Nat} (hk : k < aP A - 1) (t : Nat) : lc (rcl A) (1 + nU A + k) t = seac (aP A) k t := by
  rw [rcl_eq]
  unfold lc
  rw [show 1 + nU A + k = (nU A + k) + 1 by omega, List.getD_cons_succ, List.getD_eq_getElem?_getD, List.getElem?_append_right (by unfold nU; omega)]
  have e : nU A + k - (uc A).length = k := by unfold nU; omega
  rw [e, List.getElem?_map, List.getElem?_range hk]
  rfl
theorem NN_1 (A : AR) : NN A = 1 + (nU A + (aP A - 1)) := by
  unfold NN nU
  rw [rcl_eq, List.length_cons, List.length_append, List.length_map, List.length_range]
  omega
theorem su_1 (f : Nat → Rat) : su f 1 = f 0 := by show (0 : Rat) + f 0 = f 0; grind
/-- what the reference's numbers make at a tick -/
theorem mk_r (y : Nat → Rat) (t : Nat) : su (fun l => y l * ((lc (rcl A) l t : Int) : Rat)) (NN A) = y 0 + (su (fun i => y (1 + i) * ((lc (uc A) i t : Int) : Rat)) (nU A) + sea A y t) := by
  rw [NN_1, su_app, su_1, lc_r0, su_app]
  have e1 : su (fun l => y (1 + l) * ((lc (rcl A) (1 + l) t : Int) : Rat)) (nU A) = su (fun i => y (1 + i) * ((lc (uc A) i t : Int) : Rat)) (nU A) := su_congr (fun i hi => by rw [lc_ru hi])
  have e2 : su (fun l => y (1 + (nU A + l)) * ((lc (rcl A) (1 + (nU A + l)) t : Int) : Rat)) (aP A - 1) = sea A y t := su_congr (fun k hk => by rw [show 1 + (nU A + k) = 1 + nU A + k by omega, lc_rs hk])
  rw [e1, e2, cast_1]
  grind
theorem mk_c (hA : RowOK A) (x : Nat → Rat) (t : Nat) : su (fun l => x l * Cq A u l t) (plc A + nU A) = x (t % plc A) + su (fun i => x (plc A + i) * ((lc (uc A) i t : Int) : Rat)) (nU A) := by
  have hm : t % plc A < plc A := Nat.mod_lt _ (by have := plc_b hA; omega)
  rw [su_app]
  have e1 : su (fun l => x l * Cq A u l t) (plc A) = x (t % plc A) := by
    have e4 := su_single (a := x (t % plc A)) (i := t % plc A) (plc A)
    rw [if_pos hm] at e4
    rw [← e4]
    refine su_congr (fun l hl => ?_)
    rw [Cq_p hl]
    by_cases q : l = t % plc A
    · rw [if_pos q, if_pos q.symm, q]; grind
    · rw [if_neg q, if_neg (fun w => q w.symm)]; grind
  have e2 : su (fun l => x (plc A + l) * Cq A u (plc A + l) t) (nU A) = su (fun i => x (plc A + i) * ((lc (uc A) i t : Int) : Rat)) (nU A) := su_congr (fun i hi => by rw [Cq_u, cf_lc hi])
  rw [e1, e2]
theorem seac_m {p k t : Nat} : seac p k (t % p) = seac p k t := by unfold seac; rw [Nat.mod_mod]
theorem plc_P (hA : RowOK A) (h : aP A ≠ 0) : plc A = aP A := if_neg h
theorem sea_m (hA : RowOK A) (y : Nat → Rat) (t : Nat) : sea A y (t % plc A) = sea A y t := by
  unfold sea
  by_cases h : aP A = 0
  · rw [h]; rfl
  · rw [plc_P hA h]
    exact su_congr (fun k _ => by rw [seac_m])
/-- both make the same -/
theorem mk_same (hA : RowOK A) (y : Nat → Rat) (t : Nat) : su (fun l => cnv A y l * Cq A u l t) (plc A + nU A) = su (fun l => y l * ((lc (rcl A) l t : Int) : Rat)) (NN A) := by
  have hm : t % plc A < plc A := Nat.mod_lt _ (by have := plc_b hA; omega)
  rw [mk_c hA, mk_r]
  have e1 : cnv A y (t % plc A) = y 0 + sea A y t := by unfold cnv; rw [if_pos hm, sea_m hA]
  have e2 : su (fun i => cnv A y (plc A + i) * ((lc (uc A) i t : Int) : Rat)) (nU A) = su (fun i => y (1 + i) * ((lc (uc A) i t : Int) : Rat)) (nU A) := su_congr (fun i hi => by
    unfold cnv
    rw [if_neg (by omega), Nat.add_sub_cancel_left])
  rw [e1, e2]
  grind
theorem seac_lt {p k l : Nat} (hl : l < p - 1) : seac p k l = if k = l then 1 else 0 := by
  unfold seac
  rw [Nat.mod_eq_of_lt (by omega)]
  by_cases h : k = l
  · rw [if_pos h.symm, if_pos h]
  · rw [if_neg (fun q => h q.symm), if_neg h, if_neg (by omega)]
theorem seac_top {p k : Nat} (hk : k < p - 1) : seac p k (p - 1) = -1 := by
  unfold seac
  rw [Nat.mod_eq_of_lt (by omega), if_neg (by omega), if_pos rfl]
theorem sea_lt (y : Nat → Rat) {l : Nat} (hl : l < aP A - 1) : sea A y l = y (1 + nU A + l) := by
  unfold sea
  have e4 := su_single (a := y (1 + nU A + l)) (i := l) (aP A - 1)
  rw [if_pos hl] at e4
  rw [← e4]
  refine su_congr (fun k hk => ?_)
  rw [seac_lt hl]
  by_cases q : k = l
  · rw [if_pos q, if_pos q, q, cast_1]; grind
  · rw [if_neg q, if_neg q, cast_0]; grind
theorem sea_top (y : Nat → Rat) : sea A y (aP A - 1) = -su (fun k => y (1 + nU A + k)) (aP A - 1) := by
  unfold sea
  have e : su (fun k => y (1 + nU A + k) * ((seac (aP A) k (aP A - 1) : Int) : Rat)) (aP A - 1) = su (fun k => (-1 : Rat) * y (1 + nU A + k)) (aP A - 1) := su_congr (fun k hk => by
    rw [seac_top hk]
    have : ((-1 : Int) : Rat) = -1 := rfl
    rw [this]; grind)
  rw [e, su_mul]
  grind
theorem su_const (a : Rat) : ∀ n : Nat, su (fun _ => a) n = (n : Int) * a
  | 0 => by show (0 : Rat) = ((0 : Int) : Rat) * a; rw [cast_0]; grind
  | n + 1 => by
    show su (fun _ => a) n + a = _
    rw [su_const a n]
    have : (((n + 1 : Nat) : Int) : Rat) = ((n : Int) : Rat) + 1 := by
      have e : ((n + 1 : Nat) : Int) = (n : Int) + 1 := by omega
      rw [e, cast_add, cast_1]
    rw [this]; grind
/-- the level is the mean of the places -/
theorem cnv_sum (hA : RowOK A) (y : Nat → Rat) : su (fun l => cnv A y l) (plc A) = (plc A : Int) * y 0 := by
  have e : su (fun l => cnv A y l) (plc A) = su (fun l => y 0 + sea A y l) (plc A) := su_congr (fun l hl => by unfold cnv; rw [if_pos hl])
  rw [e, su_add, su_const]
  have e2 : su (fun l => sea A y l) (plc A) = 0 := by
    by_cases h : aP A = 0
    · refine su_zero (fun l _ => ?_)
      unfold sea
      rw [h]; rfl
    · have hP := hA.2.2.2.2.2.2
      rw [plc_P hA h, show aP A = (aP A - 1) + 1 by omega]
      show su (fun l => sea A y l) (aP A - 1) + sea A y (aP A - 1) = 0
      rw [sea_top, su_congr (g := fun k => y (1 + nU A + k)) (fun l hl => sea_lt y hl)]
      grind
  rw [e2]
  grind
theorem plc_ne (hA : RowOK A) : ((plc A : Int) : Rat) ≠ 0 := cast_pos (by have := plc_b hA; omega)
theorem cnv_cni (hA : RowOK A) (x : Nat → Rat) {l : Nat} (hl : l < plc A + nU A) : cnv A (cni A x) l = x l := by
  have hP := hA.2.2.2.2.2.2
  have hne := plc_ne hA
  unfold cnv
  by_cases h : l < plc A
  · rw [if_pos h]
    have e0 : cni A x 0 = su x (plc A) / (plc A : Int) := if_pos rfl
    by_cases hp : aP A = 0
    · have e1 : plc A = 1 := if_pos hp
      have hl0 : l = 0 := by omega
      have e2 : sea A (cni A x) l = 0 := by unfold sea; rw [hp]; rfl
      rw [e0, e2, e1, su_1, hl0]
      have : (((1 : Nat) : Int) : Rat) = 1 := rfl
      rw [this]; grind
    · have e1 := plc_P hA hp
      have es : ∀ k, k < aP A - 1 → cni A x (1 + nU A + k) = x k - su x (plc A) / (plc A : Int) := fun k hk => by
        unfold cni
        rw [if_neg (by omega), if_neg (by omega), show 1 + nU A + k - (1 + nU A) = k by omega]
      by_cases q : l < aP A - 1
      · rw [sea_lt _ q, es l q, e0]; grind
      · have hl2 : l = aP A - 1 := by omega
        rw [hl2, sea_top, su_congr es, e0]
        have e5 : su (fun k => x k - su x (plc A) / (plc A : Int)) (aP A - 1) = su x (aP A - 1) - ((aP A - 1 : Nat) : Int) * (su x (plc A) / (plc A : Int)) := by
          have := su_add (f := x) (g := fun _ => -(su x (plc A) / (plc A : Int))) (n := aP A - 1)
          rw [su_const] at this
          have e6 : su (fun k => x k - su x (plc A) / (plc A : Int)) (aP A - 1) = su (fun k => x k + -(su x (plc A) / (plc A : Int))) (aP A - 1) := su_congr (fun k _ => by grind)
          rw [e6, this]; grind
        rw [e5]
        have e7 : su x (plc A) = su x (aP A - 1) + x (aP A - 1) := by
          rw [e1]
          obtain ⟨m, hm⟩ : ∃ m, aP A = m + 1 := ⟨aP A - 1, by omega⟩
          rw [hm, Nat.add_sub_cancel]
          rfl
        have e8 : ((plc A : Int) : Rat) = ((aP A - 1 : Nat) : Int) + 1 := by
          rw [e1]
          have : ((aP A : Nat) : Int) = ((aP A - 1 : Nat) : Int) + 1 := by omega
          rw [this, cast_add, cast_1]
        rw [e7]
        generalize ((plc A : Int) : Rat) = P at *
        generalize (((aP A - 1 : Nat) : Int) : Rat) = Q at *
        generalize su x (aP A - 1) = s
        generalize x (aP A - 1) = v
        subst e8
        grind
  · rw [if_neg h]
    unfold cni
    rw [if_neg (by omega), if_pos (by omega)]
    congr 1
    omega
theorem cnv_inj (hA : RowOK A) {y : Nat → Rat} (h : ∀ l, l < plc A + nU A → cnv A y l = 0) : ∀ l, l < NN A → y l = 0 := by
  have hN := NN_1 A
  have hNe := NN_eq hA
  have hP := hA.2.2.2.2.2.2
  have hs := cnv_sum hA y
  rw [su_zero (fun l hl => h l (by omega))] at hs
  have hne := plc_ne hA
  have h0 : y 0 = 0 := by
    generalize ((plc A : Int) : Rat) = P at *
    grind
  intro l hl
  by_cases q0 : l = 0
  · rw [q0]; exact h0
  · by_cases q1 : l ≤ nU A
    · have := h (plc A + (l - 1)) (by omega)
      unfold cnv at this
      rw [if_neg (by omega), Nat.add_sub_cancel_left, show 1 + (l - 1) = l by omega] at this
      exact this
    · obtain ⟨k, rfl⟩ := Nat.exists_eq_add_of_le (show 1 + nU A ≤ l by omega)
      have hk : k < aP A - 1 := by omega
      have hpz : aP A ≠ 0 := by omega
      have e1 := plc_P hA hpz
      have := h k (by omega)
      unfold cnv at this
      rw [if_pos (by omega), sea_lt _ hk, h0] at this
      grind
theorem Cr_su (y : Nat → Rat) (t : Nat) : su (fun l => y l * Cr A u l t) (NN A) = su (fun l => y l * ((lc (rcl A) l t : Int) : Rat)) (NN A) := su_congr (fun l hl => by unfold Cr crI; rw [if_pos hl])
/-- OPEN in one means OPEN in the other -/
theorem piv_r (hA : RowOK A) : Piv (wq A) (Cr A u) (NN A) ↔ Pv A u (nU A) := by
  constructor
  · intro hp
    refine piv_of (wq_W A) (fun x hx l hl => ?_)
    have h1 := indep (wq_W A) hp (x := cni A x) (fun t ht hwt => by
      rw [Cr_su, ← mk_same (u := u) hA, su_congr (fun l hl => by rw [cnv_cni hA x hl])]
      exact hx t ht hwt)
    rw [← cnv_cni hA x hl]
    unfold cnv
    have hN := NN_1 A
    have hNe := NN_eq hA
    split
    · rw [h1 0 (by omega)]
      have : sea A (cni A x) l = 0 := su_zero (fun k hk => by rw [h1 (1 + nU A + k) (by omega)]; grind)
      rw [this]; grind
    · exact h1 _ (by omega)
  · intro hp
    refine piv_of (wq_W A) (fun y hy => cnv_inj hA (indep (wq_W A) hp (x := cnv A y) (fun t ht hwt => ?_)))
    rw [mk_same hA, ← Cr_su (u := u)]
    exact hy t ht hwt
end LI
