/-! the reference's numbers and the class's -/
def Xr (A : AR) (u : Option Nat) (l : Nat) : Rat := xs (wq A) (Cr A u) (NN A) (NN A) l
def Dr (A : AR) (u : Option Nat) : Rat := Dk (wq A) (Cr A u) (NN A)
section SA
variable {A : AR} {u : Option Nat}
theorem res_c (t : Nat) : rs (wq A) (Cq A u) (plc A + nU A) (plc A + nU A) t = ((yv A u t : Int) : Rat) - su (fun l => Xq A u l * Cq A u l t) (plc A + nU A) := by
  rw [rs_eq, sl_su, Cq_u]
  have : cf A u (nU A) t = yv A u t := if_neg (by omega)
  rw [this]
  rfl
theorem res_r (t : Nat) : rs (wq A) (Cr A u) (NN A) (NN A) t = ((yv A u t : Int) : Rat) - su (fun l => Xr A u l * Cr A u l t) (NN A) := by
  rw [rs_eq, sl_su]
  have : Cr A u (NN A) t = ((yv A u t : Int) : Rat) := by unfold Cr crI; rw [if_neg (by omega)]
  rw [this]
  rfl
theorem sol_same (hA : RowOK A) (hp : Pv A u (nU A)) : ∀ l, l < plc A + nU A → cnv A (Xr A u) l = Xq A u l := by
  have hpr := (piv_r hA).mpr hp
  have hw := wq_W A
  have ef : ∀ t, su (fun l => (cnv A (Xr A u) l - Xq A u l) * Cq A u l t) (plc A + nU A) = rs (wq A) (Cq A u) (plc A + nU A) (plc A + nU A) t - 1 * rs (wq A) (Cr A u) (NN A) (NN A) t := fun t => by
    rw [res_c, res_r, Cr_su, ← mk_same (u := u) hA]
    have e := su_add (f := fun l => cnv A (Xr A u) l * Cq A u l t) (g := fun l => (-1 : Rat) * (Xq A u l * Cq A u l t)) (n := plc A + nU A)
    rw [su_mul] at e
    have e2 : su (fun l => (cnv A (Xr A u) l - Xq A u l) * Cq A u l t) (plc A + nU A) = su (fun l => cnv A (Xr A u) l * Cq A u l t + (-1 : Rat) * (Xq A u l * Cq A u l t)) (plc A + nU A) := su_congr (fun l _ => by grind)
    rw [e2, e]
    grind
  generalize hz : (fun l => cnv A (Xr A u) l - Xq A u l) = z at *
  have ez : ∀ l, z l = cnv A (Xr A u) l - Xq A u l := fun l => by rw [← hz]
  have ef' : ∀ t, su (fun l => z l * Cq A u l t) (plc A + nU A) = rs (wq A) (Cq A u) (plc A + nU A) (plc A + nU A) t - 1 * rs (wq A) (Cr A u) (NN A) (NN A) t := fun t => by
    rw [← ef]
    exact su_congr (fun l _ => by rw [ez])
  have h1 : ip (wq A) (rs (wq A) (Cq A u) (plc A + nU A) (plc A + nU A)) (fun t => su (fun l => z l * Cq A u l t) (plc A + nU A)) = 0 := by
    have e : (fun t => su (fun l => z l * Cq A u l t) (plc A + nU A)) = (fun t => sl (fun l => z l * Cq A u l t) (Kl (plc A + nU A))) := by funext t; rw [sl_su]
    rw [e, ip_sl]
    exact sl_zero (fun l hl => by rw [orth hp _ _ (mem_Kl.mp hl)]; grind)
  have h2 : ip (wq A) (rs (wq A) (Cr A u) (NN A) (NN A)) (fun t => su (fun l => z l * Cq A u l t) (plc A + nU A)) = 0 := by
    have e : (fun t => su (fun l => z l * Cq A u l t) (plc A + nU A)) = (fun t => sl (fun l => cni A z l * Cr A u l t) (Kl (NN A))) := by
      funext t
      rw [sl_su, Cr_su, ← mk_same (u := u) hA]
      exact su_congr (fun l hl => by rw [cnv_cni hA z hl])
    rw [e, ip_sl]
    exact sl_zero (fun l hl => by rw [orth hpr _ _ (mem_Kl.mp hl)]; grind)
  have h3 : ip (wq A) (fun t => su (fun l => z l * Cq A u l t) (plc A + nU A)) (fun t => su (fun l => z l * Cq A u l t) (plc A + nU A)) = 0 := by
    have e := ip_congr (w := wq A) (f := fun t => su (fun l => z l * Cq A u l t) (plc A + nU A)) (g := fun t => rs (wq A) (Cq A u) (plc A + nU A) (plc A + nU A) t - 1 * rs (wq A) (Cr A u) (NN A) (NN A) t) (h := fun t => su (fun l => z l * Cq A u l t) (plc A + nU A)) (fun t _ => ef' t)
    rw [e, ip_sub, h1, h2]
    grind
  have h4 := ip_eq0 hw h3
  have h5 := indep hw hp (x := z) h4
  intro l hl
  have := h5 l hl
  rw [ez] at this
  grind
theorem Xq_u (hA : RowOK A) (hp : Pv A u (nU A)) {i : Nat} (hi : i < nU A) : Xq A u (plc A + i) = Xr A u (1 + i) := by
  rw [← sol_same hA hp _ (by omega)]
  unfold cnv
  rw [if_neg (by omega), Nat.add_sub_cancel_left]
theorem lev_r (hA : RowOK A) (hp : Pv A u (nU A)) : levR A u = Xr A u 0 := by
  unfold levR
  have e : su (fun p => Xq A u p) (plc A) = su (fun l => cnv A (Xr A u) l) (plc A) := su_congr (fun l hl => (sol_same hA hp l (by omega)).symm)
  rw [e, cnv_sum hA]
  have hne := plc_ne hA
  generalize ((plc A : Int) : Rat) = P at *
  grind
theorem Xq_p (hA : RowOK A) (hp : Pv A u (nU A)) {p : Nat} (hl : p < plc A) : Xq A u p = Xr A u 0 + sea A (Xr A u) p := by
  rw [← sol_same hA hp _ (by omega)]
  unfold cnv
  rw [if_pos hl]
theorem cst_r (hA : RowOK A) (hp : Pv A u (nU A)) : cstR A u = Sk (wq A) (Cr A u) (NN A) (NN A) (NN A) := by
  have e : ∀ t, rs (wq A) (Cq A u) (plc A + nU A) (plc A + nU A) t = rs (wq A) (Cr A u) (NN A) (NN A) t := fun t => by
    have e2 : su (fun l => Xq A u l * Cq A u l t) (plc A + nU A) = su (fun l => cnv A (Xr A u) l * Cq A u l t) (plc A + nU A) := su_congr (fun l hl => by rw [sol_same hA hp l hl])
    rw [res_c, res_r, Cr_su, ← mk_same (u := u) hA, e2]
  unfold cstR Sk ip
  exact su_congr (fun t _ => by rw [e t])
/-- what is given at a tick: 0 trend, 1 season, 2 feasts, 3 all -/
def giR (A : AR) (u : Option Nat) (t w : Nat) : Rat := su (fun l => if w = 3 ∨ kd A l = w then Xr A u l * ((lc (rcl A) l t : Int) : Rat) else 0) (NN A)
theorem kd_0 : kd A 0 = 0 := if_pos (Nat.zero_le _)
theorem kd_u {i : Nat} (hi : i < nU A) : kd A (1 + i) = if i < fFr A then 0 else 2 := by
  unfold kd
  by_cases h : i < fFr A
  · rw [if_pos (by omega), if_pos h]
  · rw [if_neg (by omega), if_neg h, if_pos (by omega)]
theorem kd_s {k : Nat} : kd A (1 + nU A + k) = 1 := by
  have := fFr_le (A := A)
  unfold kd
  rw [if_neg (by omega), if_neg (by omega)]
theorem gi_split (t w : Nat) : giR A u t w = (if w = 3 ∨ 0 = w then Xr A u 0 else 0) + (su (fun i => if w = 3 ∨ (if i < fFr A then 0 else 2) = w then Xr A u (1 + i) * ((lc (uc A) i t : Int) : Rat) else 0) (nU A) + (if w = 3 ∨ 1 = w then sea A (Xr A u) t else 0)) := by
  unfold giR
  rw [NN_1, su_app, su_1, su_app]
  have e0 : (if w = 3 ∨ kd A 0 = w then Xr A u 0 * ((lc (rcl A) 0 t : Int) : Rat) else 0) = (if w = 3 ∨ 0 = w then Xr A u 0 else 0) := by
    rw [kd_0, lc_r0, cast_1]
    split <;> grind
  have e1 : su (fun l => if w = 3 ∨ kd A (1 + l) = w then Xr A u (1 + l) * ((lc (rcl A) (1 + l) t : Int) : Rat) else 0) (nU A) = su (fun i => if w = 3 ∨ (if i < fFr A then 0 else 2) = w then Xr A u (1 + i) * ((lc (uc A) i t : Int) : Rat) else 0) (nU A) := su_congr (fun i hi => by rw [kd_u hi, lc_ru hi])
  have e2 : su (fun l => if w = 3 ∨ kd A (1 + (nU A + l)) = w then Xr A u (1 + (nU A + l)) * ((lc (rcl A) (1 + (nU A + l)) t : Int) : Rat) else 0) (aP A - 1) = (if w = 3 ∨ 1 = w then sea A (Xr A u) t else 0) := by
    by_cases h : w = 3 ∨ 1 = w
    · rw [if_pos h]
      unfold sea
      exact su_congr (fun k hk => by rw [show 1 + (nU A + k) = 1 + nU A + k by omega, kd_s, lc_rs hk, if_pos h])
    · rw [if_neg h]
      exact su_zero (fun k hk => by rw [show 1 + (nU A + k) = 1 + nU A + k by omega, kd_s, if_neg h])
  rw [e0, e1, e2]
theorem un_r (hA : RowOK A) (hp : Pv A u (nU A)) (t a : Nat) {b : Nat} (hb : b ≤ nU A) : unR A u t a b = su (fun i => if a ≤ i then Xr A u (1 + i) * ((lc (uc A) i t : Int) : Rat) else 0) b := by
  unfold unR
  exact su_congr (fun i hi => by rw [Xq_u hA hp (by omega)])
theorem gi_3 (hA : RowOK A) (hp : Pv A u (nU A)) (t : Nat) : giR A u t 3 = foR A u t := by
  have hm : t % plc A < plc A := Nat.mod_lt _ (by have := plc_b hA; omega)
  rw [gi_split, if_pos (Or.inl rfl), if_pos (Or.inl rfl)]
  unfold foR
  rw [un_r hA hp t 0 (Nat.le_refl _), Xq_p hA hp hm, sea_m hA]
  have e : su (fun i => if 3 = 3 ∨ (if i < fFr A then 0 else 2) = 3 then Xr A u (1 + i) * ((lc (uc A) i t : Int) : Rat) else 0) (nU A) = su (fun i => if 0 ≤ i then Xr A u (1 + i) * ((lc (uc A) i t : Int) : Rat) else 0) (nU A) := su_congr (fun i _ => by rw [if_pos (Or.inl rfl), if_pos (Nat.zero_le _)])
  rw [e]
  grind
theorem gi_0 (hA : RowOK A) (hp : Pv A u (nU A)) (t : Nat) : giR A u t 0 = levR A u + unR A u t 0 (fFr A) := by
  rw [gi_split, if_pos (Or.inr rfl), if_neg (by omega), lev_r hA hp, un_r hA hp t 0 fFr_le, nU_len, su_app]
  have e1 : su (fun i => if 0 = 3 ∨ (if i < fFr A then 0 else 2) = 0 then Xr A u (1 + i) * ((lc (uc A) i t : Int) : Rat) else 0) (fFr A) = su (fun i => if 0 ≤ i then Xr A u (1 + i) * ((lc (uc A) i t : Int) : Rat) else 0) (fFr A) := su_congr (fun i hi => by rw [if_pos hi, if_pos (Or.inr rfl), if_pos (Nat.zero_le _)])
  have e2 : su (fun l => if 0 = 3 ∨ (if fFr A + l < fFr A then 0 else 2) = 0 then Xr A u (1 + (fFr A + l)) * ((lc (uc A) (fFr A + l) t : Int) : Rat) else 0) (aC A) = 0 := su_zero (fun l _ => by rw [if_neg (show ¬ fFr A + l < fFr A by omega), if_neg (by omega)])
  rw [e1, e2]
  grind
theorem gi_1 (hA : RowOK A) (hp : Pv A u (nU A)) (t : Nat) : giR A u t 1 = Xq A u (t % plc A) - levR A u := by
  have hm : t % plc A < plc A := Nat.mod_lt _ (by have := plc_b hA; omega)
  rw [gi_split, if_neg (by omega), if_pos (Or.inr rfl), lev_r hA hp, Xq_p hA hp hm, sea_m hA]
  have e2 : su (fun i => if 1 = 3 ∨ (if i < fFr A then 0 else 2) = 1 then Xr A u (1 + i) * ((lc (uc A) i t : Int) : Rat) else 0) (nU A) = 0 := su_zero (fun l _ => by
    rw [if_neg]
    intro q
    rcases q with q | q
    · omega
    · split at q <;> omega)
  rw [e2]
  grind
theorem gi_2 (hA : RowOK A) (hp : Pv A u (nU A)) (t : Nat) : giR A u t 2 = unR A u t (fFr A) (nU A) := by
  rw [gi_split, if_neg (by omega), if_neg (by omega), un_r hA hp t _ (Nat.le_refl _)]
  have e2 : su (fun i => if 2 = 3 ∨ (if i < fFr A then 0 else 2) = 2 then Xr A u (1 + i) * ((lc (uc A) i t : Int) : Rat) else 0) (nU A) = su (fun i => if fFr A ≤ i then Xr A u (1 + i) * ((lc (uc A) i t : Int) : Rat) else 0) (nU A) := su_congr (fun i _ => by
    by_cases h : i < fFr A
    · rw [if_pos h, if_neg (by omega), if_neg (by omega)]
    · rw [if_neg h, if_pos (Or.inr rfl), if_pos (by omega)])
  rw [e2]
  grind
/-- in whole numbers -/
def zr (A : AR) (u : Option Nat) (l : Nat) : Int := zz (Dr A u * Xr A u l)
def dr (A : AR) (u : Option Nat) : Int := zz (Dr A u)
theorem dr_R (hA : RowOK A) (hp : Pv A u (nU A)) : ((dr A u : Int) : Rat) = Dr A u := zz_of (Dk_isZ (Ar_Z A u) ((piv_r hA).mpr hp))
theorem dr_pos (hA : RowOK A) (hp : Pv A u (nU A)) : 1 ≤ dr A u := by
  have h := Dk_pos (wq_W A) ((piv_r hA).mpr hp)
  have e := dr_R hA hp
  have h' : (0 : Rat) < Dr A u := h
  rw [← e, ← cast_0] at h'
  have := cast_lt.mp h'
  omega
theorem zr_R (hA : RowOK A) (hp : Pv A u (nU A)) {l : Nat} (hl : l < NN A) : ((zr A u l : Int) : Rat) = (dr A u : Int) * Xr A u l := by
  rw [dr_R hA hp]
  exact zz_of (Dx_isZ (Ar_Z A u) ((piv_r hA).mpr hp) _ hl)
theorem zr_b (hA : RowOK A) (hp : Pv A u (nU A)) {l : Nat} (hl : l < NN A) : az (zr A u l) < 1073741824 ^ 17 := by
  have hpr := (piv_r hA).mpr hp
  have e : Vk (wq A) (Cr A u) (NN A) l (NN A) = Dr A u * Xr A u l := if_pos hl
  have := az_bd (Vk_Z (Ar_Z A u) hpr l (NN A)) (Vk_bd (Ar_bd hA u) (by have := NN_le hA; omega) hpr l (NN A))
  rw [e] at this
  exact this
theorem dr_b (hA : RowOK A) (hp : Pv A u (nU A)) : az (dr A u) < 1073741824 ^ 17 := az_bd (Dk_isZ (Ar_Z A u) ((piv_r hA).mpr hp)) (Dk_bd (Ar_bd hA u) (by have := NN_le hA; omega) ((piv_r hA).mpr hp))
def gzI (A : AR) (u : Option Nat) (t w n : Nat) : Int := si (fun i => if w = 3 ∨ kd A i = w then lc (rcl A) i t * zr A u i else 0) n
theorem gz_R (hA : RowOK A) (hp : Pv A u (nU A)) (t w : Nat) : ((gzI A u t w (NN A) : Int) : Rat) = (dr A u : Int) * giR A u t w := by
  unfold gzI giR
  rw [← su_cast, ← su_mul]
  refine su_congr (fun i hi => ?_)
  by_cases q : w = 3 ∨ kd A i = w
  · rw [if_pos q, if_pos q, cast_mul, zr_R hA hp hi]; grind
  · rw [if_neg q, if_neg q, cast_0]; grind
def coI (A : AR) (u : Option Nat) (n : Nat) : Int := arS A u (NN A) (NN A) * dr A u - si (fun i => zr A u i * arS A u i (NN A)) n
theorem co_R (hA : RowOK A) (hp : Pv A u (nU A)) : ((coI A u (NN A) : Int) : Rat) = (dr A u : Int) * cstR A u := by
  rw [cst_r hA hp, Sk_Am ((piv_r hA).mpr hp), sl_su]
  unfold coI
  rw [cast_sub, cast_mul, ← su_cast, ← Am_r]
  have e : su (fun t => ((zr A u t * arS A u t (NN A) : Int) : Rat)) (NN A) = (dr A u : Int) * su (fun l => Am (wq A) (Cr A u) (NN A) l * xs (wq A) (Cr A u) (NN A) (NN A) l) (NN A) := by
    rw [← su_mul]
    refine su_congr (fun i hi => ?_)
    rw [cast_mul, zr_R hA hp hi, ← Am_r, Am_comm i (NN A)]
    unfold Xr
    grind
  rw [e]
  grind
end SA
