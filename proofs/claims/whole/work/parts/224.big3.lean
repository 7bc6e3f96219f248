/-! Big: compareSize, divide -/
/-- digits that agree above i and differ at i -/
theorem pv_cmp {f g : Nat → Int} {n i : Nat} (hi : i < n) (hf : dig f n) (hg : dig g n) (he : ∀ j, i < j → j < n → f j = g j) (hlt : f i < g i) : pv 134217728 f n < pv 134217728 g n := by
  obtain ⟨d, rfl⟩ : ∃ d, n = (i + 1) + d := ⟨n - (i + 1), by omega⟩
  rw [pv_split (f := f) (n := i + 1) (m := d), pv_split (f := g) (n := i + 1) (m := d), pv_congr (n := d) (f := fun j => f (i + 1 + j)) (g := fun j => g (i + 1 + j)) (fun j hj => he _ (by omega) (by omega))]
  have h1 := pv_lt (B := 134217728) (by decide) (n := i) (f := f) (fun j hj => hf j (by omega))
  have h2 := pv_nn (B := 134217728) (by decide) (n := i) (f := g) (fun j hj => (hg j (by omega)).1)
  have h3 : pv 134217728 f (i + 1) < pv 134217728 g (i + 1) := by
    unfold pv
    have h4 : (f i + 1) * 134217728 ^ i ≤ g i * 134217728 ^ i := Int.mul_le_mul_of_nonneg_right (by omega) (Int.pow_nonneg (by decide))
    have h5 : (f i + 1) * 134217728 ^ i = f i * 134217728 ^ i + 134217728 ^ i := by grind
    omega
  exact Int.add_lt_add_right h3 _
/-- fewer digits, a smaller number -/
theorem pv_less {f g : Nat → Int} {n m : Nat} (h : n < m) (hf : dig f n) (hg : dig g m) (ht : g (m - 1) ≠ 0) : pv 134217728 f n < pv 134217728 g m := by
  have h1 := pv_lt (B := 134217728) (by decide) hf
  have h2 := pv_pos (B := 134217728) (by decide) (by omega) hg ht
  have h3 : (134217728 : Int) ^ n ≤ 134217728 ^ (m - 1) := ipow_le (by decide) (by omega)
  omega
def cmp3 (x y : Int) : Int32 := if x < y then -1 else if x = y then 0 else 1
def az (z : Int) : Int := if z < 0 then -z else z
theorem az_def (z : Int) : az z = if z < 0 then -z else z := rfl
theorem BigV.toAz {D : Dat} {a la : Nat} {z : Int} (h : BigV D a la z) : ∃ n : Nat, n ≤ 12 ∧ D.1 a 1 = nI n ∧ dig (lm D la) n ∧ (0 < n → lm D la (n - 1) ≠ 0) ∧ isB (D.1 a 2) ∧ (n = 0 → D.1 a 2 = 0) ∧ az z = pv 134217728 (lm D la) n := by
  obtain ⟨n, hn, h1, hd, ht, hb, h0, rfl⟩ := h
  refine ⟨n, hn, h1, hd, ht, hb, h0, ?_⟩
  have h2 := pv_nn (B := 134217728) (by decide) (n := n) (f := lm D la) (fun i hi => (hd i hi).1)
  rw [az_def]
  rcases hb with e | e <;> rw [e]
  · rw [sg_0]; split <;> omega
  · rw [sg_1]; split <;> omega
theorem nI_sub1 {n : Nat} (h : 0 < n) : nI n - 1 = nI (n - 1) := by
  obtain ⟨m, rfl⟩ : ∃ m, n = m + 1 := ⟨n - 1, by omega⟩
  exact nI_pred m
theorem nI_m1 {n : Nat} (h : 0 < n) : nI n + (-1) = nI (n - 1) := by
  obtain ⟨m, rfl⟩ : ∃ m, n = m + 1 := ⟨n - 1, by omega⟩
  exact pk_m1 m
theorem cmp_loop {G : Shp} {D : Dat} {a la b lb : Nat} {n : Nat} (hG : BG G a la) (hG2 : BG G b lb) (hn : n ≤ 12) (hd : dig (lm D la) n) (hd2 : dig (lm D lb) n) {post : Int32 → Dat → Prop} (k : post (cmp3 (pv 134217728 (lm D la) n) (pv 134217728 (lm D lb) n)) D) : ∀ (i : Nat), i ≤ n → (∀ j, i ≤ j → j < n → lm D la j = lm D lb j) → X0_compareSize_l35 G post a b la lb (i + 1) (nI i - 1) D := by
  intro i
  induction i with
  | zero =>
    intro _ he
    show X0_compareSize_l35_b G post a b la lb _ _ _
    unfold X0_compareSize_l35_b
    refine ⟨fun _ => ?_, fun q => absurd (by decide) q⟩
    have e : pv 134217728 (lm D la) n = pv 134217728 (lm D lb) n := pv_congr (fun j hj => he j (by omega) hj)
    rw [e] at k
    unfold cmp3 at k
    rw [if_neg (by omega), if_pos rfl] at k
    exact k
  | succ i ih =>
    intro hi he
    show X0_compareSize_l35_b G post a b la lb _ _ _
    unfold X0_compareSize_l35_b X0_compareSize_j76
    rw [nI_pred]
    refine ⟨fun q => absurd q (nI_pos (by omega)), fun _ => ⟨by rw [hG.2.2.2]; exact vp_in_nI (by omega) (by omega), by rw [hG2.2.2.2]; exact vp_in_nI (by omega) (by omega), fun q => ?_, fun q => ⟨by rw [hG.2.2.2]; exact vp_in_nI (by omega) (by omega), by rw [hG2.2.2.2]; exact vp_in_nI (by omega) (by omega), ?_⟩⟩⟩
    · rw [nI_clamp (by omega)] at q
      have e : nI i + (-1) = nI i - 1 := by
        apply Int32.toInt_inj.mp
        have h1 : (nI i).toInt = (i : Int) := nI_toInt (by omega)
        rw [I_add (by rw [h1]; show (-2147483648 : Int) ≤ i + -1; omega) (by rw [h1]; show (i : Int) + -1 < 2147483648; omega), I_sub (by rw [h1]; show (-2147483648 : Int) ≤ i - 1; omega) (by rw [h1]; show (i : Int) - 1 < 2147483648; omega)]
        rfl
      rw [e]
      refine ih (by omega) (fun j h1 h2 => ?_)
      by_cases w : j = i
      · unfold lm; rw [w, q]
      · exact he j (by omega) h2
    · rw [nI_clamp (by omega)] at q ⊢
      have hne : lm D la i ≠ lm D lb i := fun w => q ((L_eq _ _).mpr w)
      refine ⟨fun w => ?_, fun w => ?_⟩
      · have w : lm D lb i ≤ lm D la i := (L_le _ _).mp w
        have h1 := pv_cmp (i := i) (by omega) hd2 hd (fun j h1 h2 => (he j (by omega) h2).symm) (by omega)
        unfold cmp3 at k
        rw [if_neg (by omega), if_neg (by omega)] at k
        exact k
      · have w : ¬ lm D lb i ≤ lm D la i := fun z => w ((L_le _ _).mpr z)
        have h1 := pv_cmp (i := i) (by omega) hd hd2 (fun j h1 h2 => he j (by omega) h2) (by omega)
        unfold cmp3 at k
        rw [if_pos h1] at k
        exact k
theorem compareSize_sp {G : Shp} {D : Dat} {a la b lb : Nat} {z w : Int} (hG : BG G a la) (hG2 : BG G b lb) (h : BigV D a la z) (h2 : BigV D b lb w) {post : Int32 → Dat → Prop} (k : post (cmp3 (az z) (az w)) D) : X0_compareSize_wp G D a b post := by
  obtain ⟨n, hn, h1, hd, ht, hb, h0, hz⟩ := h.toAz
  obtain ⟨m, hm, i1, id, it, ib, i0, iz⟩ := h2.toAz
  rw [hz, iz] at k
  refine ⟨hG.1, hG2.1, la, hG.2.1, hG.2.2.1, lb, hG2.2.1, hG2.2.2.1, ?_⟩
  rw [h1, i1]
  unfold X0_compareSize_j27
  refine ⟨fun q => ?_, fun q => ⟨fun w => ?_, fun w => ?_⟩⟩
  · have : n = m := (nI_eq (by omega) (by omega)).mp q
    subst this
    exact ⟨n + 1, cmp_loop hG hG2 hn hd id k n (Nat.le_refl n) (fun j h1 h2 => by omega)⟩
  · have hne : n ≠ m := fun e => q (by rw [e])
    have w : m ≤ n := (nI_leI (by omega) (by omega)).mp w
    have h3 := pv_less (show m < n by omega) id hd (ht (by omega))
    unfold cmp3 at k
    rw [if_neg (by omega), if_neg (by omega)] at k
    exact k
  · have w : ¬ m ≤ n := fun e => w ((nI_leI (by omega) (by omega)).mpr e)
    have h3 := pv_less (show n < m by omega) hd id (it (by omega))
    unfold cmp3 at k
    rw [if_pos h3] at k
    exact k
/-! divide: pieces of a limb go in so that what is left fits into a long -/
theorem div_step {δ L limb share left : Int} {b t : Nat} (hd : 0 < δ) (hbt : b ≤ t) (ht : t ≤ 27) (hs : L * 2 ^ (27 - t) + limb / 2 ^ t = δ * share + left) : L * 2 ^ (27 - (t - b)) + limb / 2 ^ (t - b) = δ * (share * 2 ^ b + (left * 2 ^ b + limb / 2 ^ (t - b) % 2 ^ b) / δ) + (left * 2 ^ b + limb / 2 ^ (t - b) % 2 ^ b) % δ := by
  have e1 : (2 : Int) ^ (27 - (t - b)) = 2 ^ (27 - t) * 2 ^ b := by rw [← Int.pow_add]; congr 1; omega
  have e2 : limb / 2 ^ t = limb / 2 ^ (t - b) / 2 ^ b := by
    rw [Int.ediv_ediv_of_nonneg (Int.pow_nonneg (by decide)), ← Int.pow_add]
    congr 2; omega
  have e3 := Int.mul_ediv_add_emod (limb / 2 ^ (t - b)) (2 ^ b)
  have e4 := Int.mul_ediv_add_emod (left * 2 ^ b + limb / 2 ^ (t - b) % 2 ^ b) δ
  rw [e1]
  rw [e2] at hs
  generalize (left * 2 ^ b + limb / 2 ^ (t - b) % 2 ^ b) / δ = qd at *
  generalize (left * 2 ^ b + limb / 2 ^ (t - b) % 2 ^ b) % δ = rm at *
  generalize limb / 2 ^ (t - b) % 2 ^ b = pc at *
  generalize limb / 2 ^ (t - b) / 2 ^ b = hi at *
  generalize limb / 2 ^ (t - b) = lo at *
  generalize (2 : Int) ^ b = P at *
  generalize (2 : Int) ^ (27 - t) = R at *
  grind
theorem div_bound {δ L limb share left : Int} {t : Nat} (hd : 0 < δ) (hL : L < δ) (hl : limb < 134217728) (ht : t ≤ 27) (h0 : 0 ≤ left) (hs : L * 2 ^ (27 - t) + limb / 2 ^ t = δ * share + left) : share < 2 ^ (27 - t) := by
  have e1 : (134217728 : Int) = 2 ^ (27 - t) * 2 ^ t := by
    rw [← Int.pow_add, show 27 - t + t = 27 by omega]; rfl
  have h1 : limb / 2 ^ t < 2 ^ (27 - t) := by
    apply Int.ediv_lt_of_lt_mul (Int.pow_pos (by decide))
    rw [← e1]; exact hl
  have h2 : L * 2 ^ (27 - t) ≤ (δ - 1) * 2 ^ (27 - t) := Int.mul_le_mul_of_nonneg_right (by omega) (Int.pow_nonneg (by decide))
  have h3 : δ * share < δ * 2 ^ (27 - t) := by
    have : (δ - 1) * 2 ^ (27 - t) = δ * 2 ^ (27 - t) - 2 ^ (27 - t) := by grind
    omega
  exact Int.lt_of_mul_lt_mul_left h3 (by omega)
