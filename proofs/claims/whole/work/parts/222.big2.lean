/-! Big: copy, setTo, toLong -/
theorem copy_sp {G : Shp} {D : Dat} {a la b lb : Nat} {z : Int} (hG : BG G a la) (hG2 : BG G b lb) (hab : b ≠ a) (hl : lb ≠ la) (h : BigV D b lb z) {post : Dat → Prop} (k : ∀ D', Fr D D' [a] [la] → BigV D' a la z → post D') : X0_copy_wp G D a b post := by
  obtain ⟨n, hn, h1, hd, ht, hb, h0, hz⟩ := h
  refine ⟨hG.1, hG2.1, la, hG.2.1, hG.2.2.1, lb, hG2.2.1, hG2.2.2.1, ?_, ?_⟩
  · rw [dI_n _ _ _ hab]; exact hb
  rw [dI_n _ _ _ hab]
  generalize hD1 : dI (dI D a 1 (D.1 b 1)) a 2 (D.1 b 2) = D1
  have e1 : D1.1 a 1 = nI n := by rw [← hD1, dI_o _ _ _ (by decide), dI_s, h1]
  have e2 : D1.1 a 2 = D.1 b 2 := by rw [← hD1, dI_s]
  have e3 : D1.2 = D.2 := by rw [← hD1]; rfl
  have f1 : Fr D D1 [a] [la] := by
    rw [← hD1]
    exact (Fr.dI (List.mem_singleton.mpr rfl)).tr (Fr.dI (List.mem_singleton.mpr rfl))
  have key := up_loop (L := fun m i (E : Dat) => X0_copy_l18 G post a b la lb m (nI i) E) n (fun i E => E.1 = D1.1 ∧ (∀ x, x ≠ la → E.2 x = D.2 x) ∧ ∀ j, j < i → E.2 la j = D.2 lb j) ?_ ?_ 0 D1 (Nat.zero_le n) ⟨rfl, fun x _ => by rw [e3], fun j hj => by omega⟩
  · exact ⟨_, key⟩
  · intro m E hE
    show X0_copy_l18_b G post a b la lb _ _ _
    unfold X0_copy_l18_b
    rw [hE.1, e1]
    refine ⟨fun _ => ?_, fun q => absurd (nI_le (Nat.le_refl n) (by omega)) q⟩
    have f2 : Fr D E [a] [la] := ⟨fun x hx => by rw [hE.1]; exact f1.1 x hx, fun x hx => hE.2.1 x (fun q => hx (by rw [q]; exact List.mem_singleton.mpr rfl))⟩
    refine k E f2 ⟨n, hn, by rw [hE.1]; exact e1, fun i hi => ?_, fun hp => ?_, ?_, fun q => ?_, ?_⟩
    · unfold lm; rw [hE.2.2 i hi]; exact hd i hi
    · unfold lm; rw [hE.2.2 (n - 1) (by omega)]; exact ht hp
    · rw [hE.1, e2]; exact hb
    · rw [hE.1, e2]; exact h0 q
    · rw [hE.1, e2, hz]
      congr 1
      exact pv_congr (fun i hi => by unfold lm; rw [hE.2.2 i hi])
  · intro m i E hi hE hk
    show X0_copy_l18_b G post a b la lb _ _ _
    unfold X0_copy_l18_b
    rw [hE.1, e1]
    refine ⟨fun q => absurd q (nI_ge hi (by omega)), fun _ => ⟨?_, ?_, ?_⟩⟩
    · rw [hG2.2.2.2]; exact vp_in_nI (by omega) (by omega)
    · rw [hG.2.2.2]; exact vp_in_nI (by omega) (by omega)
    · rw [nI_1, nI_clamp (by omega)]
      refine hk _ ⟨hE.1, fun x hx => ?_, fun j hj => ?_⟩
      · rw [dJ_n _ _ _ hx]; exact hE.2.1 x hx
      · by_cases q : j = i
        · rw [q, dJ_s, hE.2.1 lb hl]
        · rw [dJ_o _ _ _ q]; exact hE.2.2 j (by omega)
theorem abL_int {x : Int64} (h : -9223372036854775808 < x.toInt) : (abL x).toInt = if x.toInt < 0 then -x.toInt else x.toInt := by
  unfold abL
  by_cases q : 0 < x
  · rw [if_pos q]
    have : 0 < x.toInt := (L_lt _ _).mp q
    rw [if_neg (by omega)]
  · rw [if_neg q, L_neg h]
    have : ¬ 0 < x.toInt := fun w => q ((L_lt _ _).mpr w)
    split <;> omega
theorem m27 (x : Int64) : (x &&& 134217727).toInt = x.toInt % 134217728 := L_and x 27 (by decide) (by decide +kernel)
theorem s27 (x : Int64) : (x >>> ((27 : Int32).toInt64 &&& 63)).toInt = x.toInt / 134217728 := L_shr x _ 27 (by decide +kernel)
theorem setTo_loop {G : Shp} {a la : Nat} {v : Int64} {w : Int} {post : Dat → Prop} (hG : BG G a la) {D0 : Dat} (hb : isB (D0.1 a 2)) (hw : w < 9223372036854775808) (k : ∀ D', Fr D0 D' [a] [la] → (∀ n, n ≤ 12 → D'.1 a 1 = nI n → D'.1 a 2 = D0.1 a 2 → dig (lm D' la) n → (0 < n → lm D' la (n - 1) ≠ 0) → w = pv 134217728 (lm D' la) n → post D')) : ∀ (d m : Nat) (x : Int64) (D : Dat), m + d = 12 → Fr D0 D [a] [la] → D.1 a 1 = nI m → D.1 a 2 = D0.1 a 2 → dig (lm D la) m → 0 ≤ x.toInt → (0 < m → 0 < x.toInt ∨ lm D la (m - 1) ≠ 0) → w = pv 134217728 (lm D la) m + x.toInt * 134217728 ^ m → X0_setTo_l25 G post a v la (d + 1) x D := by
  intro d
  induction d with
  | zero =>
    intro m x D hm hf h1 h2 hd hx ht hs
    obtain rfl : m = 12 := by omega
    show X0_setTo_l25_b G post a v la _ _ _
    unfold X0_setTo_l25_b X0_setTo_j72
    rw [h1]
    refine ⟨fun _ => ?_, fun q => absurd (by decide) q⟩
    have hp := pv_nn (B := 134217728) (by decide) (n := 12) (f := lm D la) (fun i hi => (hd i hi).1)
    have hx0 : x.toInt = 0 := by
      by_cases q : x.toInt = 0
      · exact q
      · exfalso
        have h3 : 1 * (134217728 : Int) ^ 12 ≤ x.toInt * 134217728 ^ 12 := Int.mul_le_mul_of_nonneg_right (by omega) (by decide)
        have h4 : (9223372036854775808 : Int) ≤ 1 * 134217728 ^ 12 := by decide
        omega
    refine k D hf 12 (Nat.le_refl _) h1 h2 hd (fun hp => (ht hp).resolve_left (by omega)) ?_
    rw [hs, hx0]; omega
  | succ d ih =>
    intro m x D hm hf h1 h2 hd hx ht hs
    show X0_setTo_l25_b G post a v la _ _ _
    unfold X0_setTo_l25_b X0_setTo_j72
    rw [h1]
    refine ⟨fun q => ?_, fun _ => ⟨fun q => ?_, fun q => ?_⟩⟩
    · rw [show (12 : Int32) = nI 12 by decide] at q
      exact absurd q (nI_ge (by omega) (by omega))
    · have hx0 : x.toInt = 0 := by
        have : x.toInt ≤ 0 := (L_le _ _).mp q
        omega
      refine k D hf m (by omega) h1 h2 hd (fun hp => (ht hp).resolve_left (by omega)) ?_
      rw [hs, hx0]; omega
    · have hx1 : 0 < x.toInt := by
        have : ¬ x.toInt ≤ 0 := fun w => q ((L_le _ _).mpr w)
        omega
      refine ⟨by rw [hG.2.2.2]; exact vp_in_nI (by omega) (by omega), ?_⟩
      rw [nI_clamp (by omega), dJ_1, h1, nI_1]
      generalize hE : dI (dJ D la m (x &&& 134217727)) a 1 (nI (m + 1)) = E
      have eL : ∀ j, j ≠ m → lm E la j = lm D la j := fun j hj => by
        unfold lm; rw [← hE]; show ((dJ D la m _).2 la j).toInt = _; rw [dJ_o _ _ _ hj]
      have eM : lm E la m = x.toInt % 134217728 := by
        unfold lm; rw [← hE]; show ((dJ D la m _).2 la m).toInt = _; rw [dJ_s, m27]
      have eP : pv 134217728 (lm E la) m = pv 134217728 (lm D la) m := pv_congr (fun i hi => eL i (by omega))
      have q1 := Int.emod_nonneg x.toInt (by decide : (134217728 : Int) ≠ 0)
      have q2 := Int.emod_lt_of_pos x.toInt (by decide : (0 : Int) < 134217728)
      refine ih (m + 1) _ E (by omega) ?_ ?_ ?_ ?_ ?_ ?_ ?_
      · rw [← hE]
        exact hf.tr ((Fr.dJ (List.mem_singleton.mpr rfl)).tr (Fr.dI (List.mem_singleton.mpr rfl)))
      · rw [← hE, dI_s]
      · rw [← hE, dI_o _ _ _ (by decide), dJ_1, h2]
      · intro i hi
        by_cases q : i = m
        · rw [q, eM]; exact ⟨q1, q2⟩
        · rw [eL i q]; exact hd i (by omega)
      · rw [s27]; omega
      · intro _
        rw [s27, Nat.add_sub_cancel, eM]
        by_cases q : 0 < x.toInt / 134217728
        · exact Or.inl q
        · right; omega
      · rw [s27]
        show w = (pv 134217728 (lm E la) m + lm E la m * 134217728 ^ m) + _
        rw [eP, eM, hs, Int.pow_succ]
        have q3 := Int.mul_ediv_add_emod x.toInt 134217728
        generalize (134217728 : Int) ^ m = P
        generalize pv 134217728 (lm D la) m = Z
        generalize x.toInt / 134217728 = u at *
        generalize x.toInt % 134217728 = r at *
        rw [← q3]
        grind
theorem setTo_sp {G : Shp} {D : Dat} {a la : Nat} (hG : BG G a la) {v : Int64} (hv : -9223372036854775808 < v.toInt) {post : Dat → Prop} (k : ∀ D', Fr D D' [a] [la] → BigV D' a la v.toInt → post D') : X0_setTo_wp G D a v post := by
  have habs := abL_int hv
  have hr := L_rng v
  refine ⟨hG.1, la, hG.2.1, hG.2.2.1, ?_⟩
  have key : ∀ (b : Int32), isB b → v.toInt = sg b * (abL v).toInt → ((abL v).toInt = 0 → b = 0) → X0_setTo_j17 G post a v la (abL v) b a D := by
    intro b hb hs hz
    refine ⟨hG.1, hb, 13, ?_⟩
    have f0 : Fr D (dI (dI D a 2 b) a 1 0) [a] [la] := (Fr.dI (List.mem_singleton.mpr rfl)).tr (Fr.dI (List.mem_singleton.mpr rfl))
    have e2 : (dI (dI D a 2 b) a 1 0).1 a 2 = b := by rw [dI_o _ _ _ (by decide), dI_s]
    refine setTo_loop (w := (abL v).toInt) (D0 := dI (dI D a 2 b) a 1 0) hG (by rw [e2]; exact hb) (L_rng _).2 ?_ 12 0 (abL v) _ rfl Fr.rf (dI_s _ _ _ _) rfl (fun i hi => by omega) (by rw [habs]; split <;> omega) (fun h => by omega) (by simp [pv])
    intro D' hf n hn h1 h2 hd ht hw
    refine k D' (f0.tr hf) ⟨n, hn, h1, hd, ht, by rw [h2, e2]; exact hb, fun q => ?_, ?_⟩
    · rw [h2, e2]
      apply hz
      rw [hw, q]
      rfl
    · rw [h2, e2, hs, hw]
  refine ⟨fun q => key 0 isB_0 ?_ (fun _ => rfl), fun q => key 1 isB_1 ?_ (fun w => ?_)⟩
  · have : 0 ≤ v.toInt := (L_le _ _).mp q
    rw [sg_0, habs, if_neg (by omega)]; omega
  · have : ¬ 0 ≤ v.toInt := fun w => q ((L_le _ _).mpr w)
    rw [sg_1, habs, if_pos (by omega)]; omega
  · have : ¬ 0 ≤ v.toInt := fun w => q ((L_le _ _).mpr w)
    rw [habs, if_pos (by omega)] at w
    omega
theorem toLong_sp {G : Shp} {D : Dat} {a la : Nat} {z : Int} (hG : BG G a la) (h : BigV D a la z) (hz0 : 0 ≤ z) (hz : z < 18014398509481984) {post : Int64 → Dat → Prop} (k : ∀ r : Int64, r.toInt = z → post r D) : X0_toLong_wp G D a post := by
  have hbel := h.below
  rw [if_neg (by omega)] at hbel
  obtain ⟨n, hn, h1, hd, ht, hb, h0, hzz⟩ := h
  rw [hbel, sg_0, Int.one_mul] at hzz
  have hn2 : n ≤ 2 := by
    by_cases q : n ≤ 2
    · exact q
    · exfalso
      have h2 := pv_pos (B := 134217728) (by decide) (by omega) hd (ht (by omega))
      have h3 : (134217728 : Int) ^ 2 ≤ 134217728 ^ (n - 1) := ipow_le (by decide) (by omega)
      have h4 : (134217728 : Int) ^ 2 = 18014398509481984 := by decide
      omega
  refine ⟨hG.1, la, hG.2.1, hG.2.2.1, ?_⟩
  unfold X0_toLong_j17 X0_toLong_j41
  rw [h1]
  rcases (show n = 0 ∨ n = 1 ∨ n = 2 by omega) with rfl | rfl | rfl
  · refine ⟨fun _ => ⟨fun _ => k 0 (by rw [hzz]; rfl), fun q => absurd (by decide) q⟩, fun q => absurd (by decide) q⟩
  · refine ⟨fun q => absurd q (by decide), fun _ => ⟨by rw [hG.2.2.2]; unfold vp_in; decide, ⟨fun _ => k _ ?_, fun q => absurd (by decide) q⟩⟩⟩
    rw [hzz]
    show _ = (0 : Int) + lm D la 0 * 1
    simp [lm]
  · refine ⟨fun q => absurd q (by decide), fun _ => ⟨by rw [hG.2.2.2]; unfold vp_in; decide, ⟨fun q => absurd q (by decide), fun _ => ⟨by rw [hG.2.2.2]; unfold vp_in; decide, k _ ?_⟩⟩⟩⟩
    have d0 := hd 0 (by omega)
    have d1 := hd 1 (by omega)
    have e0 : (D.2 la (0 : Int32).toNatClampNeg) = D.2 la 0 := rfl
    have e1 : (D.2 la (1 : Int32).toNatClampNeg) = D.2 la 1 := rfl
    rw [e0, e1]
    unfold lm at d0 d1
    have es : ((D.2 la 1) <<< ((27 : Int32).toInt64 &&& 63)).toInt = (D.2 la 1).toInt * 134217728 := L_shl _ _ 27 (by decide +kernel) (by show _ ≤ _ * (134217728 : Int); omega) (by show _ * (134217728 : Int) < _; omega)
    rw [L_add (by rw [es]; omega) (by rw [es]; omega), es, hzz]
    show _ = ((0 : Int) + lm D la 0 * 1) + lm D la 1 * 134217728
    unfold lm
    omega
