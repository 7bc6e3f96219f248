/-! settle -/
theorem up_loop2 {σ τ : Type} {L : Nat → Nat → σ → τ → Prop} (e : Nat) (I : Nat → σ → τ → Prop) (hx : ∀ n s t, I e s t → L (n + 1) e s t) (hs : ∀ n i s t, i < e → I i s t → (∀ s' t', I (i + 1) s' t' → L n (i + 1) s' t') → L (n + 1) i s t) (i : Nat) (s : σ) (t : τ) (hi : i ≤ e) (h : I i s t) : L (e - i + 1) i s t := by
  have := up_loop (L := fun n i (q : σ × τ) => L n i q.1 q.2) e (fun i q => I i q.1 q.2) (fun n q h => hx n q.1 q.2 h) (fun n i q hi h hk => hs n i q.1 q.2 hi h (fun s' t' h' => hk (s', t') h')) i (s, t) hi h
  exact this
theorem i64_1 : (1 : Int64).toInt = 1 := rfl
theorem i64_0 : (0 : Int64).toInt = 0 := rfl
theorem i64_mask : (134217727 : Int64).toInt = 134217727 := rfl
theorem pv_abs {f : Nat → Int} {M : Int} (hM : 0 ≤ M) : ∀ {n : Nat}, (∀ i, i < n → -M ≤ f i ∧ f i ≤ M) → -(M * (134217728 ^ n - 1)) ≤ 134217727 * pv 134217728 f n ∧ 134217727 * pv 134217728 f n ≤ M * (134217728 ^ n - 1)
  | 0, _ => by simp [pv]
  | n + 1, h => by
    have ih := pv_abs hM (n := n) (fun i hi => h i (by omega))
    have hn := h n (by omega)
    have hP : (0 : Int) ≤ 134217728 ^ n := Int.pow_nonneg (by decide)
    have h1 : f n * 134217728 ^ n ≤ M * 134217728 ^ n := Int.mul_le_mul_of_nonneg_right hn.2 hP
    have h2 : (-M) * 134217728 ^ n ≤ f n * 134217728 ^ n := Int.mul_le_mul_of_nonneg_right hn.1 hP
    show _ ≤ 134217727 * (pv 134217728 f n + f n * 134217728 ^ n) ∧ 134217727 * (pv 134217728 f n + f n * 134217728 ^ n) ≤ _
    rw [Int.pow_succ]
    generalize pv 134217728 f n = x at *
    generalize f n * 134217728 ^ n = y at *
    generalize (134217728 : Int) ^ n = P at *
    have e1 : M * (P * 134217728 - 1) = M * (P - 1) + 134217727 * (M * P) := by grind
    have e2 : -M * P = -(M * P) := by grind
    rw [e2] at h2
    rw [e1]
    generalize M * (P - 1) = a at *
    generalize M * P = b at *
    omega
theorem mask_sub {y c : Int64} (h0 : 0 ≤ y.toInt) (h1 : y.toInt < 134217728) (h2 : 0 ≤ c.toInt) (h3 : c.toInt ≤ 1) : ((134217727 : Int64) - y + c).toInt = 134217727 - y.toInt + c.toInt := by
  have e : ((134217727 : Int64) - y).toInt = 134217727 - y.toInt := by
    have := L_sub (x := 134217727) (y := y)
    rw [i64_mask] at this
    exact this (by omega) (by omega)
  generalize (134217727 : Int64) - y = w at e
  rw [L_add (by omega) (by omega), e]
/-- turnOver: the limbs of a number below 0 come to its size -/
theorem turnOver_sp {G : Shp} {D : Dat} {a la e : Nat} (hG : BG G a la) (he : e ≤ 12) (hd : dig (lm D la) e) (h0 : 0 < pv 134217728 (lm D la) e) {post : Dat → Prop} (k : ∀ D', Fr D D' [] [la] → dig (lm D' la) e → pv 134217728 (lm D' la) e = 134217728 ^ e - pv 134217728 (lm D la) e → post D') : X6_turnOver_wp G D a (nI e) post := by
  refine ⟨hG.1, la, hG.2.1, hG.2.2.1, ?_⟩
  have key := up_loop2 (L := fun q i (c : Int64) (E : Dat) => X6_turnOver_l5 G post a (nI e) la q c (nI i) E) e (fun i c E => Fr D E [] [la] ∧ (∀ j, i ≤ j → lm E la j = lm D la j) ∧ dig (lm E la) i ∧ 0 ≤ c.toInt ∧ c.toInt ≤ 1 ∧ 134217728 ^ i - pv 134217728 (lm D la) i = pv 134217728 (lm E la) i + c.toInt * 134217728 ^ i) ?_ ?_ 0 1 D (Nat.zero_le e) ⟨Fr.rf, fun _ _ => rfl, fun j hj => by omega, by rw [i64_1]; omega, by rw [i64_1]; omega, by rw [i64_1]; rfl⟩
  · exact ⟨_, key⟩
  · intro q c E hS
    obtain ⟨hf, hj, hdd, hc0, hc1, inv⟩ := hS
    show X6_turnOver_l5_b G post a (nI e) la _ _ _ _
    refine ⟨fun _ => ?_, fun q => absurd (nI_le (Nat.le_refl e) (by omega)) q⟩
    have hp := pv_lt (B := 134217728) (by decide) hdd
    have hp2 := pv_nn (B := 134217728) (by decide) (n := e) (f := lm E la) (fun i hi => (hdd i hi).1)
    have hc : c.toInt = 0 := by
      by_cases w : c.toInt = 0
      · exact w
      · exfalso
        have w1 : c.toInt = 1 := by omega
        rw [w1] at inv
        omega
    refine k E hf hdd ?_
    rw [inv, hc]; omega
  · intro q i c E hi hS hk
    obtain ⟨hf, hj, hdd, hc0, hc1, inv⟩ := hS
    show X6_turnOver_l5_b G post a (nI e) la _ _ _ _
    refine ⟨fun q => absurd q (nI_ge hi (by omega)), fun _ => ⟨by rw [hG.2.2.2]; exact vp_in_nI (by omega) (by omega), by rw [hG.2.2.2]; exact vp_in_nI (by omega) (by omega), ?_⟩⟩
    rw [nI_1, nI_clamp (by omega)]
    have hdi := hd i hi
    have x0 : (E.2 la i).toInt = lm D la i := hj i (Nat.le_refl i)
    have x2 := mask_sub (y := E.2 la i) (c := c) (by rw [x0]; exact hdi.1) (by rw [x0]; exact hdi.2) hc0 hc1
    rw [x0] at x2
    generalize (134217727 : Int64) - E.2 la i + c = S at x2 ⊢
    have y1 : (S &&& 134217727).toInt = (134217727 - lm D la i + c.toInt) % 134217728 := by rw [m27, x2]
    have y2 : (S >>> ((27 : Int32).toInt64 &&& 63)).toInt = (134217727 - lm D la i + c.toInt) / 134217728 := by rw [s27, x2]
    generalize S &&& 134217727 = S1 at y1 ⊢
    generalize S >>> ((27 : Int32).toInt64 &&& 63) = S2 at y2 ⊢
    clear x2 x0
    refine hk _ _ ⟨hf.tr (Fr.dJ (List.mem_singleton.mpr rfl)), fun j hj2 => ?_, fun j hj2 => ?_, ?_, ?_, ?_⟩
    · unfold lm; rw [dJ_o _ _ _ (by omega)]; exact hj j (by omega)
    · by_cases w : j = i
      · have : lm (dJ E la i S1) la j = (134217727 - lm D la i + c.toInt) % 134217728 := by rw [w, ← y1]; unfold lm; rw [dJ_s]
        rw [this]; omega
      · have : lm (dJ E la i S1) la j = lm E la j := by unfold lm; rw [dJ_o _ _ _ w]
        rw [this]; exact hdd j (by omega)
    · rw [y2]; omega
    · rw [y2]; omega
    · rw [y2]
      have e1 : pv 134217728 (lm (dJ E la i S1) la) i = pv 134217728 (lm E la) i := pv_congr (fun j hj2 => by unfold lm; rw [dJ_o _ _ _ (by omega)])
      have e2 : lm (dJ E la i S1) la i = (134217727 - lm D la i + c.toInt) % 134217728 := by rw [← y1]; unfold lm; rw [dJ_s]
      show 134217728 ^ (i + 1) - (pv 134217728 (lm D la) i + lm D la i * 134217728 ^ i) = (pv 134217728 _ i + lm _ la i * 134217728 ^ i) + _
      rw [e1, e2, Int.pow_succ]
      have e3 := Int.mul_ediv_add_emod (134217727 - lm D la i + c.toInt) 134217728
      generalize (134217727 - lm D la i + c.toInt) / 134217728 = qq at *
      generalize (134217727 - lm D la i + c.toInt) % 134217728 = rr at *
      generalize (134217728 : Int) ^ i = P at *
      generalize pv 134217728 (lm D la) i = u at *
      generalize pv 134217728 (lm E la) i = w at *
      generalize lm D la i = f at *
      generalize c.toInt = cc at *
      have : rr = 134217727 - f + cc - 134217728 * qq := by omega
      subst this
      grind
theorem mn_end {u : Nat} (hu : u ≤ 24) : mnI (nI u + 2) 12 = nI (if u + 2 ≤ 12 then u + 2 else 12) := by
  rw [show nI u + 2 = nI (u + 2) from nI_add u 2, show (12 : Int32) = nI 12 by decide]
  unfold mnI
  by_cases h : u + 2 ≤ 12
  · rw [if_neg (nI_nlt h (by omega)), if_pos h]
  · rw [if_pos (nI_lt (by omega) (by omega)), if_neg h]
theorem settle_sp {G : Shp} {D : Dat} {t ca a la m : Nat} {z : Int} (hT : TG G t ca) (hG : BG G a la) (hne : la ≠ ca) (h : TalV D t ca z m) (hm : m ≤ 15) (hz1 : -(134217728 ^ 12 : Int) < z) (hz2 : z < 134217728 ^ 12) {post : Dat → Prop} (k : ∀ D', Fr D D' [a] [la] → BigV D' a la z → post D') : X6_settle_wp G D t a post := by
  obtain ⟨u, hu1, hu2, hu0, hub, hz⟩ := h
  have hat : t ≠ a := isO.ne hT.1 hG.1 (by decide)
  refine ⟨hT.1, hG.1, ca, hT.2.1, hT.2.2.1, la, hG.2.1, hG.2.2.1, ?_⟩
  rw [hu1, mn_end hu2]
  generalize he : (if u + 2 ≤ 12 then u + 2 else 12) = e
  have he12 : e ≤ 12 := by rw [← he]; split <;> omega
  have hze : z = pv 134217728 (lm D ca) e := by
    rw [hz]
    exact pv_more he12 (fun i h1 h2 => hu0 i (by rw [← he] at h1; split at h1 <;> omega) h2)
  have hm15 : (m : Int) ≤ 15 := by omega
  have hcol : ∀ i, i < 12 → -4611686018427387904 ≤ lm D ca i ∧ lm D ca i ≤ 4611686018427387904 := fun i hi => by
    have := hub i hi
    omega
  have hzb : -(134217728 ^ e : Int) < z ∧ z < 134217728 ^ e := by
    by_cases w : u + 2 ≤ 12
    · have hzu : z = pv 134217728 (lm D ca) u := by
        rw [hz]
        exact pv_more (by omega) (fun i h1 h2 => hu0 i h1 h2)
      have hb := pv_abs (M := 4611686018427387904) (by decide) (n := u) (f := lm D ca) (fun i hi => hcol i (by omega))
      rw [← hzu] at hb
      have e2 : e = u + 2 := by rw [← he, if_pos w]
      rw [e2, Int.pow_add]
      have hP : (1 : Int) ≤ 134217728 ^ u := by
        have := ipow_le (B := 134217728) (by decide) (Nat.zero_le u)
        simpa using this
      have h2 : (134217728 : Int) ^ 2 = 18014398509481984 := by decide
      rw [h2]
      generalize (134217728 : Int) ^ u = P at *
      omega
    · have e2 : e = 12 := by rw [← he, if_neg w]
      rw [e2]
      exact ⟨hz1, hz2⟩
  have key := up_loop2 (L := fun q i (c : Int64) (E : Dat) => X6_settle_l17 G post t a ca la q (nI e) c (nI i) E) e (fun i c E => E.1 = D.1 ∧ (∀ x, x ≠ la → E.2 x = D.2 x) ∧ dig (lm E la) i ∧ -68719476736 ≤ c.toInt ∧ c.toInt ≤ 68719476736 ∧ pv 134217728 (lm D ca) i = pv 134217728 (lm E la) i + c.toInt * 134217728 ^ i) ?_ ?_ 0 0 D (Nat.zero_le e) ⟨rfl, fun _ _ => rfl, fun j hj => by omega, by rw [i64_0]; omega, by rw [i64_0]; omega, by rw [i64_0]; rfl⟩
  · exact ⟨_, key⟩
  · intro q c E hS
    obtain ⟨h1, hx, hdd, hc0, hc1, inv⟩ := hS
    show X6_settle_l17_b G post t a ca la _ _ _ _ _
    refine ⟨fun _ => ?_, fun q => absurd (nI_le (Nat.le_refl e) (by omega)) q⟩
    rw [← hze] at inv
    have hp := pv_lt (B := 134217728) (by decide) hdd
    have hp2 := pv_nn (B := 134217728) (by decide) (n := e) (f := lm E la) (fun i hi => (hdd i hi).1)
    have hP : (0 : Int) < 134217728 ^ e := Int.pow_pos (by decide)
    have hfr : Fr D E [a] [la] := ⟨fun x _ => by rw [h1], fun x hxx => hx x (fun q => hxx (by rw [q]; exact List.mem_singleton.mpr rfl))⟩
    have hcc : c.toInt = 0 ∨ c.toInt = -1 := by
      by_cases w1 : 1 ≤ c.toInt
      · exfalso
        have : 1 * (134217728 : Int) ^ e ≤ c.toInt * 134217728 ^ e := Int.mul_le_mul_of_nonneg_right w1 (by omega)
        omega
      · by_cases w2 : c.toInt ≤ -2
        · exfalso
          have : c.toInt * (134217728 : Int) ^ e ≤ -2 * 134217728 ^ e := Int.mul_le_mul_of_nonneg_right w2 (by omega)
          omega
        · omega
    unfold X6_settle_j71 X6_settle_j86
    refine ⟨fun w => ⟨hG.1, isB_0, ?_⟩, fun w => ⟨hG.1, isB_1, ?_⟩⟩
    · have w : 0 ≤ c.toInt := (L_le _ _).mp w
      have hc : c.toInt = 0 := by omega
      rw [hc] at inv
      rw [dI_s]
      refine ⟨fun _ => ?_, fun q => absurd rfl q⟩
      refine trim_sp (D := dI E a 2 0) hG he12 hdd (by rw [dI_s]; exact isB_0) (fun D' hf hB => k D' ?_ ?_)
      · exact hfr.tr ((Fr.dI (List.mem_singleton.mpr rfl)).tr (hf.up (fun _ w => w) (fun _ w => by cases w)))
      · rw [dI_s, sg_0] at hB
        have e1 : (1 : Int) * pv 134217728 (lm (dI E a 2 0) la) e = z := by
          show 1 * pv 134217728 (lm E la) e = z
          omega
        rw [e1] at hB
        exact hB
    · have w : ¬ 0 ≤ c.toInt := fun q => w ((L_le _ _).mpr q)
      have hc : c.toInt = -1 := by omega
      rw [hc] at inv
      rw [dI_s]
      refine ⟨fun q => absurd q (by decide), fun _ => ?_⟩
      refine turnOver_sp (D := dI E a 2 1) hG he12 hdd ?_ (fun D2 hf2 hd2 hv2 => ?_)
      · show 0 < pv 134217728 (lm E la) e
        omega
      · have e2 : D2.1 a 2 = 1 := by rw [hf2.1 a (by simp), dI_s]
        refine trim_sp hG he12 hd2 (by rw [e2]; exact isB_1) (fun D' hf hB => k D' ?_ ?_)
        · exact hfr.tr ((Fr.dI (List.mem_singleton.mpr rfl)).tr ((hf2.up (fun _ w => by cases w) (fun _ w => w)).tr (hf.up (fun _ w => w) (fun _ w => by cases w))))
        · rw [e2, sg_1, hv2] at hB
          have e1 : (-1 : Int) * (134217728 ^ e - pv 134217728 (lm (dI E a 2 1) la) e) = z := by
            show -1 * (134217728 ^ e - pv 134217728 (lm E la) e) = z
            omega
          rw [e1] at hB
          exact hB
  · intro q i c E hi hS hk
    obtain ⟨h1, hx, hdd, hc0, hc1, inv⟩ := hS
    show X6_settle_l17_b G post t a ca la _ _ _ _ _
    refine ⟨fun q => absurd q (nI_ge hi (by omega)), fun _ => ⟨by rw [hT.2.2.2]; exact vp_in_nI (by omega) (by omega), by rw [hG.2.2.2]; exact vp_in_nI (by omega) (by omega), ?_⟩⟩
    rw [nI_1, nI_clamp (by omega)]
    have x0 : (E.2 ca i).toInt = lm D ca i := by rw [hx ca (fun q => hne q.symm)]; rfl
    have hci := hcol i (by omega)
    have x1 : (E.2 ca i + c).toInt = lm D ca i + c.toInt := by
      rw [L_add (by rw [x0]; omega) (by rw [x0]; omega), x0]
    generalize E.2 ca i + c = S at x1 ⊢
    have y1 : (S &&& 134217727).toInt = (lm D ca i + c.toInt) % 134217728 := by rw [m27, x1]
    have y2 : (S >>> ((27 : Int32).toInt64 &&& 63)).toInt = (lm D ca i + c.toInt) / 134217728 := by rw [s27, x1]
    generalize S &&& 134217727 = S1 at y1 ⊢
    generalize S >>> ((27 : Int32).toInt64 &&& 63) = S2 at y2 ⊢
    clear x1 x0
    refine hk _ _ ⟨h1, fun x hxx => by rw [dJ_n _ _ _ hxx]; exact hx x hxx, fun j hj2 => ?_, ?_, ?_, ?_⟩
    · by_cases w : j = i
      · have : lm (dJ E la i S1) la j = (lm D ca i + c.toInt) % 134217728 := by rw [w, ← y1]; unfold lm; rw [dJ_s]
        rw [this]; omega
      · have : lm (dJ E la i S1) la j = lm E la j := by unfold lm; rw [dJ_o _ _ _ w]
        rw [this]; exact hdd j (by omega)
    · rw [y2]; omega
    · rw [y2]; omega
    · rw [y2]
      have e1 : pv 134217728 (lm (dJ E la i S1) la) i = pv 134217728 (lm E la) i := pv_congr (fun j hj2 => by unfold lm; rw [dJ_o _ _ _ (by omega)])
      have e2 : lm (dJ E la i S1) la i = (lm D ca i + c.toInt) % 134217728 := by rw [← y1]; unfold lm; rw [dJ_s]
      show pv 134217728 (lm D ca) i + lm D ca i * 134217728 ^ i = (pv 134217728 _ i + lm _ la i * 134217728 ^ i) + _
      rw [e1, e2, inv, Int.pow_succ]
      have e3 := Int.mul_ediv_add_emod (lm D ca i + c.toInt) 134217728
      generalize (lm D ca i + c.toInt) / 134217728 = qq at *
      generalize (lm D ca i + c.toInt) % 134217728 = rr at *
      generalize (134217728 : Int) ^ i = P at *
      generalize pv 134217728 (lm E la) i = w at *
      generalize lm D ca i = f at *
      generalize c.toInt = cc at *
      have : rr = f + cc - 134217728 * qq := by omega
      subst this
      grind
