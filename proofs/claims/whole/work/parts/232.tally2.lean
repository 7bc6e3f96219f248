/-- addProduct: the sizes together are at most 13 limbs -/
theorem addProduct_sp {G : Shp} {D : Dat} {t ca a la b lb m p q : Nat} {z x y : Int} (hG : TG G t ca) (hA : BG G a la) (hB : BG G b lb) (hna : la ≠ ca) (hnb : lb ≠ ca) (h : TalV D t ca z m) (hm : m ≤ 14) (ha : BigV D a la x) (hb : BigV D b lb y) (hx : az x < 134217728 ^ p) (hy : az y < 134217728 ^ q) (hpq : p + q ≤ 13) {tk : Int32} (htk : isB tk) {post : Dat → Prop} (k : ∀ D', Fr D D' [t] [ca] → TalV D' t ca (z + sg tk * (x * y)) (m + 1) → post D') : X6_addProduct_wp G D t a b tk post := by
  obtain ⟨u, hu1, hu2, hu0, hub, rfl⟩ := h
  obtain ⟨n, hn, hnp, e1, hd, hba, rfl⟩ := ha.size_le hx
  obtain ⟨r, hr, hrq, e2, hd2, hbb, rfl⟩ := hb.size_le hy
  have hat : a ≠ t := isO.ne hA.1 hG.1 (by decide)
  have hbt : b ≠ t := isO.ne hB.1 hG.1 (by decide)
  refine ⟨hG.1, hA.1, hB.1, la, hA.2.1, hA.2.2.1, ca, hG.2.1, hG.2.2.1, lb, hB.2.1, hB.2.2.1, ?_⟩
  have main : ∀ (s : Int32), isB s → sg s = sg (D.1 a 2) * sg (D.1 b 2) * sg tk → X6_addProduct_j25 G post t a b tk la ca lb s D := by
    intro s hs hsg
    have hsb : sg s = 1 ∨ sg s = -1 := by rcases hs with w | w <;> rw [w] <;> decide
    have key := up_loop (L := fun q i (E : Dat) => X6_addProduct_l30 G post t a b tk la ca lb q s (nI i) E) n (fun i E => E.1 = D.1 ∧ (∀ x, x ≠ ca → E.2 x = D.2 x) ∧ (∀ j, i + r ≤ j + 1 → j < 12 → (i = 0 ∨ i + r ≤ j + 1 ∧ i + r ≠ j + 1) → lm E ca j = lm D ca j) ∧ (∀ j, j < 12 → -(i * 18014398509481984 : Int) ≤ lm E ca j - lm D ca j ∧ lm E ca j - lm D ca j ≤ i * 18014398509481984) ∧ pv 134217728 (lm E ca) 12 = pv 134217728 (lm D ca) 12 + sg s * (pv 134217728 (lm D la) i * pv 134217728 (lm D lb) r)) ?_ ?_ 0 D (Nat.zero_le n) ⟨rfl, fun _ _ => rfl, fun _ _ _ _ => rfl, fun j _ => by omega, by simp [pv]⟩
    · exact ⟨_, key⟩
    · intro q E hE
      show X6_addProduct_l30_b G post t a b tk la ca lb _ _ _ _
      unfold X6_addProduct_l30_b
      rw [hE.1, e1]
      refine ⟨fun _ => ?_, fun q => absurd (nI_le (Nat.le_refl n) (by omega)) q⟩
      rw [hu1, e2, nI_add, mxI_nI (by omega) (by omega)]
      refine k _ ?_ ⟨if u < n + r then n + r else u, dI_s _ _ _ _, by split <;> omega, fun i hi hi2 => ?_, fun i hi => ?_, ?_⟩
      · refine Fr.tr (D1 := E) ⟨fun x _ => by rw [hE.1], fun x hx => hE.2.1 x (fun q => hx (by rw [q]; exact List.mem_singleton.mpr rfl))⟩ (Fr.dI (List.mem_singleton.mpr rfl))
      · show lm E ca i = 0
        rw [hE.2.2.1 i (by split at hi <;> omega) hi2 (by split at hi <;> omega)]
        exact hu0 i (by split at hi <;> omega) hi2
      · show _ ≤ lm E ca i ∧ lm E ca i ≤ _
        have hb1 := hub i hi
        have hb2 := hE.2.2.2.1 i hi
        have hn12 : (n : Int) ≤ 12 := by omega
        omega
      · show _ = pv 134217728 (lm E ca) 12
        rw [hE.2.2.2.2, hsg]
        generalize pv 134217728 (lm D ca) 12 = c0
        generalize pv 134217728 (lm D la) n = c1
        generalize pv 134217728 (lm D lb) r = c2
        grind
    · intro q i E hi hE hk
      show X6_addProduct_l30_b G post t a b tk la ca lb _ _ _ _
      unfold X6_addProduct_l30_b
      rw [hE.1, e1]
      have hdi := hd i hi
      have ela : lm E la i = lm D la i := by unfold lm; rw [hE.2.1 la hna]
      have inner : ∀ (c : Int64), c.toInt = sg s * lm D la i → X6_addProduct_j62 G post t a b tk la ca lb (X6_addProduct_l30 G post t a b tk la ca lb q) s (nI i) c E := by
        intro c hc
        have hcb : -134217728 ≤ c.toInt ∧ c.toInt ≤ 134217728 := by
          rw [hc]
          rcases hsb with w | w <;> rw [w] <;> omega
        have key2 := up_loop (L := fun f j (Y : Dat) => X6_addProduct_l67 G post t a b tk la ca lb (X6_addProduct_l30 G post t a b tk la ca lb q) f s (nI i) c (nI j) Y) r (fun j Y => Y.1 = D.1 ∧ (∀ x, x ≠ ca → Y.2 x = D.2 x) ∧ (∀ l, l < j → lm Y ca (i + l) = lm E ca (i + l) + c.toInt * lm D lb l) ∧ ∀ l, (l < i ∨ i + j ≤ l) → lm Y ca l = lm E ca l) ?_ ?_ 0 E (Nat.zero_le r) ⟨hE.1, hE.2.1, fun l hl => by omega, fun _ _ => rfl⟩
        · exact ⟨_, key2⟩
        · intro f Y hY
          show X6_addProduct_l67_b G post t a b tk la ca lb _ _ _ _ _ _ _
          unfold X6_addProduct_l67_b X6_addProduct_j115
          rw [hY.1, e2]
          refine ⟨fun _ => ?_, fun q => absurd (nI_le (Nat.le_refl r) (by omega)) q⟩
          rw [nI_1]
          refine hk Y ⟨hY.1, hY.2.1, fun j h1 h2 h3 => ?_, fun j hj => ?_, ?_⟩
          · rw [hY.2.2.2 j (by omega)]
            exact hE.2.2.1 j (by omega) h2 (by omega)
          · have hb1 := hE.2.2.2.1 j hj
            by_cases w : i ≤ j ∧ j < i + r
            · obtain ⟨l, rfl⟩ : ∃ l, j = i + l := ⟨j - i, by omega⟩
              rw [hY.2.2.1 l (by omega)]
              have hdl := hd2 l (by omega)
              have hp := mul_abs_le (X := 134217728) (Y := 134217728) hcb.1 hcb.2 (show -134217728 ≤ lm D lb l by omega) (by omega)
              have : ((i + 1 : Nat) : Int) * 18014398509481984 = i * 18014398509481984 + 18014398509481984 := by omega
              omega
            · rw [hY.2.2.2 j (by omega)]
              have : ((i + 1 : Nat) : Int) * 18014398509481984 = i * 18014398509481984 + 18014398509481984 := by omega
              omega
          · have e := pv_add_row (B := 134217728) (c := c.toInt) (f := lm E ca) (g := lm Y ca) (b := lm D lb) (i := i) (n := r) (N := 12) (by omega) hY.2.2.1 (fun j _ hj2 => hY.2.2.2 j hj2)
            rw [e, hE.2.2.2.2, hc]
            show _ = _ + sg s * ((pv 134217728 (lm D la) i + lm D la i * 134217728 ^ i) * _)
            generalize pv 134217728 (lm D ca) 12 = c0
            generalize pv 134217728 (lm D la) i = c1
            generalize pv 134217728 (lm D lb) r = c2
            generalize (134217728 : Int) ^ i = c3
            grind
        · intro f j Y hj hY hk2
          show X6_addProduct_l67_b G post t a b tk la ca lb _ _ _ _ _ _ _
          unfold X6_addProduct_l67_b
          rw [hY.1, e2, nI_add]
          refine ⟨fun q => absurd q (nI_ge hj (by omega)), fun _ => ⟨fun w => ?_, fun _ => ⟨by rw [hG.2.2.2]; exact vp_in_nI (by omega) (by omega), by rw [hB.2.2.2]; exact vp_in_nI (by omega) (by omega), by rw [hG.2.2.2]; exact vp_in_nI (by omega) (by omega), ?_⟩⟩⟩
          · rw [show (12 : Int32) = nI 12 by decide] at w
            exact absurd w (nI_ge (by omega) (by omega))
          · rw [nI_1, nI_clamp (show i + j < 2 ^ 31 by omega), nI_clamp (show j < 2 ^ 31 by omega)]
            have hdl := hd2 j hj
            have hp := mul_abs_le (X := 134217728) (Y := 134217728) hcb.1 hcb.2 (show -134217728 ≤ lm D lb j by omega) (by omega)
            have hb1 := hE.2.2.2.1 (i + j) (by omega)
            have hb2 := hub (i + j) (by omega)
            have x1 : (Y.2 ca (i + j)).toInt = lm E ca (i + j) := hY.2.2.2 _ (Or.inr (Nat.le_refl _))
            have x2 : (Y.2 lb j).toInt = lm D lb j := by rw [hY.2.1 lb hnb]; rfl
            have x3 : (c * Y.2 lb j).toInt = c.toInt * lm D lb j := by
              rw [L_mul (by rw [x2]; omega) (by rw [x2]; omega), x2]
            have hi12 : (i : Int) ≤ 12 := by omega
            have hm14 : (m : Int) ≤ 14 := by omega
            have x4 : (Y.2 ca (i + j) + c * Y.2 lb j).toInt = lm E ca (i + j) + c.toInt * lm D lb j := by
              rw [L_add (by rw [x1, x3]; omega) (by rw [x1, x3]; omega), x1, x3]
            refine hk2 _ ⟨hY.1, fun x hx => by rw [dJ_n _ _ _ hx]; exact hY.2.1 x hx, fun l hl => ?_, fun l hl => ?_⟩
            · unfold lm
              by_cases w : l = j
              · rw [w, dJ_s]; exact x4
              · rw [dJ_o _ _ _ (by omega)]; exact hY.2.2.1 l (by omega)
            · unfold lm
              rw [dJ_o _ _ _ (by omega)]
              exact hY.2.2.2 l (by omega)
      refine ⟨fun q => absurd q (nI_ge hi (by omega)), fun _ => ⟨fun w => ⟨by rw [hA.2.2.2]; exact vp_in_nI (by omega) (by omega), ?_⟩, fun w => ⟨by rw [hA.2.2.2]; exact vp_in_nI (by omega) (by omega), ?_⟩⟩⟩
      · rw [nI_clamp (show i < 2 ^ 31 by omega)]
        refine inner _ ?_
        rw [w, sg_0, Int.one_mul]
        exact ela
      · rw [nI_clamp (show i < 2 ^ 31 by omega)]
        refine inner _ ?_
        have w1 : s = 1 := hs.resolve_left w
        have ela' : (E.2 la i).toInt = lm D la i := ela
        rw [w1, sg_1, L_neg (by rw [ela']; omega), ela']
        omega
  have hv : ∀ (f : Int32), isB f → sg f = sg (D.1 a 2) * sg (D.1 b 2) → X6_addProduct_j16 G post t a b tk la ca lb f D := by
    intro f hf hfs
    refine ⟨fun w => main 0 isB_0 ?_, fun w => main 1 isB_1 ?_⟩
    · rw [← hfs, w]; rcases htk with w2 | w2 <;> rw [w2] <;> decide
    · rw [← hfs]
      rcases hf with w1 | w1 <;> rcases htk with w2 | w2 <;> rw [w1, w2] at w ⊢ <;> first | (exact absurd rfl w) | decide
  refine ⟨fun w => hv 0 isB_0 ?_, fun w => hv 1 isB_1 ?_⟩
  · rw [w]; rcases hbb with w2 | w2 <;> rw [w2] <;> decide
  · rcases hba with w1 | w1 <;> rcases hbb with w2 | w2 <;> rw [w1, w2] at w ⊢ <;> first | (exact absurd rfl w) | decide
