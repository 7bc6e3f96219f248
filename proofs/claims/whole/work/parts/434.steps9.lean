/-! the reference: steps -/
theorem stl_lt {A : AR} {n x : Nat} (h : x ∈ stl A n) : x < n := by
  unfold stl at h
  exact List.mem_range.mp (List.mem_filter.mp h).1
theorem stR2_gt {A : AR} {n x : Nat} (h : x ∈ stR2 A n) : n < x ∧ x < 40 := by
  unfold stR2 at h
  obtain ⟨y, hy, rfl⟩ := List.mem_map.mp (List.mem_filter.mp h).1
  have := List.mem_range.mp hy
  omega
theorem stl_uns (A : AR) {n : Nat} (hn : n < 40) : stl (wS A (ups (aS A) n false)) 40 = stl A n ++ stR2 A n := by
  rw [stl_split _ hn]
  have e0 : aS (wS A (ups (aS A) n false)) n = false := ups_s _ _ _
  rw [if_neg (by rw [e0]; decide)]
  have e1 : stl (wS A (ups (aS A) n false)) n = stl A n := fil_cgr (fun x hx => by
    have : x < n := List.mem_range.mp hx
    exact ups_n (by omega))
  have e2 : stR2 (wS A (ups (aS A) n false)) n = stR2 A n := fil_cgr (fun x hx => by
    obtain ⟨y, -, rfl⟩ := List.mem_map.mp hx
    exact ups_n (by omega))
  rw [e1, e2]
  rfl
theorem gd_mem {L : List Nat} {j : Nat} (h : j < L.length) : L.getD j 0 ∈ L := by
  rw [List.getD_eq_getElem?_getD, List.getElem?_eq_getElem h]
  exact List.getElem_mem h
theorem gd_c {L P : List Nat} {t : Nat} : (L ++ t :: P).getD L.length 0 = t := by
  have := gd_r (L := L) (P := t :: P) (l := 0)
  rw [Nat.add_zero] at this
  rw [this]; rfl
theorem gd_cr {L P : List Nat} {t l : Nat} : (L ++ t :: P).getD (L.length + (l + 1)) 0 = P.getD l 0 := by rw [gd_r]; rfl
section ST9
variable {G : Shp} {ad ro : Nat → Nat} {D D' : Dat} {S : AS} {Z : Dat} {r : Nat} {A : AR} {post : Int32 → Dat → Prop}
theorem st_e {r k : Nat} : (3 : Int32) * nI r + nI k = nI (3 * r + k) := by rw [show (3 : Int32) = nI 3 by decide, nI_mul', nI_add]
theorem in12 (H : RG G ad ro) {i : Nat} (hi : i < 12) : vp_in (nI i) (G.2.2.1 (ad 513)) := by rw [H.sta_.2.2]; exact vp_in_nI hi (by omega)
theorem findStep_sp (H : RG G ad ro) (hr : r < 4) (h : RrV ad D r A) (h3 : ct (aS A) 40 ≤ 3) {t : Nat} (ht : t < 40) (k0 : aS A t = false → post (-1) D) (k1 : aS A t = true → post (nI (stl A t).length) D) : X9_findStep_wp G D (ad 500) (nI r) (nI t) post := by
  obtain ⟨-, -, hc, hl, -⟩ := h
  have hlen := stl_len A 40
  have hs := stl_split A ht
  refine ⟨H.x_, _, H.stp_.1, H.stp_.2.1, _, H.sta_.1, H.sta_.2.1, ?_⟩
  generalize hX : stl A t = X at *
  generalize hY : stR2 A t = Y at *
  have xlt : ∀ j, j < X.length → X.getD j 0 < t := fun j hj => by
    have := gd_mem hj
    rw [← hX] at this
    rw [← hX]
    exact stl_lt this
  have ygt : ∀ j, j < Y.length → t < Y.getD j 0 ∧ Y.getD j 0 < 40 := fun j hj => by
    have := gd_mem hj
    rw [← hY] at this
    rw [← hY]
    exact stR2_gt this
  -- how far the search goes
  have key := up_loop (L := fun n i (_ : Unit) => X9_findStep_l2 G post (ad 500) (nI r) (nI t) (ad 512) (ad 513) n (nI i) D) (if aS A t = true then X.length else ct (aS A) 40) (fun i _ => True) ?_ ?_ 0 () (by omega) trivial
  · exact ⟨_, key⟩
  · intro n _ _
    show X9_findStep_l2_b G post (ad 500) (nI r) (nI t) (ad 512) (ad 513) _ _ _
    unfold X9_findStep_l2_b
    rw [nI_clamp (n := r) (by omega), hc, st_e]
    by_cases w : aS A t = true
    · rw [if_pos w] at hs ⊢
      have hl2 : X.length < ct (aS A) 40 := by
        rw [← hlen, hs, List.length_append]
        show X.length < X.length + (Y.length + 1)
        omega
      rw [nI_clamp (n := 3 * r + X.length) (by omega), hl X.length hl2, hs]
      have e : (X ++ ([t] ++ Y)).getD X.length 0 = t := gd_c
      rw [e]
      exact ⟨in4 H H.stp_ hr, fun q => absurd q (nI_ge hl2 (by omega)), fun _ => ⟨in12 H (by omega), fun q => absurd rfl q, fun _ => k1 w⟩⟩
    · rw [if_neg w]
      refine ⟨in4 H H.stp_ hr, fun _ => k0 (by simpa using w), fun q => absurd (nI_le (Nat.le_refl _) (by omega)) q⟩
  · intro n i _ hi _ hk
    show X9_findStep_l2_b G post (ad 500) (nI r) (nI t) (ad 512) (ad 513) _ _ _
    unfold X9_findStep_l2_b
    have hi2 : i < ct (aS A) 40 := by
      by_cases w : aS A t = true
      · rw [if_pos w] at hi hs
        rw [← hlen, hs, List.length_append]
        omega
      · rw [if_neg w] at hi; exact hi
    rw [nI_clamp (n := r) (by omega), hc, st_e, nI_clamp (n := 3 * r + i) (by omega), hl i hi2, nI_1]
    have hne : (stl A 40).getD i 0 ≠ t ∧ (stl A 40).getD i 0 < 40 := by
      rw [hs]
      by_cases w : aS A t = true
      · rw [if_pos w] at hi
        rw [gd_l hi]
        have := xlt i hi
        omega
      · rw [if_neg w] at hi hs ⊢
        rw [← hlen, hs, List.length_append] at hi
        have hi' : i < X.length + Y.length := hi
        by_cases u : i < X.length
        · rw [gd_l u]
          have := xlt i u
          omega
        · obtain ⟨l, rfl⟩ := Nat.exists_eq_add_of_le (show X.length ≤ i by omega)
          rw [gd_r]
          have := ygt l (by omega)
          show Y.getD l 0 ≠ t ∧ Y.getD l 0 < 40
          omega
    refine ⟨in4 H H.stp_ hr, fun q => absurd q (nI_ge hi2 (by omega)), fun _ => ⟨in12 H (by omega), fun _ => hk () trivial, fun q => ?_⟩⟩
    rw [nI_eq (by omega) (by omega)] at q
    exact absurd q hne.1
/-- the steps of a row -/
theorem RrV.stp (h : RrV ad D r A) (x : Nat → Bool) (f : ∀ p j, 500 ≤ p → p < 530 → p ≠ 512 → p ≠ 513 → D'.1 (ad p) j = D.1 (ad p) j) (h2 : D'.1 (ad 512) r = nI (ct x 40)) (h3 : ∀ k, k < ct x 40 → D'.1 (ad 513) (3 * r + k) = nI ((stl (wS A x) 40).getD k 0)) : RrV ad D' r (wS A x) := by
  obtain ⟨g1, g2, -, -, g5, g6, g7⟩ := h
  refine ⟨fun u hu => ?_, by rw [f 511 _ (by omega) (by omega) (by omega) (by omega)]; exact g2, h2, h3, by rw [f 514 _ (by omega) (by omega) (by omega) (by omega)]; exact g5, by rw [f 517 _ (by omega) (by omega) (by omega) (by omega)]; exact g6, fun g hg u hu => by rw [f 518 _ (by omega) (by omega) (by omega) (by omega)]; exact g7 g hg u hu⟩
  rw [f 510 _ (by omega) (by omega) (by omega) (by omega), f 515 _ (by omega) (by omega) (by omega) (by omega), f 516 _ (by omega) (by omega) (by omega) (by omega)]
  exact g1 u hu
theorem addStep_sp (H : RG G ad ro) (hr : r < 4) (h : RrV ad D r A) (h3 : ct (aS A) 40 < 3) {t : Nat} (ht : t < 40) (hs0 : aS A t = false) {post : Dat → Prop} (k : ∀ D', RcF ad ro D D' r → RrV ad D' r (stA A t) → post D') : X9_addStep_wp G D (ad 500) (nI r) (nI t) post := by
  have hR := h
  obtain ⟨-, -, hc, hl, -⟩ := h
  have hlen := stl_len A 40
  have hs := stl_split A ht
  rw [if_neg (by rw [hs0]; decide)] at hs
  have hs : stl A 40 = stl A t ++ stR2 A t := hs
  have hst := stl_stA A ht
  have hct : ct (aS (stA A t)) 40 = ct (aS A) 40 + 1 := by
    have := ct_ups (s := aS A) (t := t) (b := true) (n := 40) ht
    rw [hs0, if_neg (by decide), if_pos rfl] at this
    exact this
  generalize hX : stl A t = X at *
  generalize hY : stR2 A t = Y at *
  have hcn : ct (aS A) 40 = X.length + Y.length := by rw [← hlen, hs, List.length_append]
  have xlt : ∀ j, j < X.length → X.getD j 0 < t := fun j hj => by
    have := gd_mem hj
    rw [← hX] at this
    rw [← hX]
    exact stl_lt this
  have ygt : ∀ j, j < Y.length → t < Y.getD j 0 ∧ Y.getD j 0 < 40 := fun j hj => by
    have := gd_mem hj
    rw [← hY] at this
    rw [← hY]
    exact stR2_gt this
  have n23 : ad 512 ≠ ad 513 := H.ne (by omega) (by omega) (by omega)
  refine ⟨H.x_, _, H.stp_.1, H.stp_.2.1, _, H.sta_.1, H.sta_.2.1, in4 H H.stp_ hr, ?_⟩
  rw [nI_clamp (by omega), hc]
  -- at its place
  have fin : ∀ E : Dat, RcF ad ro D E r → (∀ p j, 500 ≤ p → p < 530 → p ≠ 513 → E.1 (ad p) j = D.1 (ad p) j) → (∀ j, j < X.length → E.1 (ad 513) (3 * r + j) = nI (X.getD j 0)) → (∀ j, j < Y.length → E.1 (ad 513) (3 * r + (X.length + (j + 1))) = nI (Y.getD j 0)) → X9_addStep_j55 G post (ad 500) (nI r) (nI t) (ad 512) (ad 513) (nI X.length) E := by
    intro E fE eo ex ey
    unfold X9_addStep_j55
    rw [st_e, nI_clamp (n := r) (by omega), nI_clamp (n := 3 * r + X.length) (by omega), dI_n _ _ _ n23, eo 512 _ (by omega) (by omega) (by omega), hc, nI_1]
    refine ⟨in12 H (by omega), in4 H H.stp_ hr, in4 H H.stp_ hr, k _ (fE.tr ((RcF.w H (by unfold inR; omega)).tr (RcF.w H (by unfold inR; omega)))) (hR.stp _ (fun p j x y c d => ?_) ?_ (fun j hj => ?_))⟩
    · rw [c_ne H ⟨x, y⟩ (by omega) (Or.inl c), c_ne H ⟨x, y⟩ (by omega) (Or.inl d)]
      exact eo p j x y d
    · rw [dI_s, ← hct]; rfl
    · have hj' : j < ct (aS (stA A t)) 40 := hj
      rw [hct] at hj'
      rw [c_ne H (p := 513) (q := 512) (by omega) (by omega) (Or.inl (by omega))]
      show _ = nI ((stl (stA A t) 40).getD j 0)
      rw [hst]
      by_cases u : j < X.length
      · rw [dI_o _ _ _ (by omega), ex j u, gd_l u]
      · by_cases u2 : j = X.length
        · rw [u2, dI_s, gd_c]
        · obtain ⟨l, rfl⟩ := Nat.exists_eq_add_of_le (show X.length + 1 ≤ j by omega)
          rw [dI_o _ _ _ (by omega), show X.length + 1 + l = X.length + (l + 1) by omega, gd_cr]
          exact ey l (by omega)
  have loop : ∀ (d : Nat) (E : Dat), d ≤ Y.length → RcF ad ro D E r → (∀ p j, 500 ≤ p → p < 530 → p ≠ 513 → E.1 (ad p) j = D.1 (ad p) j) → (∀ j, j < X.length + d → E.1 (ad 513) (3 * r + j) = nI ((X ++ Y).getD j 0)) → (∀ j, d ≤ j → j < Y.length → E.1 (ad 513) (3 * r + (X.length + (j + 1))) = nI (Y.getD j 0)) → X9_addStep_l7 G post (ad 500) (nI r) (nI t) (ad 512) (ad 513) (d + 1) (nI (X.length + d)) E := by
    intro d
    induction d with
    | zero =>
      intro E _ fE eo ex ey
      rw [Nat.add_zero] at ex
      rw [Nat.add_zero X.length]
      have ex' : ∀ j, j < X.length → E.1 (ad 513) (3 * r + j) = nI (X.getD j 0) := fun j hj => by rw [ex j hj, gd_l hj]
      show X9_addStep_l7_b G post (ad 500) (nI r) (nI t) (ad 512) (ad 513) _ _ _
      unfold X9_addStep_l7_b
      refine ⟨fun _ => fin E fE eo ex' (fun j hj => ey j (by omega) hj), fun q => ?_⟩
      have hx0 : X.length ≠ 0 := fun w => q (by rw [w]; decide)
      rw [st_e, nI_sub1 (by omega), show 3 * r + X.length - 1 = 3 * r + (X.length - 1) by omega, nI_clamp (n := 3 * r + (X.length - 1)) (by omega), ex' _ (by omega)]
      have := xlt (X.length - 1) (by omega)
      exact ⟨in12 H (by omega), fun _ => fin E fE eo ex' (fun j hj => ey j (by omega) hj), fun w => absurd (nI_le (by omega) (by omega)) w⟩
    | succ d ih =>
      intro E hd fE eo ex ey
      show X9_addStep_l7_b G post (ad 500) (nI r) (nI t) (ad 512) (ad 513) _ _ _
      unfold X9_addStep_l7_b
      refine ⟨fun q => absurd q (nI_nle (by omega) (by omega)), fun _ => ?_⟩
      have e1 : (X ++ Y).getD (X.length + d) 0 = Y.getD d 0 := gd_r
      rw [st_e, nI_sub1 (by omega), nI_m1 (by omega), show 3 * r + (X.length + (d + 1)) - 1 = 3 * r + (X.length + d) by omega, nI_clamp (n := 3 * r + (X.length + d)) (by omega), nI_clamp (n := 3 * r + (X.length + (d + 1))) (by omega), ex (X.length + d) (by omega), e1]
      have hy := ygt d (by omega)
      refine ⟨in12 H (by omega), fun w => absurd w (nI_ge hy.1 (by omega)), fun _ => ⟨in12 H (by omega), in12 H (by omega), ?_⟩⟩
      rw [show X.length + (d + 1) - 1 = X.length + d by omega]
      refine ih _ (by omega) (fE.tr (RcF.w H (by unfold inR; omega))) (fun p j x y c => by rw [c_ne H ⟨x, y⟩ (by omega) (Or.inl c)]; exact eo p j x y c) (fun j hj => by rw [dI_o _ _ _ (by omega)]; exact ex j (by omega)) (fun j h1 h2 => ?_)
      by_cases u : j = d
      · rw [u, dI_s]
      · rw [dI_o _ _ _ (by omega)]; exact ey j (by omega) h2
  rw [hcn]
  exact ⟨_, loop Y.length D (Nat.le_refl _) RcF.rf (fun _ _ _ _ _ => rfl) (fun j hj => by rw [hl j (by omega), hs]) (fun j h1 h2 => by omega)⟩
theorem takeStep_sp (H : RG G ad ro) (hr : r < 4) (h : RrV ad D r A) (h3 : ct (aS A) 40 ≤ 3) {t : Nat} (ht : t < 40) (hs1 : aS A t = true) {post : Dat → Prop} (k : ∀ D', RcF ad ro D D' r → RrV ad D' r (wS A (ups (aS A) t false)) → post D') : X9_takeStep_wp G D (ad 500) (nI r) (nI (stl A t).length) post := by
  have hR := h
  obtain ⟨-, -, hc, hl, -⟩ := h
  have hlen := stl_len A 40
  have hs := stl_split A ht
  rw [if_pos hs1] at hs
  have hs : stl A 40 = stl A t ++ t :: stR2 A t := hs
  have hst := stl_uns A ht
  have hct : ct (ups (aS A) t false) 40 + 1 = ct (aS A) 40 := by
    have := ct_ups (s := aS A) (t := t) (b := false) (n := 40) ht
    rw [hs1, if_pos rfl, if_neg (by decide)] at this
    exact this
  generalize hX : stl A t = X at *
  generalize hY : stR2 A t = Y at *
  have hcn : ct (aS A) 40 = X.length + (Y.length + 1) := by rw [← hlen, hs, List.length_append]; rfl
  have n23 : ad 512 ≠ ad 513 := H.ne (by omega) (by omega) (by omega)
  refine ⟨H.x_, _, H.stp_.1, H.stp_.2.1, _, H.sta_.1, H.sta_.2.1, in4 H H.stp_ hr, in4 H H.stp_ hr, ?_⟩
  rw [nI_clamp (by omega), hc, nI_sub1 (by omega), ← hct, Nat.add_sub_cancel]
  generalize hN : ct (ups (aS A) t false) 40 = N at *
  have key := up_loop (L := fun n i (E : Dat) => X9_takeStep_l12 G post (ad 500) (nI r) (nI X.length) (ad 512) (ad 513) n (nI i) E) N (fun i E => X.length ≤ i ∧ RcF ad ro D E r ∧ (∀ p j, 500 ≤ p → p < 530 → p ≠ 512 → p ≠ 513 → E.1 (ad p) j = D.1 (ad p) j) ∧ E.1 (ad 512) r = nI N ∧ (∀ j, j < i → E.1 (ad 513) (3 * r + j) = nI ((X ++ Y).getD j 0)) ∧ ∀ j, i ≤ j → E.1 (ad 513) (3 * r + j) = D.1 (ad 513) (3 * r + j)) ?_ ?_ X.length (dI D (ad 512) r (nI N)) (by omega) ⟨Nat.le_refl _, RcF.w H (by unfold inR; omega), fun p j x y c d => c_ne H ⟨x, y⟩ (by omega) (Or.inl c), dI_s _ _ _ _, fun j hj => ?_, fun j hj => c_ne H (by omega) (by omega) (Or.inl (by omega))⟩
  · exact ⟨_, key⟩
  · intro n E hE
    obtain ⟨-, fE, eo, e2, e3, -⟩ := hE
    show X9_takeStep_l12_b G post (ad 500) (nI r) (nI X.length) (ad 512) (ad 513) _ _ _
    unfold X9_takeStep_l12_b
    rw [nI_clamp (n := r) (by omega), e2]
    refine ⟨in4 H H.stp_ hr, fun _ => k E fE (hR.stp _ eo (by rw [hN]; exact e2) (fun j hj => ?_)), fun q => absurd (nI_le (Nat.le_refl _) (by omega)) q⟩
    rw [hN] at hj
    rw [hst]
    exact e3 j hj
  · intro n i E hi hE hk
    obtain ⟨hxi, fE, eo, e2, e3, e4⟩ := hE
    show X9_takeStep_l12_b G post (ad 500) (nI r) (nI X.length) (ad 512) (ad 513) _ _ _
    unfold X9_takeStep_l12_b
    rw [nI_clamp (n := r) (by omega), e2, st_e, nI_1, nI_1, nI_clamp (n := 3 * r + i) (by omega), nI_clamp (n := 3 * r + i + 1) (by omega)]
    refine ⟨in4 H H.stp_ hr, fun q => absurd q (nI_ge hi (by omega)), fun _ => ⟨in12 H (by omega), in12 H (by omega), hk _ ⟨by omega, fE.tr (RcF.w H (by unfold inR; omega)), fun p j x y c d => by rw [c_ne H ⟨x, y⟩ (by omega) (Or.inl d)]; exact eo p j x y c d, by rw [c_ne H (p := 512) (q := 513) (by omega) (by omega) (Or.inl (by omega))]; exact e2, fun j hj => ?_, fun j hj => by rw [dI_o _ _ _ (by omega)]; exact e4 j (by omega)⟩⟩⟩
    by_cases u : j = i
    · obtain ⟨l, rfl⟩ := Nat.exists_eq_add_of_le hxi
      rw [u, dI_s, show 3 * r + (X.length + l) + 1 = 3 * r + (X.length + (l + 1)) by omega, e4 _ (by omega), hl _ (by omega), hs, gd_cr, gd_r]
    · rw [dI_o _ _ _ (by omega)]; exact e3 j (by omega)
  · rw [c_ne H (by omega) (by omega) (Or.inl (by omega)), hl j (by omega), hs, gd_l hj, gd_l hj]
theorem step9_sp (H : RG G ad ro) (hK : OKS S) (h : RfV ad ro Z D S) {a t : Int32} (k : ∀ D', RfV ad ro Z D' (sStep S a t).2 → post (sStep S a t).1 D') : X9_step_wp G D (ad 500) a t post := by
  unfold sStep at k
  refine ⟨H.x_, _, H.stp_.1, H.stp_.2.1, isRow_if (fun n0 => ⟨fun _ => ?_, fun q => absurd rfl q⟩) (fun r0 => ⟨fun q => absurd q (by decide), fun _ => ?_⟩)⟩
  · rw [if_neg (fun w => n0 w.1)] at k
    exact isW_sp H h (by decide) (fun D' c => ⟨isB_0, k D' c⟩)
  refine isTick9_if (fun n0 => ⟨fun q => absurd rfl q, fun _ => ?_⟩) (fun t0 => ⟨fun _ => ?_, fun q => absurd q (by decide)⟩)
  · rw [if_neg (fun w => n0 w.2)] at k
    exact isW_sp H h (by decide) (fun D' c => ⟨isB_0, k D' c⟩)
  rw [if_pos ⟨r0, t0⟩] at k
  have hr := tn_R r0
  have ht := tn_T t0
  have er := tn_nI r0.1
  have et := tn_nI t0.1
  have hk := hK (tn a) hr
  have hR := h.1 (tn a) hr
  have h3 : ct (aS (S.1 (tn a))) 40 ≤ 3 := hk.2.2.1
  refine ⟨fun q => ?_, fun q => ?_⟩
  rotate_left
  · rw [if_pos (by rw [q]; rfl)] at k
    exact isW_sp H h (by decide) (fun D' c => ⟨isB_0, k D' c⟩)
  have hq0 : ¬ t.toInt = 0 := fun z => q ((I_eq _ _).mpr z)
  rw [if_neg hq0] at k
  generalize tn a = r at *
  generalize tn t = u at *
  subst er et
  rw [nI_clamp (by omega), hR.2.2.1]
  refine ⟨in4 H H.stp_ hr, fun q2 => ?_, fun q2 => ?_⟩
  · have h3' : ct (aS (S.1 r)) 40 < 3 := by
      by_cases w : ct (aS (S.1 r)) 40 = 3
      · exact absurd (by rw [w]; rfl) q2
      · omega
    rw [if_neg (by omega)] at k
    refine findStep_sp H hr hR h3 ht (fun w => ⟨fun _ => ?_, fun z => absurd rfl z⟩) (fun w => ⟨fun z => ?_, fun _ => ?_⟩)
    · rw [if_neg (by rw [w]; decide)] at k
      exact addStep_sp H hr hR h3' ht w (fun D' f' R' => is0_sp H (h.rc H hK f' R') (fun D' c => ⟨isB_1, k D' c⟩))
    · have hl : (stl (S.1 r) u).length ≤ 40 := by rw [stl_len]; have := ct_le (aS (S.1 r)) u; omega
      have := congrArg Int32.toInt z
      rw [nI_toInt (by omega)] at this
      have e : (-1 : Int32).toInt = -1 := rfl
      omega
    · rw [if_pos w] at k
      exact isW_sp H h (by decide) (fun D' c => ⟨isB_0, k D' c⟩)
  · have h3' : 3 ≤ ct (aS (S.1 r)) 40 := by
      rw [show (3 : Int32) = nI 3 by decide, nI_eq (by omega) (by omega)] at q2
      omega
    rw [if_pos h3'] at k
    exact isW_sp H h (by decide) (fun D' c => ⟨isB_0, k D' c⟩)
theorem unstep9_sp (H : RG G ad ro) (hK : OKS S) (h : RfV ad ro Z D S) {a t : Int32} (k : ∀ D', RfV ad ro Z D' (sUnstep S a t).2 → post (sUnstep S a t).1 D') : X9_unstep_wp G D (ad 500) a t post := by
  unfold sUnstep at k
  refine ⟨H.x_, isRow_if (fun n0 => ⟨fun _ => ?_, fun q => absurd rfl q⟩) (fun r0 => ⟨fun q => absurd q (by decide), fun _ => ?_⟩)⟩
  · rw [if_neg (fun w => n0 w.1)] at k
    exact isW_sp H h (by decide) (fun D' c => ⟨isB_0, k D' c⟩)
  refine isTick9_if (fun n0 => ⟨fun q => absurd rfl q, fun _ => ?_⟩) (fun t0 => ⟨fun _ => ?_, fun q => absurd q (by decide)⟩)
  · rw [if_neg (fun w => n0 w.2)] at k
    exact isW_sp H h (by decide) (fun D' c => ⟨isB_0, k D' c⟩)
  rw [if_pos ⟨r0, t0⟩] at k
  have hr := tn_R r0
  have ht := tn_T t0
  have er := tn_nI r0.1
  have et := tn_nI t0.1
  have hk := hK (tn a) hr
  have hR := h.1 (tn a) hr
  have h3 : ct (aS (S.1 (tn a))) 40 ≤ 3 := hk.2.2.1
  generalize tn a = r at *
  generalize tn t = u at *
  subst er et
  refine findStep_sp H hr hR h3 ht (fun w => ⟨fun z => absurd rfl z, fun _ => ?_⟩) (fun w => ⟨fun _ => ?_, fun z => ?_⟩)
  · rw [if_neg (by rw [w]; decide)] at k
    exact isW_sp H h (by decide) (fun D' c => ⟨isB_0, k D' c⟩)
  · rw [if_pos w] at k
    exact takeStep_sp H hr hR h3 ht w (fun D' f' R' => is0_sp H (h.rc H hK f' R') (fun D' c => ⟨isB_1, k D' c⟩))
  · have hl : (stl (S.1 r) u).length ≤ 40 := by rw [stl_len]; have := ct_le (aS (S.1 r)) u; omega
    have := congrArg Int32.toInt z
    rw [nI_toInt (by omega)] at this
    have e : (-1 : Int32).toInt = -1 := rfl
    omega
end ST9
