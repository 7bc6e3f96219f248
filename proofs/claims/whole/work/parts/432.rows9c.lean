section R7
variable {G : Shp} {ad ro : Nat → Nat} {D D' : Dat} {S : AS} {Z : Dat} {r : Nat} {A : AR} {post : Int32 → Dat → Prop}
theorem RrV.mod (H : RG G ad ro) (h : RrV ad D r A) {l : Bool} {p : Nat} : RrV ad (dI (dI D (ad 517) r (bI l)) (ad 511) r (nI p)) r (wM A l p) := by
  obtain ⟨h1, h2, h3, h4, h5, h6, h7⟩ := h
  have e : ∀ p' j, 500 ≤ p' → p' < 530 → p' ≠ 517 → p' ≠ 511 → (dI (dI D (ad 517) r (bI l)) (ad 511) r (nI p)).1 (ad p') j = D.1 (ad p') j := fun p' j x y c d => by rw [c_ne H ⟨x, y⟩ (by omega) (Or.inl d), c_ne H ⟨x, y⟩ (by omega) (Or.inl c)]
  refine ⟨fun u hu => ?_, dI_s _ _ _ _, by rw [e 512 _ (by omega) (by omega) (by omega) (by omega)]; exact h3, fun k hk => by rw [e 513 _ (by omega) (by omega) (by omega) (by omega)]; exact h4 k hk, by rw [e 514 _ (by omega) (by omega) (by omega) (by omega)]; exact h5, ?_, fun f hf u hu => by rw [e 518 _ (by omega) (by omega) (by omega) (by omega)]; exact h7 f hf u hu⟩
  · rw [e 510 _ (by omega) (by omega) (by omega) (by omega), e 515 _ (by omega) (by omega) (by omega) (by omega), e 516 _ (by omega) (by omega) (by omega) (by omega)]
    exact h1 u hu
  · rw [c_ne H (p := 517) (q := 511) (by omega) (by omega) (Or.inl (by omega)), dI_s]
    rfl
theorem model9_sp (H : RG G ad ro) (hK : OKS S) (h : RfV ad ro Z D S) {a l p : Int32} (hl : isB l) (k : ∀ D', RfV ad ro Z D' (sModel S a l p).2 → post (sModel S a l p).1 D') : X9_model_wp G D (ad 500) a l p post := by
  unfold sModel at k
  have e2 : (2 : Int32).toInt = 2 := rfl
  have e7 : (7 : Int32).toInt = 7 := rfl
  refine ⟨H.x_, _, H.lin_.1, H.lin_.2.1, _, H.per_.1, H.per_.2.1, isRow_if (fun n0 => ⟨fun q => absurd rfl q, fun _ => ?_⟩) (fun r0 => ⟨fun _ => ?_, fun q => absurd q (by decide)⟩)⟩
  · rw [if_neg n0] at k
    exact isW_sp H h (by decide) (fun D' c => ⟨isB_0, k D' c⟩)
  rw [if_pos r0] at k
  have hr := tn_R r0
  have er := tn_nI r0.1
  have ebb := bI_dec hl
  have bad : ¬ (p.toInt = 0 ∨ (2 ≤ p.toInt ∧ p.toInt ≤ 7)) → X9_model_j28 G post (ad 500) a l p (ad 517) (ad 511) D := fun w => by
    rw [if_neg w] at k
    exact isW_sp H h (by decide) (fun D' c => ⟨isB_0, k D' c⟩)
  have good : (p.toInt = 0 ∨ (2 ≤ p.toInt ∧ p.toInt ≤ 7)) → X9_model_j34 G post (ad 500) a l p (ad 517) (ad 511) D := fun w => by
    rw [if_pos w] at k
    have ep := tn_nI (v := p) (by omega)
    generalize tn p = pp at *
    generalize decide (¬ l = 0) = bb at *
    generalize tn a = r at *
    subst er ep ebb
    unfold X9_model_j34
    rw [nI_clamp (by omega), nar_bI]
    exact ⟨in4 H H.lin_ hr, in4 H H.per_ hr, is0_sp H (h.rc H hK ((RcF.w H (by unfold inR; omega)).tr (RcF.w H (by unfold inR; omega))) ((h.1 r hr).mod H)) (fun D' c => ⟨isB_1, k D' c⟩)⟩
  refine ⟨fun q => good (Or.inl (by rw [q]; rfl)), fun q => ⟨fun q2 => bad (fun w => ?_), fun q2 => ⟨fun q3 => good (Or.inr ⟨?_, (I_le _ _).mp q3⟩), fun q3 => bad (fun w => ?_)⟩⟩⟩
  · have := (I_lt _ _).mp q2
    have : ¬ p.toInt = 0 := fun z => q ((I_eq _ _).mpr z)
    omega
  · have : ¬ p.toInt < (2 : Int32).toInt := fun z => q2 ((I_lt _ _).mpr z)
    omega
  · have : ¬ p.toInt ≤ (7 : Int32).toInt := fun z => q3 ((I_le _ _).mpr z)
    have : ¬ p.toInt = 0 := fun z => q ((I_eq _ _).mpr z)
    omega
theorem RrV.pln (H : RG G ad ro) (h : RrV ad D r A) : RrV ad (dI (dI D (ad 512) r 0) (ad 514) r 0) r (wP A) := by
  obtain ⟨h1, h2, h3, h4, h5, h6, h7⟩ := h
  have e : ∀ p' j, 500 ≤ p' → p' < 530 → p' ≠ 512 → p' ≠ 514 → (dI (dI D (ad 512) r 0) (ad 514) r 0).1 (ad p') j = D.1 (ad p') j := fun p' j x y c d => by rw [c_ne H ⟨x, y⟩ (by omega) (Or.inl d), c_ne H ⟨x, y⟩ (by omega) (Or.inl c)]
  have z : ct (aS (wP A)) 40 = 0 := ct_false 40
  refine ⟨fun u hu => ?_, by rw [e 511 _ (by omega) (by omega) (by omega) (by omega)]; exact h2, ?_, fun k hk => by omega, dI_s _ _ _ _, by rw [e 517 _ (by omega) (by omega) (by omega) (by omega)]; exact h6, fun f hf => absurd hf (Nat.not_lt_zero f)⟩
  · rw [e 510 _ (by omega) (by omega) (by omega) (by omega), e 515 _ (by omega) (by omega) (by omega) (by omega), e 516 _ (by omega) (by omega) (by omega) (by omega)]
    exact h1 u hu
  · rw [c_ne H (p := 512) (q := 514) (by omega) (by omega) (Or.inl (by omega)), dI_s, z]
    rfl
theorem plain9_sp (H : RG G ad ro) (hK : OKS S) (h : RfV ad ro Z D S) {a : Int32} (k : ∀ D', RfV ad ro Z D' (sPlain S a).2 → post (sPlain S a).1 D') : X9_plain_wp G D (ad 500) a post := by
  unfold sPlain at k
  refine ⟨H.x_, _, H.stp_.1, H.stp_.2.1, _, H.fea_.1, H.fea_.2.1, isRow_if (fun n0 => ⟨fun q => absurd rfl q, fun _ => ?_⟩) (fun r0 => ⟨fun _ => ?_, fun q => absurd q (by decide)⟩)⟩
  · rw [if_neg n0] at k
    exact isW_sp H h (by decide) (fun D' c => ⟨isB_0, k D' c⟩)
  rw [if_pos r0] at k
  have hr := tn_R r0
  have er := tn_nI r0.1
  generalize tn a = r at *
  subst er
  rw [nI_clamp (by omega)]
  exact ⟨in4 H H.stp_ hr, in4 H H.fea_ hr, is0_sp H (h.rc H hK ((RcF.w H (by unfold inR; omega)).tr (RcF.w H (by unfold inR; omega))) ((h.1 r hr).pln H)) (fun D' c => ⟨isB_1, k D' c⟩)⟩
theorem on_e {r f t : Nat} : (40 : Int32) * (2 * nI r + nI f) + nI t = nI (40 * (2 * r + f) + t) := by rw [show (40 : Int32) = nI 40 by decide, show (2 : Int32) = nI 2 by decide, nI_mul', nI_add, nI_mul', nI_add]
theorem on_e0 {r f : Nat} : (40 : Int32) * (2 * nI r + nI f) = nI (40 * (2 * r + f)) := by rw [show (40 : Int32) = nI 40 by decide, show (2 : Int32) = nI 2 by decide, nI_mul', nI_add, nI_mul']
theorem in320 (H : RG G ad ro) {i : Nat} (hi : i < 320) : vp_in (nI i) (G.2.2.1 (ad 518)) := by rw [H.ion_.2.2]; exact vp_in_nI hi (by omega)
theorem feast9_sp (H : RG G ad ro) (hK : OKS S) (h : RfV ad ro Z D S) {a : Int32} (k : ∀ D', RfV ad ro Z D' (sFeast S a).2 → post (sFeast S a).1 D') : X9_feast_wp G D (ad 500) a post := by
  unfold sFeast at k
  have n48 : ad 514 ≠ ad 518 := H.ne (by omega) (by omega) (by omega)
  have n40 : ad 514 ≠ ad 500 := H.ne (by omega) (by omega) (by omega)
  refine ⟨H.x_, _, H.fea_.1, H.fea_.2.1, _, H.ion_.1, H.ion_.2.1, isRow_if (fun n0 => ⟨fun q => absurd rfl q, fun _ => ?_⟩) (fun r0 => ⟨fun _ => ?_, fun q => absurd q (by decide)⟩)⟩
  · rw [if_neg n0] at k
    exact refuse9_sp H h (fun D' c => k D' c)
  rw [if_pos r0] at k
  have hr := tn_R r0
  have er := tn_nI r0.1
  have hk := hK (tn a) hr
  have hR := h.1 (tn a) hr
  generalize hA : S.1 (tn a) = A at *
  have hc2 : aC A ≤ 2 := hk.2.2.2.2.2.1
  generalize tn a = r at *
  subst er
  rw [nI_clamp (by omega), hR.2.2.2.2.1]
  refine ⟨in4 H H.fea_ hr, fun q => ?_, fun q => ?_⟩
  · have hc : aC A < 2 := by
      by_cases w : aC A = 2
      · exact absurd (by rw [w]; rfl) q
      · omega
    rw [if_pos hc] at k
    have key := up_loop (L := fun n i (E : Dat) => X9_feast_l31 G post (ad 500) (nI r) (ad 514) (ad 518) n (nI i) E) 40 (fun i E => RcF ad ro D E r ∧ (∀ p j, 500 ≤ p → p < 530 → p ≠ 518 → E.1 (ad p) j = D.1 (ad p) j) ∧ (∀ j, (j < 40 * (2 * r + aC A) ∨ 40 * (2 * r + aC A) + 40 ≤ j) → E.1 (ad 518) j = D.1 (ad 518) j) ∧ ∀ t, t < i → E.1 (ad 518) (40 * (2 * r + aC A) + t) = 0) ?_ ?_ 0 D (by omega) ⟨RcF.rf, fun _ _ _ _ _ => rfl, fun _ _ => rfl, fun t ht => by omega⟩
    · exact ⟨_, key⟩
    · intro n E hE
      obtain ⟨fE, e, eo, en⟩ := hE
      show X9_feast_l31_b G post (ad 500) (nI r) (ad 514) (ad 518) _ _ _
      unfold X9_feast_l31_b
      rw [nI_clamp (n := r) (by omega), e 514 _ (by omega) (by omega) (by omega), hR.2.2.2.2.1, nI_1, dI_n _ _ _ n40, dI_s, nI_sub1 (by omega), Nat.add_sub_cancel]
      refine ⟨fun _ => ⟨in4 H H.fea_ hr, in4 H H.fea_ hr, in4 H H.fea_ hr, ?_⟩, fun q => absurd (by decide) q⟩
      have f2 : RcF ad ro D (dI E (ad 514) r (nI (aC A + 1))) r := fE.tr (RcF.w H (by unfold inR; omega))
      have r2 : RrV ad (dI E (ad 514) r (nI (aC A + 1))) r (wC A (aC A + 1)) := by
        obtain ⟨h1, h2, h3, h4, h5, h6, h7⟩ := hR
        have e' : ∀ p' j, 500 ≤ p' → p' < 530 → p' ≠ 518 → p' ≠ 514 → (dI E (ad 514) r (nI (aC A + 1))).1 (ad p') j = D.1 (ad p') j := fun p' j x y c d => by rw [c_ne H ⟨x, y⟩ (by omega) (Or.inl d)]; exact e p' j x y c
        refine ⟨fun u hu => ?_, by rw [e' 511 _ (by omega) (by omega) (by omega) (by omega)]; exact h2, by rw [e' 512 _ (by omega) (by omega) (by omega) (by omega)]; exact h3, fun k hk => by rw [e' 513 _ (by omega) (by omega) (by omega) (by omega)]; exact h4 k hk, dI_s _ _ _ _, by rw [e' 517 _ (by omega) (by omega) (by omega) (by omega)]; exact h6, fun f hf u hu => ?_⟩
        · rw [e' 510 _ (by omega) (by omega) (by omega) (by omega), e' 515 _ (by omega) (by omega) (by omega) (by omega), e' 516 _ (by omega) (by omega) (by omega) (by omega)]
          exact h1 u hu
        · rw [c_ne H (p := 518) (q := 514) (by omega) (by omega) (Or.inl (by omega))]
          have hf' : f < aC A + 1 := hf
          show _ = bI (aE A f u)
          by_cases w : f = aC A
          · rw [w, en u hu, hk.2.2.2.2.1 (aC A) (Nat.le_refl _) hc u hu]; rfl
          · rw [eo _ (by omega)]; exact h7 f (by omega) u hu
      have R2 := h.rc H hK f2 r2
      exact k _ (R2.st H 0)
    · intro n i E hi hE hk'
      obtain ⟨fE, e, eo, en⟩ := hE
      show X9_feast_l31_b G post (ad 500) (nI r) (ad 514) (ad 518) _ _ _
      unfold X9_feast_l31_b
      rw [nI_clamp (n := r) (by omega), e 514 _ (by omega) (by omega) (by omega), hR.2.2.2.2.1, on_e, nI_clamp (n := 40 * (2 * r + aC A) + i) (by omega), nI_1 i, nar0]
      refine ⟨fun q => absurd q (by rw [show (40 : Int32) = nI 40 by decide]; exact nI_ge hi (by omega)), fun _ => ⟨in4 H H.fea_ hr, in320 H (by omega), hk' _ ⟨fE.tr (RcF.w H (by unfold inR; omega)), fun p j x y c => by rw [c_ne H ⟨x, y⟩ (by omega) (Or.inl c)]; exact e p j x y c, fun j hj => by rw [dI_o _ _ _ (by omega)]; exact eo j hj, fun t ht => ?_⟩⟩⟩
      by_cases w : t = i
      · rw [w, dI_s]
      · rw [dI_o _ _ _ (by omega)]; exact en t (by omega)
  · have hc : ¬ aC A < 2 := fun w => by
      rw [show (2 : Int32) = nI 2 by decide, nI_eq (by omega) (by omega)] at q
      omega
    rw [if_neg hc] at k
    exact refuse9_sp H h (fun D' c => k D' c)
theorem RrV.onF (H : RG G ad ro) (hr : r < 4) (h : RrV ad D r A) {f t : Nat} (hf : f < aC A) (ht : t < 40) : RrV ad (dI D (ad 518) (40 * (2 * r + f) + t) 1) r (wE A f (ups (aE A f) t true)) := by
  obtain ⟨h1, h2, h3, h4, h5, h6, h7⟩ := h
  have e : ∀ p' j, 500 ≤ p' → p' < 530 → p' ≠ 518 → (dI D (ad 518) (40 * (2 * r + f) + t) 1).1 (ad p') j = D.1 (ad p') j := fun p' j x y c => c_ne H ⟨x, y⟩ (by omega) (Or.inl c)
  refine ⟨fun u hu => ?_, by rw [e 511 _ (by omega) (by omega) (by omega)]; exact h2, by rw [e 512 _ (by omega) (by omega) (by omega)]; exact h3, fun k hk => by rw [e 513 _ (by omega) (by omega) (by omega)]; exact h4 k hk, by rw [e 514 _ (by omega) (by omega) (by omega)]; exact h5, by rw [e 517 _ (by omega) (by omega) (by omega)]; exact h6, fun g hg u hu => ?_⟩
  · rw [e 510 _ (by omega) (by omega) (by omega), e 515 _ (by omega) (by omega) (by omega), e 516 _ (by omega) (by omega) (by omega)]
    exact h1 u hu
  · have hg' : g < aC A := hg
    show _ = bI ((if g = f then ups (aE A f) t true else aE A g) u)
    by_cases w : g = f
    · rw [if_pos w, w]
      by_cases v : u = t
      · rw [v, dI_s, ups_s]; rfl
      · rw [ups_n v, dI_o _ _ _ (by omega)]; exact h7 f hf u hu
    · rw [if_neg w, dI_o _ _ _ (by omega)]; exact h7 g hg' u hu
theorem on9_sp (H : RG G ad ro) (hK : OKS S) (h : RfV ad ro Z D S) {a f t : Int32} (k : ∀ D', RfV ad ro Z D' (sOn S a f t).2 → post (sOn S a f t).1 D') : X9_on_wp G D (ad 500) a f t post := by
  unfold sOn at k
  have e0 : (0 : Int32).toInt = 0 := rfl
  refine ⟨H.x_, _, H.fea_.1, H.fea_.2.1, _, H.ion_.1, H.ion_.2.1, isRow_if (fun n0 => ⟨fun _ => ?_, fun q => absurd rfl q⟩) (fun r0 => ⟨fun q => absurd q (by decide), fun _ => ?_⟩)⟩
  · rw [if_neg (fun w => n0 w.1)] at k
    exact isW_sp H h (by decide) (fun D' c => ⟨isB_0, k D' c⟩)
  refine isTick9_if (fun n0 => ⟨fun q => absurd rfl q, fun _ => ?_⟩) (fun t0 => ⟨fun _ => ?_, fun q => absurd q (by decide)⟩)
  · rw [if_neg (fun w => n0 w.2)] at k
    exact isW_sp H h (by decide) (fun D' c => ⟨isB_0, k D' c⟩)
  rw [if_pos ⟨r0, t0⟩] at k
  have hr := tn_R r0
  have ht := tn_T t0
  have er := tn_nI r0.1
  have et := tn_nI t0.1
  have hk := hK (tn a) hr
  have hR := h.1 (tn a) hr
  generalize hA : S.1 (tn a) = A at *
  have hc2 : aC A ≤ 2 := hk.2.2.2.2.2.1
  have enC : (nI (aC A)).toInt = (aC A : Int) := nI_toInt (by omega)
  generalize tn a = r at *
  generalize tn t = u at *
  subst er et
  have bad : ¬ (0 ≤ f.toInt ∧ f.toInt < aC A) → X9_on_j34 G post (ad 500) (nI r) f (nI u) (ad 514) (ad 518) D := fun w => by
    rw [if_neg w] at k
    exact isW_sp H h (by decide) (fun D' c => ⟨isB_0, k D' c⟩)
  refine ⟨fun q => bad (fun w => ?_), fun q => ⟨in4 H H.fea_ hr, ?_⟩⟩
  · have := (I_lt _ _).mp q
    omega
  have f0 : ¬ f.toInt < (0 : Int32).toInt := fun z => q ((I_lt _ _).mpr z)
  rw [nI_clamp (n := r) (by omega), hR.2.2.2.2.1]
  refine ⟨fun q2 => ?_, fun q2 => bad (fun w => q2 ((I_lt _ _).mpr (by rw [enC]; exact w.2)))⟩
  have f1 := (I_lt _ _).mp q2
  rw [enC] at f1
  rw [if_pos ⟨by omega, f1⟩] at k
  have ef := tn_nI (v := f) (by omega)
  have hf : tn f < aC A := by unfold tn; omega
  generalize tn f = g at *
  subst ef
  rw [on_e0]
  have h8 : ct (aE A g) 40 ≤ 8 := hk.2.2.2.1 g (by omega)
  have key := up_loop (L := fun n i (c : Nat) => X9_on_l56 G post (ad 500) (nI r) (nI g) (nI u) (ad 514) (ad 518) n (nI c) (nI (40 * (2 * r + g))) (nI i) D) 40 (fun i c => c = ct (aE A g) i) ?_ ?_ 0 0 (by omega) rfl
  · exact ⟨_, key⟩
  · intro n c hc
    show X9_on_l56_b G post (ad 500) (nI r) (nI g) (nI u) (ad 514) (ad 518) _ _ _ _ _
    unfold X9_on_l56_b
    rw [nI_add, nI_clamp (by omega), nar1, hR.2.2.2.2.2.2 g hf u ht]
    refine ⟨fun _ => ⟨fun q8 => ⟨in320 H (by omega), fun q0 => ⟨in320 H (by omega), ?_⟩, fun q0 => ?_⟩, fun q8 => ?_⟩, fun q => absurd (by decide) q⟩
    · have h9 : ¬ 8 ≤ ct (aE A g) 40 := fun w => q8 (by rw [hc, show ct (aE A g) 40 = 8 by omega]; rfl)
      rw [if_neg h9, if_neg (by rw [bI_0.mp q0]; decide)] at k
      exact is0_sp H (h.rc H hK (RcF.w H (by unfold inR; omega)) (hR.onF H hr hf ht)) (fun D' c => ⟨isB_1, k D' c⟩)
    · have h9 : ¬ 8 ≤ ct (aE A g) 40 := fun w => q8 (by rw [hc, show ct (aE A g) 40 = 8 by omega]; rfl)
      rw [if_neg h9, if_pos (bI_n0.mp q0)] at k
      exact isW_sp H h (by decide) (fun D' c => ⟨isB_0, k D' c⟩)
    · have h9 : 8 ≤ ct (aE A g) 40 := by
        rw [show (8 : Int32) = nI 8 by decide, nI_eq (by omega) (by omega)] at q8
        omega
      rw [if_pos h9] at k
      exact isW_sp H h (by decide) (fun D' c => ⟨isB_0, k D' c⟩)
  · intro n i c hi hc hk'
    show X9_on_l56_b G post (ad 500) (nI r) (nI g) (nI u) (ad 514) (ad 518) _ _ _ _ _
    unfold X9_on_l56_b X9_on_j83
    rw [show nI (40 * (2 * r + g)) + nI i = nI (40 * (2 * r + g) + i) by rw [nI_add], nI_clamp (n := 40 * (2 * r + g) + i) (by omega), hR.2.2.2.2.2.2 g hf i hi]
    refine ⟨fun q => absurd q (by rw [show (40 : Int32) = nI 40 by decide]; exact nI_ge hi (by omega)), fun _ => ⟨in320 H (by omega), fun z => ?_, fun z => ?_⟩⟩
    · have := bI_0.mp z
      have e := hk' c (by rw [ct_succ, this, if_neg (by decide)]; exact hc)
      rw [nI_1 i, show nI c + 0 = nI c from Int32.add_zero _]
      exact e
    · have := bI_n0.mp z
      have e := hk' (c + 1) (by rw [ct_succ, this, if_pos rfl, hc])
      rw [nI_1 i, nI_1 c]
      exact e
end R7
