/-! the reference: rows, their calls -/
/-- a cell that belongs to row r -/
def inR (r q i : Nat) : Prop := ((q = 510 ∨ q = 515 ∨ q = 516) ∧ 40 * r ≤ i ∧ i < 40 * r + 40) ∨ ((q = 511 ∨ q = 512 ∨ q = 514 ∨ q = 517) ∧ i = r) ∨ (q = 513 ∧ 3 * r ≤ i ∧ i < 3 * r + 3) ∨ (q = 518 ∧ 80 * r ≤ i ∧ i < 80 * r + 80)
/-- only cells of row r have changed -/
def RcF (ad ro : Nat → Nat) (D D' : Dat) (r : Nat) : Prop := FrP ro D D' pRr ∧ D'.2 = D.2 ∧ ∀ q i, 500 ≤ q → q < 530 → ¬ inR r q i → D'.1 (ad q) i = D.1 (ad q) i
section R9
variable {G : Shp} {ad ro : Nat → Nat} {D D' : Dat} {S : AS} {Z : Dat} {r : Nat} {A : AR} {post : Int32 → Dat → Prop}
theorem RcF.rf : RcF ad ro D D r := ⟨FrP.rf, rfl, fun _ _ _ _ _ => rfl⟩
theorem RcF.tr {D1 D2 : Dat} (h : RcF ad ro D D1 r) (h2 : RcF ad ro D1 D2 r) : RcF ad ro D D2 r := ⟨h.1.tr h2.1, h2.2.1.trans h.2.1, fun q i a b c => (h2.2.2 q i a b c).trans (h.2.2 q i a b c)⟩
theorem c_ne (H : RG G ad ro) {p q i j : Nat} {v : Int32} (hp : 500 ≤ p ∧ p < 530) (hq : 500 ≤ q ∧ q < 530) (h : p ≠ q ∨ j ≠ i) : (dI D (ad q) i v).1 (ad p) j = D.1 (ad p) j := by
  by_cases e : p = q
  · subst e
    exact dI_o _ _ _ (by omega)
  · rw [dI_n _ _ _ (H.ne hp hq e)]
theorem RcF.w (H : RG G ad ro) {q i : Nat} {v : Int32} (h : inR r q i) : RcF ad ro D (dI D (ad q) i v) r := by
  have hq : 510 ≤ q ∧ q ≤ 518 := by unfold inR at h; omega
  refine ⟨FrP.dI (by rw [H.inj_ q (by omega) (by omega)]; exact hq), rfl, fun p j h1 h2 h3 => c_ne H ⟨h1, h2⟩ (by omega) ?_⟩
  by_cases w : p = q ∧ j = i
  · rw [w.1, w.2] at h3
    exact absurd h h3
  · omega
theorem RcF.other (f : RcF ad ro D D' r) {i : Nat} (hi : i ≠ r) (h : RrV ad D i A) (h3 : ct (aS A) 40 ≤ 3) (h2 : aC A ≤ 2) : RrV ad D' i A := by
  have e := f.2.2
  refine ⟨fun t ht => ?_, ?_, ?_, fun k hk => ?_, ?_, ?_, fun g hg t ht => ?_⟩
  · rw [e 510 _ (by omega) (by omega) (by unfold inR; omega), e 515 _ (by omega) (by omega) (by unfold inR; omega), e 516 _ (by omega) (by omega) (by unfold inR; omega)]
    exact h.1 t ht
  · rw [e 511 _ (by omega) (by omega) (by unfold inR; omega)]; exact h.2.1
  · rw [e 512 _ (by omega) (by omega) (by unfold inR; omega)]; exact h.2.2.1
  · rw [e 513 _ (by omega) (by omega) (by unfold inR; omega)]; exact h.2.2.2.1 k hk
  · rw [e 514 _ (by omega) (by omega) (by unfold inR; omega)]; exact h.2.2.2.2.1
  · rw [e 517 _ (by omega) (by omega) (by unfold inR; omega)]; exact h.2.2.2.2.2.1
  · rw [e 518 _ (by omega) (by omega) (by unfold inR; omega)]; exact h.2.2.2.2.2.2 g hg t ht
theorem RfV.rc (H : RG G ad ro) (hK : OKS S) (h : RfV ad ro Z D S) (f : RcF ad ro D D' r) (hA : RrV ad D' r A) : RfV ad ro Z D' (stR S r A) := h.row H f.1 hA (fun i hi hir => f.other hir (h.1 i hi) (hK i hi).2.2.1 (hK i hi).2.2.2.2.2.1)
theorem isRow_if {v : Int32} (k0 : ¬ okR v → post 0 D) (k1 : okR v → post 1 D) : X9_isRow_wp G D v post := by
  have e0 : (0 : Int32).toInt = 0 := rfl
  have e4 : (4 : Int32).toInt = 4 := rfl
  refine ⟨fun q => ⟨isB_0, k0 (fun w => ?_)⟩, fun q => ⟨fun q2 => ⟨isB_0, k0 (fun w => ?_)⟩, fun q2 => ⟨isB_1, k1 ?_⟩⟩⟩
  · have := (I_lt _ _).mp q
    unfold okR at w; omega
  · have := (I_le _ _).mp q2
    unfold okR at w; omega
  · have h1 : ¬ v.toInt < (0 : Int32).toInt := fun w => q ((I_lt _ _).mpr w)
    have h2 : ¬ (4 : Int32).toInt ≤ v.toInt := fun w => q2 ((I_le _ _).mpr w)
    unfold okR; omega
theorem isTick9_if {v : Int32} (k0 : ¬ okT v → post 0 D) (k1 : okT v → post 1 D) : X9_isTick_wp G D v post := by
  have e0 : (0 : Int32).toInt = 0 := rfl
  have e4 : (40 : Int32).toInt = 40 := rfl
  refine ⟨fun q => ⟨isB_0, k0 (fun w => ?_)⟩, fun q => ⟨fun q2 => ⟨isB_0, k0 (fun w => ?_)⟩, fun q2 => ⟨isB_1, k1 ?_⟩⟩⟩
  · have := (I_lt _ _).mp q
    unfold okT at w; omega
  · have := (I_le _ _).mp q2
    unfold okT at w; omega
  · have h1 : ¬ v.toInt < (0 : Int32).toInt := fun w => q ((I_lt _ _).mpr w)
    have h2 : ¬ (40 : Int32).toInt ≤ v.toInt := fun w => q2 ((I_le _ _).mpr w)
    unfold okT; omega
theorem isFar9_if {v : Int32} (k0 : ¬ okF v → post 0 D) (k1 : okF v → post 1 D) : X9_isFar_wp G D v post := by
  have e0 : (0 : Int32).toInt = 0 := rfl
  have e4 : (79 : Int32).toInt = 79 := rfl
  refine ⟨fun q => ⟨isB_0, k0 (fun w => ?_)⟩, fun q => ⟨fun q2 => ⟨isB_0, k0 (fun w => ?_)⟩, fun q2 => ⟨isB_1, k1 ?_⟩⟩⟩
  · have := (I_lt _ _).mp q
    unfold okF at w; omega
  · have := (I_lt _ _).mp q2
    unfold okF at w; omega
  · have h1 : ¬ v.toInt < (0 : Int32).toInt := fun w => q ((I_lt _ _).mpr w)
    have h2 : ¬ (79 : Int32).toInt < v.toInt := fun w => q2 ((I_lt _ _).mpr w)
    unfold okF; omega
theorem isNumber9_if {v : Int64} (k0 : ¬ isN v.toInt → post 0 D) (k1 : isN v.toInt → post 1 D) : X9_isNumber_wp G D v post := by
  have e0 : (-10000 : Int64).toInt = -10000 := rfl
  have e4 : (10000 : Int64).toInt = 10000 := rfl
  refine ⟨fun q => ⟨isB_0, k0 (fun w => ?_)⟩, fun q => ⟨fun q2 => ⟨isB_0, k0 (fun w => ?_)⟩, fun q2 => ⟨isB_1, k1 ?_⟩⟩⟩
  · have := (L_lt _ _).mp q
    unfold isN at w; omega
  · have := (L_lt _ _).mp q2
    unfold isN at w; omega
  · have h1 : ¬ v.toInt < (-10000 : Int64).toInt := fun w => q ((L_lt _ _).mpr w)
    have h2 : ¬ (10000 : Int64).toInt < v.toInt := fun w => q2 ((L_lt _ _).mpr w)
    unfold isN; omega
theorem is0_sp (H : RG G ad ro) (h : RfV ad ro Z D S) (k : ∀ D', RfV ad ro Z D' (stS S 0) → post 1 D') : X9_is_wp G D (ad 500) 0 post := ⟨H.x_, fun q => absurd rfl q, fun _ => ⟨isB_1, k _ (h.st H 0)⟩⟩
theorem isW_sp (H : RG G ad ro) (h : RfV ad ro Z D S) {w : Int32} (hw : ¬ w = 0) (k : ∀ D', RfV ad ro Z D' (stS S w) → post 0 D') : X9_is_wp G D (ad 500) w post := ⟨H.x_, fun _ => ⟨isB_0, k _ (h.st H w)⟩, fun q => absurd q hw⟩
theorem refuse9_sp (H : RG G ad ro) (h : RfV ad ro Z D S) {w : Int32} (k : ∀ D', RfV ad ro Z D' (stS S w) → post (-1) D') : X9_refuse_wp G D (ad 500) w post := ⟨H.x_, k _ (h.st H w)⟩
theorem nI_mul' {c x : Nat} : nI c * nI x = nI (c * x) := by unfold nI; rw [Int32.ofNat_mul]
theorem spot_e {r t : Nat} : (40 : Int32) * nI r + nI t = nI (40 * r + t) := by rw [show (40 : Int32) = nI 40 by decide, nI_mul', nI_add]
theorem in160 (H : RG G ad ro) {s k : Nat} (hM : MA G ad s k 160) {r t : Nat} (hr : r < 4) (ht : t < 40) : vp_in (nI (40 * r + t)) (G.2.2.1 (ad (500 + s))) := by rw [hM.2.2]; exact vp_in_nI (by omega) (by omega)
theorem in4 (H : RG G ad ro) {s k : Nat} (hM : MA G ad s k 4) {r : Nat} (hr : r < 4) : vp_in (nI r) (G.2.2.1 (ad (500 + s))) := by rw [hM.2.2]; exact vp_in_nI hr (by omega)
theorem status9_sp (H : RG G ad ro) (h : RfV ad ro Z D S) (k : ∀ D', RfV ad ro Z D' (sStatus S).2 → post (sStatus S).1 D') : X9_status_wp G D (ad 500) post := ⟨H.x_, by rw [h.2.2.1]; exact k D h⟩
theorem out9_sp (H : RG G ad ro) (h : RfV ad ro Z D S) {v : Int32} (k : ∀ D', RfV ad ro Z D' (sOut S v).2 → post (sOut S v).1 D') : X9_out_wp G D (ad 500) v post := by
  obtain ⟨h9, hl, hv⟩ := h.2.1
  have kk := k D h
  unfold sOut at kk
  have e0 : (0 : Int32).toInt = 0 := rfl
  refine ⟨H.x_, _, H.out_.1, H.out_.2.1, ?_⟩
  rw [h9]
  have en : (nI S.2.1.length).toInt = (S.2.1.length : Int) := nI_toInt (by omega)
  refine ⟨fun q => ?_, fun q => ⟨fun q2 => ?_, fun q2 => ?_⟩⟩
  · have := (I_lt _ _).mp q
    rw [if_neg (fun w => by omega)] at kk
    exact kk
  · have := (I_le _ _).mp q2
    rw [en] at this
    rw [if_neg (fun w => by omega)] at kk
    exact kk
  · have h1 : ¬ v.toInt < (0 : Int32).toInt := fun w => q ((I_lt _ _).mpr w)
    have h2 : ¬ (nI S.2.1.length).toInt ≤ v.toInt := fun w => q2 ((I_le _ _).mpr w)
    rw [en] at h2
    have hp : 0 ≤ v.toInt ∧ v.toInt < (S.2.1.length : Int) := by omega
    rw [if_pos hp] at kk
    have ev := tn_nI (v := v) (by omega)
    have et : tn v = v.toInt.toNat := rfl
    rw [← et] at kk
    have hlt : tn v < S.2.1.length := by unfold tn; omega
    generalize tn v = x at *
    subst ev
    refine ⟨o_in H (by omega), ?_⟩
    rw [nI_clamp (by omega)]
    show post (D.1 (ad 508) x) D
    rw [hv x hlt]
    exact kk
/-- a number of a row -/
theorem RrV.num (H : RG G ad ro) (hr : r < 4) (h : RrV ad D r A) {t : Nat} (ht : t < 40) {v : Int32} : RrV ad (dI (dI D (ad 510) (40 * r + t) v) (ad 515) (40 * r + t) 1) r (wN A t v.toInt) := by
  obtain ⟨h1, h2, h3, h4, h5, h6, h7⟩ := h
  have e : ∀ p j, 500 ≤ p → p < 530 → p ≠ 510 → p ≠ 515 → (dI (dI D (ad 510) (40 * r + t) v) (ad 515) (40 * r + t) 1).1 (ad p) j = D.1 (ad p) j := fun p j a b c d => by rw [c_ne H ⟨a, b⟩ (by omega) (Or.inl d), c_ne H ⟨a, b⟩ (by omega) (Or.inl c)]
  refine ⟨fun u hu => ?_, by rw [e 511 _ (by omega) (by omega) (by omega) (by omega)]; exact h2, by rw [e 512 _ (by omega) (by omega) (by omega) (by omega)]; exact h3, fun k hk => by rw [e 513 _ (by omega) (by omega) (by omega) (by omega)]; exact h4 k hk, by rw [e 514 _ (by omega) (by omega) (by omega) (by omega)]; exact h5, by rw [e 517 _ (by omega) (by omega) (by omega) (by omega)]; exact h6, fun f hf u hu => by rw [e 518 _ (by omega) (by omega) (by omega) (by omega)]; exact h7 f hf u hu⟩
  have h1u := h1 u hu
  rw [e 516 _ (by omega) (by omega) (by omega) (by omega), c_ne H (p := 510) (q := 515) (by omega) (by omega) (Or.inl (by omega))]
  show _ = (if u = t then v.toInt else aN A u) ∧ _ = bI (ups (aF A) t true u) ∧ _ = bI (aX A u)
  by_cases w : u = t
  · subst w
    rw [if_pos rfl, ups_s, dI_s, dI_s]
    exact ⟨rfl, rfl, h1u.2.2⟩
  · rw [if_neg w, ups_n w, dI_o _ _ _ (by omega), dI_o _ _ _ (by omega), c_ne H (p := 515) (q := 510) (by omega) (by omega) (Or.inl (by omega))]
    exact h1u
theorem rc_num (H : RG G ad ro) (hr : r < 4) {t : Nat} (ht : t < 40) {v w : Int32} : RcF ad ro D (dI (dI D (ad 510) (40 * r + t) v) (ad 515) (40 * r + t) w) r := (RcF.w H (by unfold inR; omega)).tr (RcF.w H (by unfold inR; omega))
theorem nar1 : vp_nar .boolean 1 = 1 := rfl
theorem nar0 : vp_nar .boolean 0 = 0 := rfl
theorem put9_sp (H : RG G ad ro) (hK : OKS S) (h : RfV ad ro Z D S) {a t v : Int32} (k : ∀ D', RfV ad ro Z D' (sPut S a t v).2 → post (sPut S a t v).1 D') : X9_put_wp G D (ad 500) a t v post := by
  unfold sPut at k
  refine ⟨H.x_, _, H.val_.1, H.val_.2.1, _, H.has_.1, H.has_.2.1, isRow_if (fun n0 => ⟨fun _ => ?_, fun q => absurd rfl q⟩) (fun r0 => ⟨fun q => absurd q (by decide), fun _ => ?_⟩)⟩
  · rw [if_neg (fun w => n0 w.1)] at k
    exact isW_sp H h (by decide) (fun D' c => ⟨isB_0, k D' c⟩)
  refine isTick9_if (fun n0 => ⟨fun q => absurd rfl q, fun _ => ?_⟩) (fun t0 => ⟨fun _ => ?_, fun q => absurd q (by decide)⟩)
  · rw [if_neg (fun w => n0 w.2)] at k
    exact isW_sp H h (by decide) (fun D' c => ⟨isB_0, k D' c⟩)
  rw [if_pos ⟨r0, t0⟩] at k
  have hr := tn_R r0
  have ht := tn_T t0
  have er := tn_nI r0.1
  have et := tn_nI t0.1
  refine isNumber9_if (fun n0 => ⟨fun q => absurd rfl q, fun _ => ?_⟩) (fun v0 => ⟨fun _ => ?_, fun q => absurd q (by decide)⟩)
  · rw [L_i2l] at n0
    rw [if_neg n0] at k
    exact isW_sp H h (by decide) (fun D' c => ⟨isB_0, k D' c⟩)
  rw [L_i2l] at v0
  rw [if_pos v0] at k
  generalize tn a = r at *
  generalize tn t = u at *
  subst er et
  unfold X9_spot_wp
  rw [spot_e]
  dsimp only
  rw [nI_clamp (by omega), nar1]
  exact ⟨in160 H H.val_ hr ht, in160 H H.has_ hr ht, is0_sp H (h.rc H hK (rc_num H hr ht) ((h.1 r hr).num H hr ht)) (fun D' c => ⟨isB_1, k D' c⟩)⟩
/-- a mark of a row: filled or strange -/
theorem RrV.mF (H : RG G ad ro) (hr : r < 4) (h : RrV ad D r A) {t : Nat} (ht : t < 40) {b : Bool} : RrV ad (dI D (ad 515) (40 * r + t) (bI b)) r (wF A (ups (aF A) t b)) := by
  obtain ⟨h1, h2, h3, h4, h5, h6, h7⟩ := h
  have e : ∀ p j, 500 ≤ p → p < 530 → p ≠ 515 → (dI D (ad 515) (40 * r + t) (bI b)).1 (ad p) j = D.1 (ad p) j := fun p j x y c => c_ne H ⟨x, y⟩ (by omega) (Or.inl c)
  refine ⟨fun u hu => ?_, by rw [e 511 _ (by omega) (by omega) (by omega)]; exact h2, by rw [e 512 _ (by omega) (by omega) (by omega)]; exact h3, fun k hk => by rw [e 513 _ (by omega) (by omega) (by omega)]; exact h4 k hk, by rw [e 514 _ (by omega) (by omega) (by omega)]; exact h5, by rw [e 517 _ (by omega) (by omega) (by omega)]; exact h6, fun f hf u hu => by rw [e 518 _ (by omega) (by omega) (by omega)]; exact h7 f hf u hu⟩
  have h1u := h1 u hu
  rw [e 516 _ (by omega) (by omega) (by omega), e 510 _ (by omega) (by omega) (by omega)]
  show _ = aN A u ∧ _ = bI (ups (aF A) t b u) ∧ _ = bI (aX A u)
  by_cases w : u = t
  · subst w
    rw [ups_s, dI_s]
    exact ⟨h1u.1, rfl, h1u.2.2⟩
  · rw [ups_n w, dI_o _ _ _ (by omega)]
    exact h1u
theorem RrV.mX (H : RG G ad ro) (hr : r < 4) (h : RrV ad D r A) {t : Nat} (ht : t < 40) {b : Bool} : RrV ad (dI D (ad 516) (40 * r + t) (bI b)) r (wX A (ups (aX A) t b)) := by
  obtain ⟨h1, h2, h3, h4, h5, h6, h7⟩ := h
  have e : ∀ p j, 500 ≤ p → p < 530 → p ≠ 516 → (dI D (ad 516) (40 * r + t) (bI b)).1 (ad p) j = D.1 (ad p) j := fun p j x y c => c_ne H ⟨x, y⟩ (by omega) (Or.inl c)
  refine ⟨fun u hu => ?_, by rw [e 511 _ (by omega) (by omega) (by omega)]; exact h2, by rw [e 512 _ (by omega) (by omega) (by omega)]; exact h3, fun k hk => by rw [e 513 _ (by omega) (by omega) (by omega)]; exact h4 k hk, by rw [e 514 _ (by omega) (by omega) (by omega)]; exact h5, by rw [e 517 _ (by omega) (by omega) (by omega)]; exact h6, fun f hf u hu => by rw [e 518 _ (by omega) (by omega) (by omega)]; exact h7 f hf u hu⟩
  have h1u := h1 u hu
  rw [e 515 _ (by omega) (by omega) (by omega), e 510 _ (by omega) (by omega) (by omega)]
  show _ = aN A u ∧ _ = bI (aF A u) ∧ _ = bI (ups (aX A) t b u)
  by_cases w : u = t
  · subst w
    rw [ups_s, dI_s]
    exact ⟨h1u.1, h1u.2.1, rfl⟩
  · rw [ups_n w, dI_o _ _ _ (by omega)]
    exact h1u
theorem gap9_sp (H : RG G ad ro) (hK : OKS S) (h : RfV ad ro Z D S) {a t : Int32} (k : ∀ D', RfV ad ro Z D' (sGap S a t).2 → post (sGap S a t).1 D') : X9_gap_wp G D (ad 500) a t post := by
  unfold sGap at k
  refine ⟨H.x_, _, H.has_.1, H.has_.2.1, isRow_if (fun n0 => ⟨fun _ => ?_, fun q => absurd rfl q⟩) (fun r0 => ⟨fun q => absurd q (by decide), fun _ => ?_⟩)⟩
  · rw [if_neg (fun w => n0 w.1)] at k
    exact isW_sp H h (by decide) (fun D' c => ⟨isB_0, k D' c⟩)
  refine isTick9_if (fun n0 => ⟨fun q => absurd rfl q, fun _ => ?_⟩) (fun t0 => ⟨fun _ => ?_, fun q => absurd q (by decide)⟩)
  · rw [if_neg (fun w => n0 w.2)] at k
    exact isW_sp H h (by decide) (fun D' c => ⟨isB_0, k D' c⟩)
  rw [if_pos ⟨r0, t0⟩] at k
  have hr := tn_R r0
  have ht := tn_T t0
  have er := tn_nI r0.1
  have et := tn_nI t0.1
  generalize tn a = r at *
  generalize tn t = u at *
  subst er et
  unfold X9_spot_wp
  rw [spot_e]
  dsimp only
  rw [nI_clamp (by omega), nar0, ((h.1 r hr).1 u ht).2.1]
  refine ⟨in160 H H.has_ hr ht, fun q => ⟨in160 H H.has_ hr ht, ?_⟩, fun q => ?_⟩
  · rw [if_pos (bI_n0.mp q)] at k
    exact is0_sp H (h.rc H hK (RcF.w H (by unfold inR; omega)) ((h.1 r hr).mF (b := false) H hr ht)) (fun D' c => ⟨isB_1, k D' c⟩)
  · rw [if_neg (by rw [bI_0.mp q]; decide)] at k
    exact isW_sp H h (by decide) (fun D' c => ⟨isB_0, k D' c⟩)
theorem number9_sp (H : RG G ad ro) (h : RfV ad ro Z D S) {a t : Int32} (k : ∀ D', RfV ad ro Z D' (sNumber S a t).2 → post (sNumber S a t).1 D') : X9_number_wp G D (ad 500) a t post := by
  unfold sNumber at k
  have n0 : ad 510 ≠ ad 500 := H.ne (by omega) (by omega) (by omega)
  refine ⟨H.x_, _, H.has_.1, H.has_.2.1, _, H.val_.1, H.val_.2.1, isRow_if (fun n0 => ⟨fun _ => ?_, fun q => absurd rfl q⟩) (fun r0 => ⟨fun q => absurd q (by decide), fun _ => ?_⟩)⟩
  · rw [if_neg (fun w => n0 w.1)] at k
    exact refuse9_sp H h (fun D' c => k D' c)
  refine isTick9_if (fun n0 => ⟨fun q => absurd rfl q, fun _ => ?_⟩) (fun t0 => ⟨fun _ => ?_, fun q => absurd q (by decide)⟩)
  · rw [if_neg (fun w => n0 w.2)] at k
    exact refuse9_sp H h (fun D' c => k D' c)
  rw [if_pos ⟨r0, t0⟩] at k
  have hr := tn_R r0
  have ht := tn_T t0
  have er := tn_nI r0.1
  have et := tn_nI t0.1
  generalize tn a = r at *
  generalize tn t = u at *
  subst er et
  unfold X9_spot_wp
  rw [spot_e]
  dsimp only
  rw [nI_clamp (by omega), ((h.1 r hr).1 u ht).2.1]
  refine ⟨in160 H H.has_ hr ht, fun q => ⟨in160 H H.val_ hr ht, ?_⟩, fun q => ?_⟩
  · rw [if_pos (bI_n0.mp q)] at k
    rw [dI_n _ _ _ n0, nZ_of ((h.1 r hr).1 u ht).1]
    exact k _ (h.st H 0)
  · rw [if_neg (by rw [bI_0.mp q]; decide)] at k
    exact refuse9_sp H h (fun D' c => k D' c)
theorem isStrange9_sp (H : RG G ad ro) (h : RfV ad ro Z D S) {a t : Int32} (k : ∀ D', RfV ad ro Z D' (sIsStrange S a t).2 → post (sIsStrange S a t).1 D') : X9_isStrange_wp G D (ad 500) a t post := by
  unfold sIsStrange at k
  have n0 : ad 516 ≠ ad 500 := H.ne (by omega) (by omega) (by omega)
  refine ⟨H.x_, _, H.isx_.1, H.isx_.2.1, isRow_if (fun n0 => ⟨fun _ => ?_, fun q => absurd rfl q⟩) (fun r0 => ⟨fun q => absurd q (by decide), fun _ => ?_⟩)⟩
  · rw [if_neg (fun w => n0 w.1)] at k
    exact refuse9_sp H h (fun D' c => k D' c)
  refine isTick9_if (fun n0 => ⟨fun q => absurd rfl q, fun _ => ?_⟩) (fun t0 => ⟨fun _ => ?_, fun q => absurd q (by decide)⟩)
  · rw [if_neg (fun w => n0 w.2)] at k
    exact refuse9_sp H h (fun D' c => k D' c)
  rw [if_pos ⟨r0, t0⟩] at k
  have hr := tn_R r0
  have ht := tn_T t0
  have er := tn_nI r0.1
  have et := tn_nI t0.1
  generalize tn a = r at *
  generalize tn t = u at *
  subst er et
  unfold X9_spot_wp
  rw [spot_e]
  dsimp only
  rw [nI_clamp (by omega), dI_n _ _ _ n0, ((h.1 r hr).1 u ht).2.2]
  refine ⟨in160 H H.isx_ hr ht, fun q => ?_, fun q => ?_⟩
  · rw [bI_0.mp q] at k
    exact k _ (h.st H 0)
  · rw [bI_n0.mp q] at k
    exact k _ (h.st H 0)
theorem strange9_sp (H : RG G ad ro) (hK : OKS S) (h : RfV ad ro Z D S) {a t b : Int32} (hb : isB b) (k : ∀ D', RfV ad ro Z D' (sStrange S a t b).2 → post (sStrange S a t b).1 D') : X9_strange_wp G D (ad 500) a t b post := by
  unfold sStrange at k
  refine ⟨H.x_, _, H.isx_.1, H.isx_.2.1, isRow_if (fun n0 => ⟨fun _ => ?_, fun q => absurd rfl q⟩) (fun r0 => ⟨fun q => absurd q (by decide), fun _ => ?_⟩)⟩
  · rw [if_neg (fun w => n0 w.1)] at k
    exact isW_sp H h (by decide) (fun D' c => ⟨isB_0, k D' c⟩)
  refine isTick9_if (fun n0 => ⟨fun q => absurd rfl q, fun _ => ?_⟩) (fun t0 => ⟨fun _ => ?_, fun q => absurd q (by decide)⟩)
  · rw [if_neg (fun w => n0 w.2)] at k
    exact isW_sp H h (by decide) (fun D' c => ⟨isB_0, k D' c⟩)
  rw [if_pos ⟨r0, t0⟩] at k
  have hr := tn_R r0
  have ht := tn_T t0
  have er := tn_nI r0.1
  have et := tn_nI t0.1
  have ebb := bI_dec hb
  generalize decide (¬ b = 0) = bb at *
  subst ebb
  generalize tn a = r at *
  generalize tn t = u at *
  subst er et
  have inj : ∀ x y : Bool, bI x = bI y ↔ x = y := by intro x y; cases x <;> cases y <;> decide
  unfold X9_spot_wp
  rw [spot_e]
  dsimp only
  rw [nI_clamp (by omega), nar_bI, ((h.1 r hr).1 u ht).2.2, inj]
  refine ⟨in160 H H.isx_ hr ht, fun q => ⟨in160 H H.isx_ hr ht, ?_⟩, fun q => ?_⟩
  · rw [if_neg q] at k
    exact is0_sp H (h.rc H hK (RcF.w H (by unfold inR; omega)) ((h.1 r hr).mX H hr ht)) (fun D' c => ⟨isB_1, k D' c⟩)
  · rw [if_pos q] at k
    exact isW_sp H h (by decide) (fun D' c => ⟨isB_0, k D' c⟩)
end R9
