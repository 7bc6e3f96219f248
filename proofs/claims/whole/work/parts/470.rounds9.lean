/-! the reference: rounds -/
section RO9
variable {G : Shp} {ad ro : Nat → Nat} {D D' : Dat} {S : AS} {Z : Dat} {r t T : Nat} {A : AR} {post : Int32 → Dat → Prop}
/-- solve, with the marks of before kept -/
theorem solve_k (H : RG G ad ro) (hr : r < 4) (h : RrV ad D r A) (hA : RowOK A) (k1 : ∀ D', SoF ad ro D D' → D'.1 (ad 527) = D.1 (ad 527) → TopV ad D' 0 → SlV ad D' A none → post 1 D') (k0 : ∀ D', SoF ad ro D D' → D'.1 (ad 527) = D.1 (ad 527) → ¬ Pv A none (nU A) → post 0 D') : X9_solve_wp G D (ad 500) (nI r) post := by
  refine ⟨H.x_, gather_sp H hr h hA (fun D1 f1 e1 g1 => ?_)⟩
  have e27 : D1.1 (ad 527) = D.1 (ad 527) := f1.1.mi H (by omega) (by omega)
  refine clear9_sp (w := wq A) (C := Cr A none) H (NN_le hA) (wq_W A) (Ar_Z A none) (Ar_bd hA none) e1 (fun i j hi hj => ?_) (fun i hi => ?_) (fun hp D2 f2 t2 p1 p2 => ⟨isB_1, ?_⟩) (fun hp D2 f2 => ⟨isB_0, k0 D2 ((f1.so H).tr f2.so) (by rw [f2.1.mi H (by omega) (by unfold pG; omega), e27]) (fun q => hp ((piv_r hA).mpr q))⟩)
  · rw [g1.1 i j hi hj, Am_r, rg_ar hi hj]
  · rw [g1.2.1 i hi, Am_r, rr_ar hi]
  · refine k1 D2 ((f1.so H).tr f2.so) (by rw [f2.1.mi H (by omega) (by unfold pG; omega), e27]) t2 ⟨(piv_r hA).mp hp, ⟨p1, p2⟩, ?_⟩
    rw [f2.2.1 21 (by decide) (by decide) (by decide)]; exact e1
theorem wX_2 (A : AR) (x y : Nat → Bool) : wX (wX A x) y = wX A y := rfl
theorem wX_id (A : AR) : wX A (aX A) = A := rfl
theorem rcX (H : RG G ad ro) (hr : r < 4) {i : Nat} (hi : i < 40) {v : Int32} : RcF ad ro D (dI D (ad 516) (40 * r + i) v) r := RcF.w H (by unfold inR; omega)
/-- the strangers at the end are counted -/
theorem rounds_end (H : RG G ad ro) (hr : r < 4) (h : RfV ad ro Z D S) {n d : Int32} {k : ∀ D', RfV ad ro Z D' (stS S 0) → post (nI (ct (aX (S.1 r)) 40)) D'} : X9_rounds_j227 G post (ad 500) (nI r) n d (ad 515) (ad 527) (ad 516) D := by
  have h0 := h.st H 0
  have key := up_loop (L := fun m i (E : Dat) => X9_rounds_l238 G post (ad 500) (nI r) n d (ad 515) (ad 527) (ad 516) m (nI (ct (aX (S.1 r)) i)) (nI i) E) 40 (fun i E => RfV ad ro Z E (stS S 0)) ?_ ?_ 0 _ (by omega) h0
  · exact ⟨_, key⟩
  · intro m E hE
    show X9_rounds_l238_b G post (ad 500) (nI r) n d (ad 515) (ad 527) (ad 516) _ _ _ _
    unfold X9_rounds_l238_b
    exact ⟨fun _ => k E hE, fun q => absurd (by decide) q⟩
  · intro m i E hi hE hk
    show X9_rounds_l238_b G post (ad 500) (nI r) n d (ad 515) (ad 527) (ad 516) _ _ _ _
    unfold X9_rounds_l238_b X9_rounds_j266 X9_spot_wp
    rw [spot_e]
    dsimp only
    have e : E.1 (ad 516) (40 * r + i) = bI (aX (S.1 r) i) := ((hE.1 r hr).1 i hi).2.2
    have ec := ct_succ (aX (S.1 r)) i
    rw [nI_clamp (n := 40 * r + i) (by omega), e, nI_1 i]
    refine ⟨fun q => absurd q (by rw [show (40 : Int32) = nI 40 by decide]; exact nI_ge hi (by omega)), fun _ => ⟨in160 H H.isx_ hr hi, fun q => ?_, fun q => ?_⟩⟩
    · rw [bI_0.mp q, if_neg (by decide)] at ec
      have ec : ct (aX (S.1 r)) (i + 1) = ct (aX (S.1 r)) i := ec
      rw [Int32.add_zero, ← ec]
      exact hk E hE
    · rw [bI_n0.mp q, if_pos rfl] at ec
      rw [nI_1, ← ec]
      exact hk E hE
/-- the strangers of before come back -/
theorem rounds_back (H : RG G ad ro) (hr : r < 4) (hKs : OKS S) {x : Nat → Bool} (h : RfV ad ro Z D (stR S r (wX (S.1 r) x))) (hb : ∀ t, t < 40 → D.1 (ad 527) t = bI (aX (S.1 r) t)) {n d : Int32} {k : ∀ D', RfV ad ro Z D' (stS S 6) → post (-1) D'} : ∃ m, X9_rounds_l174 G post (ad 500) (nI r) n d (ad 515) (ad 527) (ad 516) m 0 D := by
  have hK2 : OKS (stR S r (wX (S.1 r) x)) := hKs.row ((hKs r hr).wX x)
  have r0 : RrV ad D r (wX (S.1 r) x) := (h.1 r hr).same (stR_same S r _)
  have key := up_loop (L := fun m i (E : Dat) => X9_rounds_l174 G post (ad 500) (nI r) n d (ad 515) (ad 527) (ad 516) m (nI i) E) 40 (fun i E => RcF ad ro D E r ∧ RrV ad E r (wX (S.1 r) (fun t => if t < i then aX (S.1 r) t else x t)) ∧ E.1 (ad 527) = D.1 (ad 527)) ?_ ?_ 0 D (by omega) ⟨RcF.rf, r0, rfl⟩
  · exact ⟨_, key⟩
  · intro m E hE
    obtain ⟨fE, rE, eE⟩ := hE
    show X9_rounds_l174_b G post (ad 500) (nI r) n d (ad 515) (ad 527) (ad 516) _ _ _
    unfold X9_rounds_l174_b
    refine ⟨fun _ => ?_, fun q => absurd (by decide) q⟩
    have rE2 : RrV ad E r (S.1 r) := (rE.xc (x := aX (S.1 r)) (fun t ht => if_pos ht)).same rfl
    have hE := h.rc H hK2 fE rE2
    rw [stR_2, stR_id rfl] at hE
    exact refuse9_sp H hE (fun D' c => k D' c)
  · intro m i E hi hE hk
    obtain ⟨fE, rE, eE⟩ := hE
    show X9_rounds_l174_b G post (ad 500) (nI r) n d (ad 515) (ad 527) (ad 516) _ _ _
    unfold X9_rounds_l174_b X9_spot_wp
    rw [spot_e]
    dsimp only
    rw [nI_clamp (n := 40 * r + i) (by omega), nI_clamp (n := i) (by omega), eE, hb i hi, nar_bI, nI_1 i]
    refine ⟨fun q => absurd q (by rw [show (40 : Int32) = nI 40 by decide]; exact nI_ge hi (by omega)), fun _ => ⟨b27_in H hi, in160 H H.isx_ hr hi, ?_⟩⟩
    refine hk _ ⟨fE.tr (rcX H hr hi), (rE.mX H hr hi).xc (x := fun t => if t < i + 1 then aX (S.1 r) t else x t) (fun t ht => ?_), ?_⟩
    · show ups (fun t => if t < i then aX (S.1 r) t else x t) i (aX (S.1 r) i) t = _
      by_cases e : t = i
      · subst e
        rw [show ups (fun u => if u < t then aX (S.1 r) u else x u) t (aX (S.1 r) t) t = aX (S.1 r) t from if_pos rfl, if_pos (by omega)]
      · rw [ups_n e]
        by_cases l : t < i
        · rw [if_pos l, if_pos (by omega)]
        · rw [if_neg l, if_neg (by omega)]
    · rw [dI_n _ _ _ (H.ne (by omega) (by omega) (by omega))]
      exact eE
/-- the rounds -/
theorem rounds_go (H : RG G ad ro) (hr : r < 4) (hKs : OKS S) {n d : Int32} (hn : okSh n) (hd : okSh d) (k1 : ∀ A' D', rnS n.toInt d.toInt 5 (wX (S.1 r) (fun _ => false)) = some A' → RfV ad ro Z D' (stS (stR S r A') 0) → post (nI (ct (aX A') 40)) D') (k0 : ∀ D', rnS n.toInt d.toInt 5 (wX (S.1 r) (fun _ => false)) = none → RfV ad ro Z D' (stS S 6) → post (-1) D') : ∀ (j : Nat), j ≤ 5 → ∀ (x : Nat → Bool) (b : Bool) (E : Dat), RfV ad ro Z E (stR S r (wX (S.1 r) x)) → (∀ t, t < 40 → E.1 (ad 527) t = bI (aX (S.1 r) t)) → rnS n.toInt d.toInt 5 (wX (S.1 r) (fun _ => false)) = (if b = true then rnS n.toInt d.toInt j (wX (S.1 r) x) else some (wX (S.1 r) x)) → X9_rounds_l152 G post (ad 500) (nI r) n d (ad 515) (ad 527) (ad 516) (j + 1) (bI b) (nI (5 - j)) E := by
  intro j
  induction j with
  | zero =>
    intro hj x b E hE hb he
    show X9_rounds_l152_b G post (ad 500) (nI r) n d (ad 515) (ad 527) (ad 516) _ _ _ _
    unfold X9_rounds_l152_b
    refine ⟨fun _ => ?_, fun q => absurd (by decide) q⟩
    have he2 : rnS n.toInt d.toInt 5 (wX (S.1 r) (fun _ => false)) = some (wX (S.1 r) x) := by
      rw [he]
      cases b
      · rw [if_neg (by decide)]
      · rw [if_pos rfl]; rfl
    refine rounds_end H hr hE (k := fun D' c => ?_)
    rw [stR_same]
    exact k1 _ D' he2 c
  | succ j ih =>
    intro hj x b E hE hb he
    show X9_rounds_l152_b G post (ad 500) (nI r) n d (ad 515) (ad 527) (ad 516) _ _ _ _
    unfold X9_rounds_l152_b
    have e5 : ¬ (5 : Int32) ≤ nI (5 - (j + 1)) := by
      rw [show (5 : Int32) = nI 5 by decide, nI_leI (by omega) (by omega)]; omega
    refine ⟨fun q => absurd q e5, fun _ => ⟨fun q => ?_, fun q => ?_⟩⟩
    · rw [bI_0.mp q, if_neg (by decide)] at he
      refine rounds_end H hr hE (k := fun D' c => ?_)
      rw [stR_same]
      exact k1 _ D' he c
    rw [bI_n0.mp q, if_pos rfl] at he
    have hok := (hKs r hr).wX x
    have hK2 : OKS (stR S r (wX (S.1 r) x)) := hKs.row hok
    have en : (stR S r (wX (S.1 r) x)).1 r = wX (S.1 r) x := stR_same S r _
    have eS : rnS n.toInt d.toInt (j + 1) (wX (S.1 r) x) = if clB (wX (S.1 r) x) none = true then (if ct (aX (wX (S.1 r) x)) 40 < ct (nwX (wX (S.1 r) x) n.toInt d.toInt) 40 then rnS n.toInt d.toInt j (wX (wX (S.1 r) x) (nwX (wX (S.1 r) x) n.toInt d.toInt)) else some (wX (wX (S.1 r) x) (nwX (wX (S.1 r) x) n.toInt d.toInt))) else none := rfl
    rw [eS] at he
    refine solve_k H hr ((hE.1 r hr).same en) hok (fun E2 f2 e27 t2 s2 => ⟨fun _ => ?_, fun q => absurd q (by decide)⟩) (fun E2 f2 e27 np => ⟨fun q => absurd rfl q, fun _ => ?_⟩)
    · rw [if_pos (clB_t.mpr s2.1)] at he
      refine round9_sp H hr hK2 (hE.wk H f2.1) (by rw [en]; exact s2) t2 hn hd (fun E3 h3 e3 => ?_)
      rw [en, stR_2, wX_2] at h3
      rw [en, nI_1, show 5 - (j + 1) + 1 = 5 - j by omega]
      refine ih (by omega) _ _ E3 h3 (fun t ht => by rw [e3, e27]; exact hb t ht) ?_
      rw [he, wX_2]
      by_cases q : ct (aX (wX (S.1 r) x)) 40 < ct (nwX (wX (S.1 r) x) n.toInt d.toInt) 40
      · rw [if_pos q, if_pos (decide_eq_true q)]
      · rw [if_neg q, if_neg (by rw [decide_eq_false q]; decide)]
    · rw [if_neg (by rw [clB_f.mpr np]; decide)] at he
      exact rounds_back H hr hKs (hE.wk H f2.1) (fun t ht => by rw [e27]; exact hb t ht) (k := fun D' c => k0 D' he c)
theorem rounds9_sp (H : RG G ad ro) (hK : OKS S) (h : RfV ad ro Z D S) {a n d : Int32} (k : ∀ D', RfV ad ro Z D' (sRounds S a n d).2 → post (sRounds S a n d).1 D') : X9_rounds_wp G D (ad 500) a n d post := by
  unfold sRounds at k
  refine ⟨H.x_, _, H.has_.1, H.has_.2.1, _, H.bef_.1, H.bef_.2.1, _, H.isx_.1, H.isx_.2.1, isRow_if (fun n0 => ⟨fun q => absurd rfl q, fun _ => ?_⟩) (fun r0 => ⟨fun _ => ?_, fun q => absurd q (by decide)⟩)⟩
  · rw [if_neg n0] at k
    exact refuse9_sp H h (fun D' c => k D' c)
  rw [if_pos r0] at k
  have hr := tn_R r0
  have er := tn_nI r0.1
  generalize tn a = r at *
  subst er
  have e1 : (1 : Int32).toInt = 1 := rfl
  have e1000 : (1000 : Int32).toInt = 1000 := rfl
  have bad : ¬ (okSh n ∧ okSh d) → X9_rounds_j37 G post (ad 500) (nI r) n d (ad 515) (ad 527) (ad 516) D := fun q => by
    rw [if_neg q] at k
    exact refuse9_sp H h (fun D' c => k D' c)
  refine ⟨fun q => bad (fun w => ?_), fun q1 => ⟨fun q => bad (fun w => ?_), fun q2 => ⟨fun q => bad (fun w => ?_), fun q3 => ⟨fun q4 => ?_, fun q => bad (fun w => ?_)⟩⟩⟩⟩
  · have := (I_lt _ _).mp q; have := w.1.1; omega
  · have := (I_lt _ _).mp q; have := w.1.2; omega
  · have := (I_lt _ _).mp q; have := w.2.1; omega
  rotate_left
  · exact q ((I_le _ _).mpr (by have := w.2.2; omega))
  have hn : okSh n := by
    have h1 : ¬ n.toInt < (1 : Int32).toInt := fun z => q1 ((I_lt _ _).mpr z)
    have h2 : ¬ (1000 : Int32).toInt < n.toInt := fun z => q2 ((I_lt _ _).mpr z)
    unfold okSh; omega
  have hd : okSh d := by
    have h1 : ¬ d.toInt < (1 : Int32).toInt := fun z => q3 ((I_lt _ _).mpr z)
    have h2 := (I_le _ _).mp q4
    unfold okSh; omega
  rw [if_pos ⟨hn, hd⟩] at k
  have key := up_loop (L := fun m i (E : Dat) => X9_rounds_l49 G post (ad 500) (nI r) n d (ad 515) (ad 527) (ad 516) m (bI (anB (aF (S.1 r)) i)) (nI i) E) 40 (fun i E => E = D) ?_ ?_ 0 D (by omega) rfl
  · exact ⟨_, key⟩
  · intro m E hE
    subst hE
    show X9_rounds_l49_b G post (ad 500) (nI r) n d (ad 515) (ad 527) (ad 516) _ _ _ _
    unfold X9_rounds_l49_b
    refine ⟨fun _ => ⟨fun q => ?_, fun q => ?_⟩, fun q => absurd (by decide) q⟩
    rotate_left
    · have := bI_0.mp q
      rw [anB_ct] at this
      have := of_decide_eq_false this
      rw [if_pos (by omega)] at k
      exact refuse9_sp H h (fun D' c => k D' c)
    have := bI_n0.mp q
    rw [anB_ct] at this
    have := of_decide_eq_true this
    rw [if_neg (by omega)] at k
    /- the strangers are put by -/
    have key := up_loop (L := fun m i (F : Dat) => X9_rounds_l103 G post (ad 500) (nI r) n d (ad 515) (ad 527) (ad 516) m (nI i) F) 40 (fun i F => RfV ad ro Z F (stR S r (wX (S.1 r) (fun t => if t < i then false else aX (S.1 r) t))) ∧ ∀ t, t < i → F.1 (ad 527) t = bI (aX (S.1 r) t)) ?_ ?_ 0 E (by omega) ⟨by
      have e : wX (S.1 r) (fun t => if t < 0 then false else aX (S.1 r) t) = S.1 r := by
        have : (fun t => if t < 0 then false else aX (S.1 r) t) = aX (S.1 r) := funext (fun t => if_neg (Nat.not_lt_zero t))
        rw [this, wX_id]
      rw [e, stR_id rfl]
      exact h, fun t ht => absurd ht (Nat.not_lt_zero t)⟩
    · exact ⟨_, key⟩
    · intro m F hF
      obtain ⟨hF, bF⟩ := hF
      show X9_rounds_l103_b G post (ad 500) (nI r) n d (ad 515) (ad 527) (ad 516) _ _ _
      unfold X9_rounds_l103_b
      refine ⟨fun _ => ⟨6, ?_⟩, fun q => absurd (by decide) q⟩
      have hok := (hK r hr).wX (fun t => if t < 40 then false else aX (S.1 r) t)
      have hK2 : OKS (stR S r (wX (S.1 r) (fun t => if t < 40 then false else aX (S.1 r) t))) := hK.row hok
      have hF2 : RfV ad ro Z F (stR S r (wX (S.1 r) (fun _ => false))) := by
        have r2 : RrV ad F r (wX (S.1 r) (fun _ => false)) := ((hF.1 r hr).same (stR_same S r _)).xc (x := fun _ => false) (fun t ht => if_pos ht)
        have := hF.rc H hK2 RcF.rf r2
        rw [stR_2] at this
        exact this
      have hgo := rounds_go (post := post) (Z := Z) H hr hK hn hd (fun A' D' e c => ?_) (fun D' e c => ?_) 5 (by omega) (fun _ => false) true F hF2 bF (if_pos rfl).symm
      · exact hgo
      · rw [e] at k; exact k D' c
      · rw [e] at k; exact k D' c
    · intro m i F hi hF hk
      obtain ⟨hF, bF⟩ := hF
      show X9_rounds_l103_b G post (ad 500) (nI r) n d (ad 515) (ad 527) (ad 516) _ _ _
      unfold X9_rounds_l103_b X9_spot_wp
      rw [spot_e]
      dsimp only
      have rF : RrV ad F r (wX (S.1 r) (fun t => if t < i then false else aX (S.1 r) t)) := (hF.1 r hr).same (stR_same S r _)
      have hok := (hK r hr).wX (fun t => if t < i then false else aX (S.1 r) t)
      have hK2 : OKS (stR S r (wX (S.1 r) (fun t => if t < i then false else aX (S.1 r) t))) := hK.row hok
      have ex : F.1 (ad 516) (40 * r + i) = bI (aX (S.1 r) i) := by
        rw [(rF.1 i hi).2.2]
        show bI (if i < i then false else aX (S.1 r) i) = _
        rw [if_neg (Nat.lt_irrefl i)]
      rw [nI_clamp (n := 40 * r + i) (by omega), nI_clamp (n := i) (by omega), ex, nar_bI, nI_1 i]
      refine ⟨fun q => absurd q (by rw [show (40 : Int32) = nI 40 by decide]; exact nI_ge hi (by omega)), fun _ => ⟨in160 H H.isx_ hr hi, b27_in H hi, in160 H H.isx_ hr hi, ?_⟩⟩
      have e0 : vp_nar .boolean 0 = bI false := rfl
      rw [e0]
      have h7 := hF.wk H (wk27 H (i := i) (v := bI (aX (S.1 r) i)))
      have r7 : RrV ad (dI F (ad 527) i (bI (aX (S.1 r) i))) r (wX (S.1 r) (fun t => if t < i then false else aX (S.1 r) t)) := (h7.1 r hr).same (stR_same S r _)
      refine hk _ ⟨?_, fun t ht => ?_⟩
      · have r8 := (r7.mX H hr hi (b := false)).xc (x := fun t => if t < i + 1 then false else aX (S.1 r) t) (fun t ht => ?_)
        · have h8 := h7.rc H hK2 (rcX H hr hi) r8
          rw [stR_2, wX_2, wX_2] at h8
          exact h8
        · show ups (fun t => if t < i then false else aX (S.1 r) t) i false t = _
          by_cases e : t = i
          · subst e
            rw [show ups (fun u => if u < t then false else aX (S.1 r) u) t false t = false from if_pos rfl, if_pos (by omega)]
          · rw [ups_n e]
            by_cases l : t < i
            · rw [if_pos l, if_pos (by omega)]
            · rw [if_neg l, if_neg (by omega)]
      · rw [dI_n _ _ _ (H.ne (by omega) (by omega) (by omega))]
        by_cases e : t = i
        · subst e
          exact dI_s _ _ _ _
        · rw [dI_o _ _ _ e]
          exact bF t (by omega)
  · intro m i E hi hE hk
    subst hE
    show X9_rounds_l49_b G post (ad 500) (nI r) n d (ad 515) (ad 527) (ad 516) _ _ _ _
    unfold X9_rounds_l49_b X9_rounds_j75 X9_rounds_j80 X9_spot_wp
    rw [spot_e]
    dsimp only
    have eA : anB (aF (S.1 r)) (i + 1) = (anB (aF (S.1 r)) i || aF (S.1 r) i) := rfl
    rw [nI_clamp (n := 40 * r + i) (by omega), ((h.1 r hr).1 i hi).2.1, nI_1 i]
    have go := hk E rfl
    rw [eA] at go
    refine ⟨fun q => absurd q (by rw [show (40 : Int32) = nI 40 by decide]; exact nI_ge hi (by omega)), fun _ => ⟨fun q => ?_, fun q => ⟨in160 H H.has_ hr hi, fun q2 => ?_, fun q2 => ?_⟩⟩⟩
    · rw [bI_n0.mp q, Bool.true_or] at go
      exact go
    · rw [bI_0.mp q, bI_0.mp q2] at go
      exact go
    · rw [bI_0.mp q, bI_n0.mp q2] at go
      exact go
end RO9
