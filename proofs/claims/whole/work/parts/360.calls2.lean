section C2
variable {G : Shp} {ad ro : Nat → Nat} {D : Dat} {S : AS} {Z : Dat} {post : Int32 → Dat → Prop}
theorem SetV.fr (H : CS G ad ro) {D' : Dat} {P : Nat → Prop} {q : Nat} (hq : q + 1 < 440) {s : Nat → Bool} (h : SetV D (ad q) (ad (q + 1)) s) (f : FrP ro D D' P) (h1 : ¬ P q) (h2 : ¬ P (q + 1)) : SetV D' (ad q) (ad (q + 1)) s := h.kept (f.i H (by omega) h1) (f.i H hq h2)
theorem tn_c {v : Int32} (h : 0 ≤ v.toInt) : (tn v : Int) = v.toInt := by unfold tn; omega
theorem pR_S {r s q : Nat} (hs : s < 5) (h : q = rS r s ∨ q = rS r s + 1) : pR r q := by unfold pR rb; unfold rS at h; omega
theorem rS_lt {r s : Nat} (hr : r < 4) (hs : s < 5) : rS r s + 1 < 440 := by unfold rS; omega
theorem gap_sp (H : CS G ad ro) (h : ClV ad ro Z D S) {a t : Int32} (k : ∀ D', ClV ad ro Z D' (sGap S a t).2 → post (sGap S a t).1 D') : X8_gap_wp G D (ad 0) a t post := by
  unfold sGap at k
  refine ⟨H.x_, rowOf_sp H (fun n0 => ?_) (fun r0 => ⟨fun q => (nomatch q), fun y q => ?_⟩)⟩
  · rw [if_neg (fun w => n0 w.1)] at k
    exact ⟨fun _ => refuse_sp H h (fun D' c => ⟨isB_0, k D' c⟩), fun y q => (nomatch q)⟩
  cases q
  refine isTick_if (fun n0 => ⟨fun q => absurd rfl q, fun _ => ?_⟩) (fun t0 => ⟨fun _ => ?_, fun q => absurd q (by decide)⟩)
  · rw [if_neg (fun w => n0 w.2)] at k
    exact refuse_sp H h (fun D' c => ⟨isB_0, k D' c⟩)
  rw [if_pos ⟨r0, t0⟩] at k
  have hr := tn_R r0
  have ht := tn_T t0
  have et := tn_nI t0.1
  generalize tn t = x at *
  subst et
  have s0 := H.set_ _ hr 0 (by omega)
  refine ⟨H.row_ _ hr, _, H.row1_ _ hr, s0.1, drop_sp s0 (h.1 _ hr).1.2.1 ht (fun D1 f1 s1 => ?_)⟩
  have f1' := fr_S H (rS_lt hr (by omega)) f1
  have c1 := h.row H hr (f1'.up (fun q => pR_S (by omega))) ((h.1 _ hr).1.kF H hr f1' s1) (h.1 _ hr).2
  cases hs : aF (S.1 (tn a)) x
  · rw [hs, if_neg (by decide)] at k
    refine ⟨fun _ => ?_, fun q => absurd rfl q⟩
    rw [stR_id (by unfold wF; rw [ups_same hs]; rfl)] at c1
    exact refuse_sp H c1 (fun D' c => ⟨isB_0, k D' c⟩)
  · rw [hs, if_pos rfl] at k
    exact ⟨fun q => absurd q (by decide), fun _ => done_sp H c1 (fun D' c => ⟨isB_1, k D' c⟩)⟩
theorem number_sp (H : CS G ad ro) (h : ClV ad ro Z D S) {a t : Int32} (k : ∀ D', ClV ad ro Z D' (sNumber S a t).2 → post (sNumber S a t).1 D') : X8_number_wp G D (ad 0) a t post := by
  unfold sNumber at k
  refine ⟨H.x_, rowOf_sp H (fun n0 => ?_) (fun r0 => ⟨fun q => (nomatch q), fun y q => ?_⟩)⟩
  · rw [if_neg (fun w => n0 w.1)] at k
    exact ⟨fun _ => giveNone_sp H h (fun D' c => k D' c), fun y q => (nomatch q)⟩
  cases q
  refine isTick_if (fun n0 => ⟨fun q => absurd rfl q, fun _ => ?_⟩) (fun t0 => ⟨fun _ => ?_, fun q => absurd q (by decide)⟩)
  · rw [if_neg (fun w => n0 w.2)] at k
    exact giveNone_sp H h (fun D' c => k D' c)
  rw [if_pos ⟨r0, t0⟩] at k
  have hr := tn_R r0
  have ht := tn_T t0
  have et := tn_nI t0.1
  generalize tn t = x at *
  subst et
  have s0 := H.set_ _ hr 0 (by omega)
  refine ⟨H.row_ _ hr, _, H.row1_ _ hr, s0.1, has_sp s0 (h.1 _ hr).1.2.1 (by omega) ?_⟩
  rw [decide_eq_true ht, Bool.true_and]
  cases hs : aF (S.1 (tn a)) x
  · rw [hs, if_neg (by decide)] at k
    exact ⟨fun _ => giveNone_sp H h (fun D' c => k D' c), fun q => absurd rfl q⟩
  · rw [hs, if_pos rfl] at k
    refine ⟨fun q => absurd q (by decide), fun _ => ⟨_, H.row0_ _ hr, H.num_ _ hr, by rw [H.numl_ _ hr]; exact vp_in_nI ht (by omega), ?_⟩⟩
    rw [nI_clamp (by omega), nZ_of ((h.1 _ hr).1.1 x ht)]
    exact give_sp H h (fun D' c => k D' c)
theorem told_sp (H : CS G ad ro) (h : ClV ad ro Z D S) {a w : Int32} (k : ∀ D', ClV ad ro Z D' (sTold S a w).2 → post (sTold S a w).1 D') : X8_told_wp G D (ad 0) a w post := by
  unfold sTold at k
  refine ⟨H.x_, rowOf_sp H (fun n0 => ?_) (fun r0 => ⟨fun q => (nomatch q), fun y q => ?_⟩)⟩
  · rw [if_neg n0] at k
    exact ⟨fun _ => giveNone_sp H h (fun D' c => k D' c), fun y q => (nomatch q)⟩
  cases q
  have hr := tn_R r0
  have hR := (h.1 _ hr).1
  rw [if_pos r0] at k
  unfold tlv at k
  refine ⟨fun q => ?_, fun q => ?_, fun q => ?_, fun q => ?_, fun q => ?_, fun q => ?_, fun q => ?_, fun q => ?_⟩
  · rw [if_neg (by omega)] at k
    exact giveNone_sp H h (fun D' c => k D' c)
  · rw [if_pos (by omega), if_pos q] at k
    refine ⟨H.row_ _ hr, _, H.row1_ _ hr, (H.set_ _ hr 0 (by omega)).1, ?_⟩
    rw [hR.2.1.2]
    exact give_sp H h (fun D' c => k D' c)
  · rw [if_pos (by omega), if_neg (by omega), if_pos q] at k
    exact ⟨H.row_ _ hr, counted_sp H hr hR (give_sp H h (fun D' c => k D' c))⟩
  · rw [if_pos (by omega), if_neg (by omega), if_neg (by omega), if_pos q] at k
    refine ⟨H.row_ _ hr, _, H.row2_ _ hr, (H.set_ _ hr 1 (by omega)).1, ?_⟩
    rw [hR.2.2.1.2]
    exact give_sp H h (fun D' c => k D' c)
  · rw [if_pos (by omega), if_neg (by omega), if_neg (by omega), if_neg (by omega), if_pos q] at k
    refine ⟨H.row_ _ hr, _, H.row3_ _ hr, (H.set_ _ hr 2 (by omega)).1, ?_⟩
    rw [hR.2.2.2.1.2]
    exact give_sp H h (fun D' c => k D' c)
  · rw [if_pos (by omega), if_neg (by omega), if_neg (by omega), if_neg (by omega), if_neg (by omega), if_pos q] at k
    refine ⟨H.row_ _ hr, ?_⟩
    rw [hR.2.2.2.2.2.1]
    exact give_sp H h (fun D' c => k D' c)
  · rw [if_pos (by omega), if_neg (by omega), if_neg (by omega), if_neg (by omega), if_neg (by omega), if_neg (by omega), if_pos q] at k
    refine ⟨H.row_ _ hr, ?_⟩
    rw [hR.2.2.2.2.2.2.2]
    exact give_sp H h (fun D' c => k D' c)
  · rw [if_pos (by omega), if_neg (by omega), if_neg (by omega), if_neg (by omega), if_neg (by omega), if_neg (by omega), if_neg (by omega)] at k
    refine ⟨H.row_ _ hr, ?_⟩
    rw [hR.2.2.2.2.2.2.1]
    unfold X8_told_j136
    cases hl : aL (S.1 (tn a))
    · rw [hl] at k
      exact ⟨fun _ => ⟨H.x_, give_sp H h (fun D' c => k D' c)⟩, fun q => absurd rfl q⟩
    · rw [hl] at k
      exact ⟨fun q => absurd q (by decide), fun _ => ⟨H.x_, give_sp H h (fun D' c => k D' c)⟩⟩
theorem bI_dec {l : Int32} (h : isB l) : bI (decide (¬ l = 0)) = l := by
  rcases h with h | h <;> subst h <;> rfl
theorem model_sp (H : CS G ad ro) (h : ClV ad ro Z D S) {a l p : Int32} (hl : isB l) (k : ∀ D', ClV ad ro Z D' (sModel S a l p).2 → post (sModel S a l p).1 D') : X8_model_wp G D (ad 0) a l p post := by
  unfold sModel at k
  refine ⟨H.x_, rowOf_sp H (fun n0 => ?_) (fun r0 => ⟨fun q => (nomatch q), fun y q => ?_⟩)⟩
  · rw [if_neg n0] at k
    exact ⟨fun _ => refuse_sp H h (fun D' c => ⟨isB_0, k D' c⟩), fun y q => (nomatch q)⟩
  cases q
  have hr := tn_R r0
  have hR := (h.1 _ hr).1
  rw [if_pos r0] at k
  have e0 : (0 : Int32).toInt = 0 := rfl
  have e2 : (2 : Int32).toInt = 2 := rfl
  have e7 : (7 : Int32).toInt = 7 := rfl
  have good : (p.toInt = 0 ∨ (2 ≤ p.toInt ∧ p.toInt ≤ 7)) → X8_model_j39 G post (ad 0) a l p (ad (rb (tn a))) D := by
    intro hp
    rw [if_pos hp] at k
    have ep := tn_nI (v := p) (by omega)
    have hp2 : tn p = 0 ∨ (2 ≤ tn p ∧ tn p ≤ 7) := by unfold tn; omega
    refine ⟨H.row_ _ hr, hl, ?_⟩
    have hq : rb (tn a) < 440 := by unfold rb; omega
    have f1 : FrP ro D (dI (dI D (ad (rb (tn a))) 6 l) (ad (rb (tn a))) 7 p) (fun q => q = rb (tn a)) := (FrP.dI (ro := ro) (P := fun q => q = rb (tn a)) (H.inj_ _ hq)).tr (FrP.dI (ro := ro) (P := fun q => q = rb (tn a)) (H.inj_ _ hq))
    have r1 := hR.kD H hr f1 (c := aC (S.1 (tn a))) (l := decide (¬ l = 0)) (p := tn p) (by rw [dI_o _ _ _ (by decide), dI_o _ _ _ (by decide)]; exact hR.2.2.2.2.2.1) (by rw [dI_o _ _ _ (by decide), dI_s, bI_dec hl]) (by rw [dI_s]; exact ep)
    have o1 : RowOK (wM (S.1 (tn a)) (decide (¬ l = 0)) (tn p)) := by
      have o := (h.1 _ hr).2
      exact ⟨o.1, o.2.1, o.2.2.1, o.2.2.2.1, o.2.2.2.2.1, o.2.2.2.2.2.1, hp2⟩
    exact done_sp H (h.row H hr (f1.up (fun q e => by unfold pR; omega)) r1 o1) (fun D' c => ⟨isB_1, k D' c⟩)
  have bad : ¬ (p.toInt = 0 ∨ (2 ≤ p.toInt ∧ p.toInt ≤ 7)) → X8_model_j33 G post (ad 0) a l p D := by
    intro hp
    rw [if_neg hp] at k
    exact refuse_sp H h (fun D' c => ⟨isB_0, k D' c⟩)
  refine ⟨fun q => good (Or.inl (by rw [q]; rfl)), fun q => ⟨fun q2 => bad ?_, fun q2 => ⟨fun q3 => good ?_, fun q3 => bad ?_⟩⟩⟩
  · have := (I_lt _ _).mp q2
    have : ¬ p.toInt = (0 : Int32).toInt := fun z => q ((I_eq _ _).mpr z)
    omega
  · have h2 : ¬ p.toInt < (2 : Int32).toInt := fun z => q2 ((I_lt _ _).mpr z)
    have := (I_le _ _).mp q3
    omega
  · have : ¬ p.toInt ≤ (7 : Int32).toInt := fun z => q3 ((I_le _ _).mpr z)
    omega
theorem RowOK.wS {A : AR} (h : RowOK A) {x : Nat → Bool} (h0 : x 0 = false) (h3 : ct x 40 ≤ 3) : RowOK (wS A x) := ⟨h.1, h0, h3, h.2.2.2.1, h.2.2.2.2.1, h.2.2.2.2.2.1, h.2.2.2.2.2.2⟩
theorem step_sp (H : CS G ad ro) (h : ClV ad ro Z D S) {a t : Int32} (k : ∀ D', ClV ad ro Z D' (sStep S a t).2 → post (sStep S a t).1 D') : X8_step_wp G D (ad 0) a t post := by
  unfold sStep at k
  refine ⟨H.x_, rowOf_sp H (fun n0 => ?_) (fun r0 => ⟨fun q => (nomatch q), fun y q => ?_⟩)⟩
  · rw [if_neg (fun w => n0 w.1)] at k
    exact ⟨fun _ => refuse_sp H h (fun D' c => ⟨isB_0, k D' c⟩), fun y q => (nomatch q)⟩
  cases q
  refine isTick_if (fun n0 => ⟨fun q => absurd rfl q, fun _ => ?_⟩) (fun t0 => ⟨fun _ => ?_, fun q => absurd q (by decide)⟩)
  · rw [if_neg (fun w => n0 w.2)] at k
    exact refuse_sp H h (fun D' c => ⟨isB_0, k D' c⟩)
  rw [if_pos ⟨r0, t0⟩] at k
  have hr := tn_R r0
  have ht := tn_T t0
  have et := tn_nI t0.1
  have h0 : t.toInt = (tn t : Int) := by unfold tn; have := t0.1; omega
  rw [h0] at k
  generalize tn t = x at *
  subst et
  have s0 := H.set_ _ hr 2 (by omega)
  have hR := (h.1 _ hr)
  refine ⟨fun q => ?_, fun q => ?_⟩
  · have hx : x ≠ 0 := fun w => q (by rw [w]; exact nI_0)
    rw [if_neg (by omega)] at k
    refine ⟨H.row_ _ hr, _, H.row3_ _ hr, s0.1, ?_⟩
    rw [hR.1.2.2.2.1.2]
    have hc := ct_le (aS (S.1 (tn a))) 40
    refine ⟨fun q => ?_, fun q => ?_⟩
    · have h3 : ct (aS (S.1 (tn a))) 40 < 3 := by
        by_cases w : ct (aS (S.1 (tn a))) 40 < 3
        · exact w
        · exact absurd q (by rw [show (3 : Int32) = nI 3 by decide]; exact nI_nlt (by omega) (by omega))
      rw [if_neg (by omega)] at k
      refine add_sp s0 hR.1.2.2.2.1 ht (fun D1 f1 s1 => ?_)
      have f1' := fr_S H (rS_lt hr (by omega)) f1
      have o1 : RowOK (wS (S.1 (tn a)) (ups (aS (S.1 (tn a))) x true)) := by
        refine hR.2.wS ?_ ?_
        · rw [ups_n (by omega)]; exact hR.2.2.1
        · have := ct_ups (s := aS (S.1 (tn a))) (b := true) ht
          rw [if_pos rfl] at this
          split at this <;> omega
      have c1 := h.row H hr (f1'.up (fun q => pR_S (by omega))) (hR.1.kS H hr f1' s1) o1
      cases hs : aS (S.1 (tn a)) x
      · rw [hs, if_neg (by decide)] at k
        exact ⟨fun q => absurd q (by decide), fun _ => done_sp H c1 (fun D' c => ⟨isB_1, k D' c⟩)⟩
      · rw [hs, if_pos rfl] at k
        refine ⟨fun _ => ?_, fun q => absurd rfl q⟩
        rw [stR_id (by unfold wS; rw [ups_same hs]; rfl)] at c1
        exact refuse_sp H c1 (fun D' c => ⟨isB_0, k D' c⟩)
    · have h3 : ¬ ct (aS (S.1 (tn a))) 40 < 3 := fun w => q (by rw [show (3 : Int32) = nI 3 by decide]; exact nI_lt w (by omega))
      rw [if_pos (by omega)] at k
      exact refuse_sp H h (fun D' c => ⟨isB_0, k D' c⟩)
  · have hx : x = 0 := by
      rw [nI_0', nI_eq (by omega) (by omega)] at q
      exact q
    rw [if_pos (by omega)] at k
    exact refuse_sp H h (fun D' c => ⟨isB_0, k D' c⟩)
theorem unstep_sp (H : CS G ad ro) (h : ClV ad ro Z D S) {a t : Int32} (k : ∀ D', ClV ad ro Z D' (sUnstep S a t).2 → post (sUnstep S a t).1 D') : X8_unstep_wp G D (ad 0) a t post := by
  unfold sUnstep at k
  refine ⟨H.x_, rowOf_sp H (fun n0 => ?_) (fun r0 => ⟨fun q => (nomatch q), fun y q => ?_⟩)⟩
  · rw [if_neg (fun w => n0 w.1)] at k
    exact ⟨fun _ => refuse_sp H h (fun D' c => ⟨isB_0, k D' c⟩), fun y q => (nomatch q)⟩
  cases q
  refine isTick_if (fun n0 => ⟨fun q => absurd rfl q, fun _ => ?_⟩) (fun t0 => ⟨fun _ => ?_, fun q => absurd q (by decide)⟩)
  · rw [if_neg (fun w => n0 w.2)] at k
    exact refuse_sp H h (fun D' c => ⟨isB_0, k D' c⟩)
  rw [if_pos ⟨r0, t0⟩] at k
  have hr := tn_R r0
  have ht := tn_T t0
  have et := tn_nI t0.1
  generalize tn t = x at *
  subst et
  have s0 := H.set_ _ hr 2 (by omega)
  have hR := h.1 _ hr
  refine ⟨H.row_ _ hr, _, H.row3_ _ hr, s0.1, drop_sp s0 hR.1.2.2.2.1 ht (fun D1 f1 s1 => ?_)⟩
  have f1' := fr_S H (rS_lt hr (by omega)) f1
  have o1 : RowOK (wS (S.1 (tn a)) (ups (aS (S.1 (tn a))) x false)) := by
    refine hR.2.wS ?_ ?_
    · unfold ups; split
      · rfl
      · exact hR.2.2.1
    · have := ct_ups (s := aS (S.1 (tn a))) (b := false) ht
      rw [show (if false = true then 1 else 0) = 0 from rfl] at this
      have := hR.2.2.2.1
      omega
  have c1 := h.row H hr (f1'.up (fun q => pR_S (by omega))) (hR.1.kS H hr f1' s1) o1
  cases hs : aS (S.1 (tn a)) x
  · rw [hs, if_neg (by decide)] at k
    refine ⟨fun _ => ?_, fun q => absurd rfl q⟩
    rw [stR_id (by unfold wS; rw [ups_same hs]; rfl)] at c1
    exact refuse_sp H c1 (fun D' c => ⟨isB_0, k D' c⟩)
  · rw [hs, if_pos rfl] at k
    exact ⟨fun q => absurd q (by decide), fun _ => done_sp H c1 (fun D' c => ⟨isB_1, k D' c⟩)⟩
theorem feast_sp (H : CS G ad ro) (h : ClV ad ro Z D S) {a : Int32} (k : ∀ D', ClV ad ro Z D' (sFeast S a).2 → post (sFeast S a).1 D') : X8_feast_wp G D (ad 0) a post := by
  unfold sFeast at k
  refine ⟨H.x_, rowOf_sp H (fun n0 => ?_) (fun r0 => ⟨fun q => (nomatch q), fun y q => ?_⟩)⟩
  · rw [if_neg n0] at k
    exact ⟨fun _ => giveNone_sp H h (fun D' c => k D' c), fun y q => (nomatch q)⟩
  cases q
  have hr := tn_R r0
  have hR := (h.1 _ hr)
  have hc := hR.2.2.2.2.2.2.1
  rw [if_pos r0] at k
  refine ⟨H.row_ _ hr, ?_⟩
  rw [dI_s, hR.1.2.2.2.2.2.1]
  refine ⟨fun q => ?_, fun q => ?_⟩
  · have h2 : aC (S.1 (tn a)) < 2 := by
      by_cases w : aC (S.1 (tn a)) < 2
      · exact w
      · exact absurd q (by rw [show (2 : Int32) = nI 2 by decide]; exact nI_nlt (by omega) (by omega))
    rw [if_pos h2] at k
    rw [nI_1, nI_sub1 (by omega), Nat.add_sub_cancel]
    have hq : rb (tn a) < 440 := by unfold rb; omega
    have f1 : FrP ro D (dI D (ad (rb (tn a))) 5 (nI (aC (S.1 (tn a)) + 1))) (fun q => q = rb (tn a)) := FrP.dI (H.inj_ _ hq)
    have r1 := hR.1.kD H hr f1 (c := aC (S.1 (tn a)) + 1) (l := aL (S.1 (tn a))) (p := aP (S.1 (tn a))) (dI_s _ _ _ _) (by rw [dI_o _ _ _ (by decide)]; exact hR.1.2.2.2.2.2.2.1) (by rw [dI_o _ _ _ (by decide)]; exact hR.1.2.2.2.2.2.2.2)
    have o1 : RowOK (wC (S.1 (tn a)) (aC (S.1 (tn a)) + 1)) := by
      have o := hR.2
      exact ⟨o.1, o.2.1, o.2.2.1, o.2.2.2.1, fun f h1 h2 t ht => o.2.2.2.2.1 f (Nat.le_of_succ_le h1) h2 t ht, by show aC (S.1 (tn a)) + 1 ≤ 2; omega, o.2.2.2.2.2.2⟩
    exact give_sp H (h.row H hr (f1.up (fun q e => by unfold pR; omega)) r1 o1) (fun D' c => k D' c)
  · have h2 : ¬ aC (S.1 (tn a)) < 2 := fun w => q (by rw [show (2 : Int32) = nI 2 by decide]; exact nI_lt w (by omega))
    rw [if_neg h2] at k
    exact giveNone_sp H h (fun D' c => k D' c)
theorem on_sp (H : CS G ad ro) (h : ClV ad ro Z D S) {a f t : Int32} (k : ∀ D', ClV ad ro Z D' (sOn S a f t).2 → post (sOn S a f t).1 D') : X8_on_wp G D (ad 0) a f t post := by
  unfold sOn at k
  refine ⟨H.x_, rowOf_sp H (fun n0 => ?_) (fun r0 => ⟨fun q => (nomatch q), fun y q => ?_⟩)⟩
  · rw [if_neg (fun w => n0 w.1)] at k
    exact ⟨fun _ => refuse_sp H h (fun D' c => ⟨isB_0, k D' c⟩), fun y q => (nomatch q)⟩
  cases q
  refine isTick_if (fun n0 => ⟨fun q => absurd rfl q, fun _ => ?_⟩) (fun t0 => ⟨fun _ => ?_, fun q => absurd q (by decide)⟩)
  · rw [if_neg (fun w => n0 w.2)] at k
    exact refuse_sp H h (fun D' c => ⟨isB_0, k D' c⟩)
  rw [if_pos ⟨r0, t0⟩] at k
  have hr := tn_R r0
  have ht := tn_T t0
  have et := tn_nI t0.1
  generalize tn t = x at *
  subst et
  have hR := h.1 _ hr
  refine ⟨H.row_ _ hr, hasFeast_sp H hr hR.1 hR.2.2.2.2.2.2.1 ?_⟩
  by_cases hf : 0 ≤ f.toInt ∧ f.toInt < aC (S.1 (tn a))
  · rw [decide_eq_true hf]
    rw [if_pos hf] at k
    refine ⟨fun _ => ?_, fun q => absurd q (by decide)⟩
    have hc := hR.2.2.2.2.2.2.1
    have tf := tn_c hf.1
    have hf2 : tn f < aC (S.1 (tn a)) := by omega
    have ef := tn_nI hf.1
    have cf : f.toNatClampNeg = tn f := by
      generalize tn f = z at *
      rw [ef, nI_clamp (by omega)]
    rw [cf]
    have s0 := H.set_ _ hr (3 + tn f) (by omega)
    refine ⟨_, H.row4_ _ hr, H.fa_ _ hr, by rw [H.fal_ _ hr, ef]; exact vp_in_nI (by omega) (by omega), _, H.far_ _ hr _ (by omega), s0.1, ?_⟩
    have hS := hR.1.2.2.2.2.1 (tn f) (by omega)
    rw [hS.2]
    have h8 := ct_le (aE (S.1 (tn a)) (tn f)) 40
    refine ⟨fun q => ?_, fun q => ?_⟩
    · have h3 : ct (aE (S.1 (tn a)) (tn f)) 40 < 8 := by
        by_cases w : ct (aE (S.1 (tn a)) (tn f)) 40 < 8
        · exact w
        · exact absurd q (by rw [show (8 : Int32) = nI 8 by decide]; exact nI_nlt (by omega) (by omega))
      rw [if_neg (by omega)] at k
      refine add_sp s0 hS ht (fun D1 f1 s1 => ?_)
      have f1' := fr_S H (rS_lt hr (by omega)) f1
      have o1 : RowOK (wE (S.1 (tn a)) (tn f) (ups (aE (S.1 (tn a)) (tn f)) x true)) := by
        have o := hR.2
        refine ⟨o.1, o.2.1, o.2.2.1, fun g hg => ?_, fun g h1 h2 i hi => ?_, o.2.2.2.2.2⟩
        · show ct (if g = tn f then _ else aE (S.1 (tn a)) g) 40 ≤ 8
          by_cases w : g = tn f
          · rw [if_pos w]
            have := ct_ups (s := aE (S.1 (tn a)) (tn f)) (b := true) ht
            rw [if_pos rfl] at this
            split at this <;> omega
          · rw [if_neg w]; exact o.2.2.2.1 g hg
        · show (if g = tn f then _ else aE (S.1 (tn a)) g) i = false
          have h1 : aC (S.1 (tn a)) ≤ g := h1
          rw [if_neg (by omega)]
          exact o.2.2.2.2.1 g h1 h2 i hi
      have c1 := h.row H hr (f1'.up (fun q => pR_S (by omega))) (hR.1.kE H hr (by omega) f1' s1) o1
      cases hs : aE (S.1 (tn a)) (tn f) x
      · rw [hs, if_neg (by decide)] at k
        exact ⟨fun q => absurd q (by decide), fun _ => done_sp H c1 (fun D' c => ⟨isB_1, k D' c⟩)⟩
      · rw [hs, if_pos rfl] at k
        refine ⟨fun _ => ?_, fun q => absurd rfl q⟩
        have e : wE (S.1 (tn a)) (tn f) (ups (aE (S.1 (tn a)) (tn f)) x true) = S.1 (tn a) := by
          unfold wE
          rw [ups_same hs]
          have : (fun g => if g = tn f then aE (S.1 (tn a)) (tn f) else aE (S.1 (tn a)) g) = aE (S.1 (tn a)) := by
            funext g
            by_cases w : g = tn f
            · rw [if_pos w, w]
            · rw [if_neg w]
          rw [this]
          rfl
        rw [stR_id e] at c1
        exact refuse_sp H c1 (fun D' c => ⟨isB_0, k D' c⟩)
    · have h3 : ¬ ct (aE (S.1 (tn a)) (tn f)) 40 < 8 := fun w => q (by rw [show (8 : Int32) = nI 8 by decide]; exact nI_lt w (by omega))
      rw [if_pos (by omega)] at k
      exact refuse_sp H h (fun D' c => ⟨isB_0, k D' c⟩)
  · rw [decide_eq_false hf]
    rw [if_neg hf] at k
    exact ⟨fun q => absurd rfl q, fun _ => refuse_sp H h (fun D' c => ⟨isB_0, k D' c⟩)⟩
theorem strange_sp (H : CS G ad ro) (h : ClV ad ro Z D S) {a t b : Int32} (k : ∀ D', ClV ad ro Z D' (sStrange S a t b).2 → post (sStrange S a t b).1 D') : X8_strange_wp G D (ad 0) a t b post := by
  unfold sStrange at k
  refine ⟨H.x_, rowOf_sp H (fun n0 => ?_) (fun r0 => ⟨fun q => (nomatch q), fun y q => ?_⟩)⟩
  · rw [if_neg (fun w => n0 w.1)] at k
    exact ⟨fun _ => refuse_sp H h (fun D' c => ⟨isB_0, k D' c⟩), fun y q => (nomatch q)⟩
  cases q
  refine isTick_if (fun n0 => ⟨fun q => absurd rfl q, fun _ => ?_⟩) (fun t0 => ⟨fun _ => ?_, fun q => absurd q (by decide)⟩)
  · rw [if_neg (fun w => n0 w.2)] at k
    exact refuse_sp H h (fun D' c => ⟨isB_0, k D' c⟩)
  rw [if_pos ⟨r0, t0⟩] at k
  have hr := tn_R r0
  have ht := tn_T t0
  have et := tn_nI t0.1
  generalize tn t = x at *
  subst et
  have s0 := H.set_ _ hr 1 (by omega)
  have hR := h.1 _ hr
  refine ⟨fun q => ⟨H.row_ _ hr, _, H.row2_ _ hr, s0.1, drop_sp s0 hR.1.2.2.1 ht (fun D1 f1 s1 => ?_)⟩, fun q => ⟨H.row_ _ hr, _, H.row2_ _ hr, s0.1, add_sp s0 hR.1.2.2.1 ht (fun D1 f1 s1 => ?_)⟩⟩
  · rw [decide_eq_false (fun w => w q)] at k
    have f1' := fr_S H (rS_lt hr (by omega)) f1
    have c1 := h.row H hr (f1'.up (fun q => pR_S (by omega))) (hR.1.kX H hr f1' s1) hR.2
    cases hs : aX (S.1 (tn a)) x
    · rw [hs, if_pos rfl] at k
      refine ⟨fun _ => ?_, fun q => absurd rfl q⟩
      rw [stR_id (by unfold wX; rw [ups_same hs]; rfl)] at c1
      exact refuse_sp H c1 (fun D' c => ⟨isB_0, k D' c⟩)
    · rw [hs, if_neg (by decide)] at k
      exact ⟨fun q => absurd q (by decide), fun _ => done_sp H c1 (fun D' c => ⟨isB_1, k D' c⟩)⟩
  · rw [decide_eq_true q] at k
    have f1' := fr_S H (rS_lt hr (by omega)) f1
    have c1 := h.row H hr (f1'.up (fun q => pR_S (by omega))) (hR.1.kX H hr f1' s1) hR.2
    cases hs : aX (S.1 (tn a)) x
    · rw [hs, if_neg (by decide)] at k
      exact ⟨fun q => absurd q (by decide), fun _ => done_sp H c1 (fun D' c => ⟨isB_1, k D' c⟩)⟩
    · rw [hs, if_pos rfl] at k
      refine ⟨fun _ => ?_, fun q => absurd rfl q⟩
      rw [stR_id (by unfold wX; rw [ups_same hs]; rfl)] at c1
      exact refuse_sp H c1 (fun D' c => ⟨isB_0, k D' c⟩)
theorem isStrange_sp (H : CS G ad ro) (h : ClV ad ro Z D S) {a t : Int32} (k : ∀ D', ClV ad ro Z D' (sIsStrange S a t).2 → post (sIsStrange S a t).1 D') : X8_isStrange_wp G D (ad 0) a t post := by
  unfold sIsStrange at k
  refine ⟨H.x_, rowOf_sp H (fun n0 => ?_) (fun r0 => ⟨fun q => (nomatch q), fun y q => ?_⟩)⟩
  · rw [if_neg (fun w => n0 w.1)] at k
    exact ⟨fun _ => giveNone_sp H h (fun D' c => k D' c), fun y q => (nomatch q)⟩
  cases q
  refine isTick_if (fun n0 => ⟨fun q => absurd rfl q, fun _ => ?_⟩) (fun t0 => ⟨fun _ => ?_, fun q => absurd q (by decide)⟩)
  · rw [if_neg (fun w => n0 w.2)] at k
    exact giveNone_sp H h (fun D' c => k D' c)
  rw [if_pos ⟨r0, t0⟩] at k
  have hr := tn_R r0
  have ht := tn_T t0
  have et := tn_nI t0.1
  generalize tn t = x at *
  subst et
  have s0 := H.set_ _ hr 1 (by omega)
  refine ⟨H.row_ _ hr, _, H.row2_ _ hr, s0.1, has_sp s0 (h.1 _ hr).1.2.2.1 (by omega) ?_⟩
  rw [decide_eq_true ht, Bool.true_and]
  unfold X8_isStrange_j40
  cases hs : aX (S.1 (tn a)) x
  · rw [hs] at k
    exact ⟨fun _ => ⟨H.x_, give_sp H h (fun D' c => k D' c)⟩, fun q => absurd rfl q⟩
  · rw [hs] at k
    exact ⟨fun q => absurd q (by decide), fun _ => ⟨H.x_, give_sp H h (fun D' c => k D' c)⟩⟩
theorem plain_sp (H : CS G ad ro) (h : ClV ad ro Z D S) {a : Int32} (k : ∀ D', ClV ad ro Z D' (sPlain S a).2 → post (sPlain S a).1 D') : X8_plain_wp G D (ad 0) a post := by
  unfold sPlain at k
  refine ⟨H.x_, rowOf_sp H (fun n0 => ?_) (fun r0 => ⟨fun q => (nomatch q), fun y q => ?_⟩)⟩
  · rw [if_neg n0] at k
    exact ⟨fun _ => refuse_sp H h (fun D' c => ⟨isB_0, k D' c⟩), fun y q => (nomatch q)⟩
  cases q
  have hr := tn_R r0
  have hR := (h.1 _ hr)
  rw [if_pos r0] at k
  have s2 := H.set_ _ hr 2 (by omega)
  refine ⟨H.row_ _ hr, H.row_ _ hr, _, H.row3_ _ hr, s2.1, _, H.row4_ _ hr, H.fa_ _ hr, sclear_sp s2 (fun D1 f1 c1 => ?_)⟩
  have f1' := fr_S H (rS_lt hr (by omega)) f1
  have r1 := hR.1.kS H hr f1' c1
  generalize hA1 : wS (S.1 (tn a)) (fun _ => false) = A1 at *
  have key := up_loop (L := fun n i (E : Dat) => X3_clearStepsAndFeasts_l9 G (fun D9 => X8_done_wp G D9 (ad 0) (fun r10 D11 => (isB r10 ∧ post r10 D11))) (ad (rb (tn a))) (ad (rS (tn a) 2)) (ad (rb (tn a) + 2)) n (nI i) E) 2 (fun i E => FrP ro D1 E (pR (tn a)) ∧ RowV ad E (tn a) (A1.1, A1.2.1, A1.2.2.1, A1.2.2.2.1, (fun g => if g < i then fun _ => false else aE A1 g), A1.2.2.2.2.2)) ?_ ?_ 0 D1 (by omega) ⟨FrP.rf, ?_⟩
  · exact ⟨_, key⟩
  · intro n E hE
    show X3_clearStepsAndFeasts_l9_b G _ (ad (rb (tn a))) (ad (rS (tn a) 2)) (ad (rb (tn a) + 2)) _ _ _
    refine ⟨fun _ => ?_, fun q => absurd (by decide) q⟩
    have hq : rb (tn a) < 440 := by unfold rb; omega
    have f2 : FrP ro E (dI E (ad (rb (tn a))) 5 0) (fun q => q = rb (tn a)) := FrP.dI (H.inj_ _ hq)
    have r2 := hE.2.kD H hr f2 (c := 0) (l := aL A1) (p := aP A1) (dI_s _ _ _ _) (by rw [dI_o _ _ _ (by decide)]; exact hE.2.2.2.2.2.2.2.1) (by rw [dI_o _ _ _ (by decide)]; exact hE.2.2.2.2.2.2.2.2)
    have r3 : RowV ad (dI E (ad (rb (tn a))) 5 0) (tn a) (wP (S.1 (tn a))) := by
      obtain ⟨b1, b2, b3, b4, b5, b6, b7, b8⟩ := r2
      refine ⟨?_, ?_, ?_, ?_, fun f hf => ?_, b6, ?_, ?_⟩
      · rw [← hA1] at b1; exact b1
      · rw [← hA1] at b2; exact b2
      · rw [← hA1] at b3; exact b3
      · rw [← hA1] at b4; exact b4
      · have := b5 f hf
        show SetV _ _ _ (fun _ => false)
        have e : aE (A1.1, A1.2.1, A1.2.2.1, A1.2.2.2.1, (fun g => if g < 2 then fun _ => false else aE A1 g), 0, aL A1, aP A1) f = fun _ => false := if_pos hf
        rw [e] at this
        exact this
      · rw [← hA1] at b7; exact b7
      · rw [← hA1] at b8; exact b8
    have o1 : RowOK (wP (S.1 (tn a))) := by
      have o := hR.2
      exact ⟨o.1, rfl, by show ct (fun _ => false) 40 ≤ 3; rw [ct_false]; omega, fun f hf => by show ct (fun _ => false) 40 ≤ 8; rw [ct_false]; omega, fun f h1 h2 t ht => rfl, Nat.zero_le 2, o.2.2.2.2.2.2⟩
    exact done_sp H (h.row H hr (((f1'.up (fun q => pR_S (by omega))).tr hE.1).tr (f2.up (fun q e => by unfold pR; omega))) r3 o1) (fun D' c => ⟨isB_1, k D' c⟩)
  · intro n i E hi hE hk
    show X3_clearStepsAndFeasts_l9_b G _ (ad (rb (tn a))) (ad (rS (tn a) 2)) (ad (rb (tn a) + 2)) _ _ _
    have si := H.set_ _ hr (3 + i) (by omega)
    refine ⟨fun q => absurd q (by rw [show (2 : Int32) = nI 2 by decide]; exact nI_ge hi (by omega)), fun _ => ⟨by rw [H.fal_ _ hr]; exact vp_in_nI hi (by omega), _, by rw [nI_clamp (by omega)]; exact H.far_ _ hr i hi, si.1, sclear_sp si (fun D2 f2 c2 => ?_)⟩⟩
    rw [nI_1]
    have f2' := fr_S H (rS_lt hr (by omega)) f2
    refine hk D2 ⟨hE.1.tr (f2'.up (fun q => pR_S (by omega))), ?_⟩
    have r2 := hE.2.kE H hr hi f2' c2
    have e : wE (A1.1, A1.2.1, A1.2.2.1, A1.2.2.2.1, (fun g => if g < i then fun _ => false else aE A1 g), A1.2.2.2.2.2) i (fun _ => false) = (A1.1, A1.2.1, A1.2.2.1, A1.2.2.2.1, (fun g => if g < i + 1 then fun _ => false else aE A1 g), A1.2.2.2.2.2) := by
      unfold wE
      have : (fun g => if g = i then fun _ => false else (if g < i then fun _ => false else aE A1 g)) = (fun g => if g < i + 1 then fun _ => false else aE A1 g) := by
        funext g
        by_cases w : g = i
        · rw [if_pos w, if_pos (by omega)]
        · rw [if_neg w]
          by_cases w2 : g < i
          · rw [if_pos w2, if_pos (by omega)]
          · rw [if_neg w2, if_neg (by omega)]
      rw [← this]
      rfl
    rw [e] at r2
    exact r2
  · have e : (A1.1, A1.2.1, A1.2.2.1, A1.2.2.2.1, (fun g => if g < 0 then fun _ => false else aE A1 g), A1.2.2.2.2.2) = A1 := by
      have : (fun g => if g < 0 then fun _ => false else aE A1 g) = aE A1 := by
        funext g
        rw [if_neg (by omega)]
      rw [this]
      rfl
    rw [e]
    exact r1
end C2
