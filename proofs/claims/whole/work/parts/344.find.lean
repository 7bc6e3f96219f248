/-! Parting: the tops, the places' tops, find -/
def pO (q : Nat) : Prop := pT q ∨ (320 ≤ q ∧ q < 332)
def pQ (q : Nat) : Prop := pT q ∨ (340 ≤ q ∧ q < 354)
theorem pO_pP {q : Nat} (h : pO q) : pP q := by unfold pO pT at h; unfold pP; omega
theorem pQ_pP {q : Nat} (h : pQ q) : pP q := by unfold pQ pT at h; unfold pP; omega
theorem ok3 : okb 3 := by unfold okb; omega
theorem ok60 {i : Nat} (h : i < 6) : okb (60 + i) := by unfold okb; omega
theorem ok70 {i : Nat} (h : i < 7) : okb (70 + i) := by unfold okb; omega
section FD
variable {G : Shp} {ad ro : Nat → Nat} {D : Dat} {r : Nat} {A : AR} {u : Option Nat}
theorem WgV.fr (H : CS G ad ro) (hA : RowOK A) {D' : Dat} {P : Nat → Prop} (h : WgV ad D A u) (f : FrP ro D D' P) (hP : ∀ q, (q = 2 ∨ q = 12 ∨ (20 ≤ q ∧ q < 50) ∨ q = 206 ∨ q = 207 ∨ (220 ≤ q ∧ q < 318)) → ¬ P q) : WgV ad D' A u :=
  ⟨h.1.fr H hA f (fun q a => hP q (by unfold pC at a; omega)), h.2.1.fr H hA f (fun q a => hP q (by unfold pA at a; omega)), h.2.2.1, h.2.2.2.1.fr H hA f (fun q a b => hP q (by omega)), h.2.2.2.2.fr H ok3 f (hP _ (by unfold bg; omega)) (hP _ (by unfold bg; omega))⟩
theorem WgV.un (h : WgV ad D A u) : D.1 (ad 2) 11 = nI (nU A) := h.1.1.1.1
theorem WgV.pl (h : WgV ad D A u) : D.1 (ad 2) 10 = nI (plc A) := h.1.1.2.1
theorem nI_nneg {n : Nat} (h : n < 2 ^ 31) : ¬ nI n < 0 := fun q => by
  have := (I_lt _ _).mp q
  rw [nI_toInt h] at this
  have e : (0 : Int32).toInt = 0 := rfl
  omega
theorem az_lt {z M N : Int} (h : -M ≤ z ∧ z ≤ M) (hMN : M < N) : az z < N := by
  unfold az; split <;> omega
theorem findTops_sp (H : CS G ad ro) (hA : RowOK A) (h : WgV ad D A u) {post : Dat → Prop} (k : ∀ D', FrP ro D D' pO → (∀ i, i < nU A → BigR ad D' (60 + i) (zz (Tq A u (plc A + i)))) → post D') : X2_findTops_wp G D (ad 2) post := by
  have h6 := nU_le hA
  have hp := h.2.2.1
  refine ⟨H.p_, _, H.p0_, H.tal_.1, _, H.p8_, (H.big_ 3 ok3).1, _, H.p6_, H.to_, ?_⟩
  rw [h.un]
  have d1 := zD_pos hp
  have d2 := zD_lt hA (Nat.le_refl _) hp
  have zd : az (zz (Dq A u (nU A))) < 134217728 ^ 2 := by unfold az; rw [if_neg (by omega)]; exact d2
  have key : ∀ (i : Nat) (E : Dat), i ≤ nU A → FrP ro D E pO → (∀ l, i ≤ l → l < nU A → BigR ad E (60 + l) (zz (Tq A u (plc A + l)))) → X2_findTops_l7 G post (ad 2) (ad 6) (ad (bg 3)) (ad 14) (i + 1) (nI i - 1) E := by
    intro i
    induction i with
    | zero =>
      intro E hi fE hE
      show X2_findTops_l7_b G post (ad 2) (ad 6) (ad (bg 3)) (ad 14) _ _ _
      exact ⟨fun _ => k E fE (fun i hi => hE i (by omega) hi), fun q => absurd (by decide) q⟩
    | succ i ih =>
      intro E hi fE hE
      have hpi : Pv A u i := fun l hl => hp l (by omega)
      rw [nI_sub1 (by omega), Nat.add_sub_cancel]
      show X2_findTops_l7_b G post (ad 2) (ad 6) (ad (bg 3)) (ad 14) _ _ _
      refine ⟨fun q => absurd q (nI_nneg (by omega)), fun _ => ?_⟩
      have wE : WgV ad E A u := h.fr H hA fE (fun q a b => by unfold pO pT at b; omega)
      refine tclearR H (fun D1 f1 t1 => ?_)
      have w1 : WgV ad D1 A u := wE.fr H hA f1 (fun q a b => by unfold pT at b; omega)
      rw [w1.un]
      have o1 := cb_ok (i := i) (j := nU A) (by omega) (by omega)
      have c1 := w1.2.2.2.1 i (nU A) (by omega) (Nat.le_refl _)
      rw [if_pos (by omega)] at c1
      refine cell_sp H (by omega) (by omega) ⟨_, rfl, ?_⟩
      refine addProductR H ok3 o1 t1 (by omega) w1.2.2.2.2 c1 zd (Bz_az hA (by omega) hpi i (nU A)) (by omega) isB_0 (fun D2 f2 t2 => ?_)
      have F2 : FrP ro E D2 pT := f1.tr f2
      rw [nI_1]
      have key := up_loop (L := fun m j (E : Dat) => X2_findTops_l43 G post (ad 2) (ad 6) (ad (bg 3)) (ad 14) (X2_findTops_l7 G post (ad 2) (ad 6) (ad (bg 3)) (ad 14) (i + 1)) m (nI i) (nI j) E) (nU A) (fun j D3 => i < j ∧ FrP ro E D3 pT ∧ TalR ad D3 (zz (Dq A u (nU A)) * zz (Bq A u i i (nU A)) - bkS A u i j) (j - i)) ?_ ?_ (i + 1) D2 (by omega) ⟨by omega, F2, ?_⟩
      · exact ⟨_, key⟩
      · intro m D3 h3
        obtain ⟨-, F3, t3⟩ := h3
        have w3 : WgV ad D3 A u := wE.fr H hA F3 (fun q a b => by unfold pT at b; omega)
        show X2_findTops_l43_b G post (ad 2) (ad 6) (ad (bg 3)) (ad 14) _ _ _ _ _
        refine ⟨fun _ => ⟨by rw [H.tol_]; exact vp_in_nI (by omega) (by omega), _, by rw [nI_clamp (by omega)]; exact H.tor_ i (by omega), (H.big_ _ (ok60 (by omega))).1, ?_⟩, fun q => absurd (by rw [w3.un]; exact nI_le (Nat.le_refl _) (by omega)) q⟩
        have te := tops_eq hp (show i < nU A by omega)
        rw [te] at t3
        have b1 := Bz_b hA (u := u) (by omega) hpi i i
        have b2 := Tz_b hA hp (i := i) (by omega)
        have b3 := mul_abs_le b1.1 b1.2 b2.1 b2.2
        have b4 : (72057594037927936000000000 * 10000000000000000000000000000000000000 : Int) < 134217728 ^ 12 := by decide +kernel
        refine settleR H (ok60 (i := i) (by omega)) t3 (by omega) (by omega) (by omega) (fun D4 f4 b4 => ⟨by rw [H.tol_]; exact vp_in_nI (by omega) (by omega), _, by rw [nI_clamp (by omega)]; exact H.tor_ i (by omega), (H.big_ _ (ok60 (by omega))).1, ?_⟩)
        have w4 : WgV ad D4 A u := w3.fr H hA f4 (fun q a b => by unfold pB bg at b; omega)
        have o2 := cb_ok (i := i) (j := i) (by omega) (by omega)
        refine cell_sp H (by omega) (by omega) ⟨_, rfl, (H.big_ _ o2).1, ?_⟩
        have c2 := w4.2.2.2.1 i i (by omega) (by omega)
        rw [if_pos (by omega)] at c2
        have hp1 : Pv A u (i + 1) := fun l hl => hp l (by omega)
        have z1 := zD_pos hp1
        have z2 := zD_lt hA (by omega) hp1
        rw [Dq_succ] at z1 z2
        refine toLongR H o2 c2 (by omega) z2 (fun v hv => ?_)
        refine divideR H (ok60 (by omega)) b4 (by rw [hv]; omega) (by rw [hv]; exact z2) (fun D5 _ f5 b5 _ => ?_)
        rw [hv, Int.mul_tdiv_cancel_left _ (by omega)] at b5
        have F5 : FrP ro E D5 pO := (F3.up (fun q a => Or.inl a)).tr ((f4.tr f5).up (fun q a => Or.inr (by unfold pB bg at a; omega)))
        have e : nI i + (-1) = nI i - 1 := by rw [Int32.sub_eq_add_neg]
        rw [e]
        refine ih D5 (by omega) (fE.tr F5) (fun l h1 h2 => ?_)
        by_cases q : l = i
        · rw [q]; exact b5
        · have := hE l (by omega) h2
          exact (this.fr H (ok60 (by omega)) F3 (fun w => by unfold pT bg at w; omega) (fun w => by unfold pT bg at w; omega)).fr H (ok60 (by omega)) (f4.tr f5) (fun w => by unfold pB bg at w; omega) (fun w => by unfold pB bg at w; omega)
      · intro m j D3 hj h3 hk
        obtain ⟨hij, F3, t3⟩ := h3
        have w3 : WgV ad D3 A u := wE.fr H hA F3 (fun q a b => by unfold pT at b; omega)
        show X2_findTops_l43_b G post (ad 2) (ad 6) (ad (bg 3)) (ad 14) _ _ _ _ _
        refine ⟨fun q => absurd q (by rw [w3.un]; exact nI_ge hj (by omega)), fun _ => ?_⟩
        have o2 := cb_ok (i := i) (j := j) (by omega) (by omega)
        refine cell_sp H (by omega) (by omega) ⟨_, rfl, by rw [H.tol_]; exact vp_in_nI (by omega) (by omega), _, by rw [nI_clamp (by omega)]; exact H.tor_ j (by omega), (H.big_ _ (ok60 (by omega))).1, ?_⟩
        have c2 := w3.2.2.2.1 i j (by omega) (by omega)
        rw [if_pos (by omega)] at c2
        have tj := (hE j (by omega) hj).fr H (ok60 (by omega)) F3 (fun w => by unfold pT bg at w; omega) (fun w => by unfold pT bg at w; omega)
        refine addProductR H o2 (ok60 (by omega)) t3 (by omega) c2 tj (Bz_az hA (by omega) hpi i j) (q := 5) (az_lt (Tz_b hA hp hj) (by decide +kernel)) (by omega) isB_1 (fun D4 f4 t4 => ?_)
        rw [nI_1]
        refine hk D4 ⟨by omega, F3.tr f4, ?_⟩
        have e : zz (Dq A u (nU A)) * zz (Bq A u i i (nU A)) - bkS A u i j + sg 1 * (zz (Bq A u i i j) * zz (Tq A u (plc A + j))) = zz (Dq A u (nU A)) * zz (Bq A u i i (nU A)) - bkS A u i (j + 1) := by
          rw [sg_1]
          show _ = _ - (bkS A u i j + (if i < j then zz (Bq A u i i j) * zz (Tq A u (plc A + j)) else 0))
          rw [if_pos (by omega)]
          omega
        rw [e, show j - i + 1 = j + 1 - i by omega] at t4
        exact t4
      · have e : 0 + sg 0 * (zz (Dq A u (nU A)) * zz (Bq A u i i (nU A))) = zz (Dq A u (nU A)) * zz (Bq A u i i (nU A)) - bkS A u i (i + 1) := by
          have : bkS A u i (i + 1) = 0 := by
            have z : ∀ n, n ≤ i + 1 → bkS A u i n = 0 := by
              intro n
              induction n with
              | zero => intro _; rfl
              | succ n ihn =>
                intro hn
                show bkS A u i n + (if i < n then zz (Bq A u i i n) * zz (Tq A u (plc A + n)) else 0) = 0
                rw [ihn (by omega), if_neg (by omega)]; rfl
            exact z _ (Nat.le_refl _)
          rw [sg_0, this]; omega
        rw [e] at t2
        rw [show i + 1 - i = 0 + 1 by omega]
        exact t2
  exact ⟨_, key (nU A) D (Nat.le_refl _) FrP.rf (fun l h1 h2 => by omega)⟩
theorem findPlaceTops_sp (H : CS G ad ro) (hA : RowOK A) (h : WgV ad D A u) (ht : ∀ i, i < nU A → BigR ad D (60 + i) (zz (Tq A u (plc A + i)))) {post : Dat → Prop} (k : ∀ D', FrP ro D D' pQ → (∀ p, p < plc A → BigR ad D' (70 + p) (zz (Tq A u p))) → post D') : X2_findPlaceTops_wp G D (ad 2) post := by
  have h6 := nU_le hA
  have h7 := plc_b hA
  have hp := h.2.2.1
  refine ⟨H.p_, _, H.p0_, H.tal_.1, _, H.p8_, (H.big_ 3 ok3).1, _, H.p3_, H.so_, _, H.p7_, H.pt_, _, H.p4_, H.pc_, _, H.p6_, H.to_, ?_⟩
  have key := up_loop (L := fun m p (E : Dat) => X2_findPlaceTops_l2 G post (ad 2) (ad 6) (ad (bg 3)) (ad 11) (ad 15) (ad 12) (ad 14) m (nI p) E) (plc A) (fun p E => FrP ro D E pQ ∧ ∀ l, l < p → BigR ad E (70 + l) (zz (Tq A u l))) ?_ ?_ 0 D (by omega) ⟨FrP.rf, fun l hl => by omega⟩
  · exact ⟨_, key⟩
  · intro m E hE
    have wE : WgV ad E A u := h.fr H hA hE.1 (fun q a b => by unfold pQ pT at b; omega)
    show X2_findPlaceTops_l2_b G post (ad 2) (ad 6) (ad (bg 3)) (ad 11) (ad 15) (ad 12) (ad 14) _ _ _
    exact ⟨fun _ => k E hE.1 (fun p hp => hE.2 p hp), fun q => absurd (by rw [wE.pl]; exact nI_le (Nat.le_refl _) (by omega)) q⟩
  · intro m p E hpl hE hk
    obtain ⟨fE, hE⟩ := hE
    have wE : WgV ad E A u := h.fr H hA fE (fun q a b => by unfold pQ pT at b; omega)
    show X2_findPlaceTops_l2_b G post (ad 2) (ad 6) (ad (bg 3)) (ad 11) (ad 15) (ad 12) (ad 14) _ _ _
    refine ⟨fun q => absurd q (by rw [wE.pl]; exact nI_ge hpl (by omega)), fun _ => ?_⟩
    refine tclearR H (fun D1 f1 t1 => ?_)
    have w1 : WgV ad D1 A u := wE.fr H hA f1 (fun q a b => by unfold pT at b; omega)
    refine ⟨by rw [H.sol_]; exact vp_in_nI (by omega) (by omega), _, by rw [nI_clamp (by omega)]; exact H.sor_ p (by omega), H.si_ p (by omega), ?_⟩
    rw [w1.un, H.sil_ p (by omega), nI_clamp (n := nU A) (by omega)]
    refine ⟨vp_in_nI (by omega) (by omega), ?_⟩
    have e1 := w1.2.1.2.1 p hpl (nU A) (Nat.le_refl _)
    have hb := psS_b hA u p (nU A) (n := 40) (by omega)
    refine addTimesR H ok3 t1 (by omega) w1.2.2.2.2 (by rw [e1]; omega) (by rw [e1]; omega) (fun D2 f2 t2 => ?_)
    rw [e1] at t2
    have F2 : FrP ro E D2 pT := f1.tr f2
    have key := up_loop (L := fun n j (E : Dat) => X2_findPlaceTops_l41 G post (ad 2) (ad 6) (ad (bg 3)) (ad 11) (ad 15) (ad 12) (ad 14) (X2_findPlaceTops_l2 G post (ad 2) (ad 6) (ad (bg 3)) (ad 11) (ad 15) (ad 12) (ad 14) m) n (nI p) (nI j) E) (nU A) (fun j D3 => FrP ro E D3 pT ∧ TalR ad D3 (zz (Dq A u (nU A)) * psS A u p (nU A) 40 - plS A u p j) (j + 1)) ?_ ?_ 0 D2 (by omega) ⟨F2, ?_⟩
    · exact ⟨_, key⟩
    · intro n D3 h3
      obtain ⟨F3, t3⟩ := h3
      have w3 : WgV ad D3 A u := wE.fr H hA F3 (fun q a b => by unfold pT at b; omega)
      show X2_findPlaceTops_l41_b G post (ad 2) (ad 6) (ad (bg 3)) (ad 11) (ad 15) (ad 12) (ad 14) _ _ _ _ _
      refine ⟨fun _ => ⟨by rw [H.ptl_]; exact vp_in_nI (by omega) (by omega), _, by rw [nI_clamp (by omega)]; exact H.ptr_ p (by omega), (H.big_ _ (ok70 (by omega))).1, ?_⟩, fun q => absurd (by rw [w3.un]; exact nI_le (Nat.le_refl _) (by omega)) q⟩
      rw [place_eq hp hpl] at t3
      have c0 := pcS_b A p 40
      have c1 : 1 ≤ pcS A p 40 := by
        have := pc_nn (A := A) p 40
        have := piv_pos (A := A) (u := u) (fun l hl => hp l (by omega)) p hpl
        omega
      have b2 := Tp_b hA hp hpl
      have b3 := mul_abs_le (X := 40) (x := pcS A p 40) (by omega) (by omega) b2.1 b2.2
      have b4 : (40 * 30000000000000000000000000000000000000000000 : Int) < 134217728 ^ 12 := by decide +kernel
      refine settleR H (ok70 (i := p) (by omega)) t3 (by omega) (by omega) (by omega) (fun D4 f4 b4 => ⟨by rw [H.ptl_]; exact vp_in_nI (by omega) (by omega), _, by rw [nI_clamp (by omega)]; exact H.ptr_ p (by omega), (H.big_ _ (ok70 (by omega))).1, by rw [H.pcl_]; exact vp_in_nI (by omega) (by omega), ?_⟩)
      have w4 : WgV ad D4 A u := w3.fr H hA f4 (fun q a b => by unfold pB bg at b; omega)
      have hv := w4.2.1.1 p hpl
      rw [nI_clamp (by omega)]
      refine divideR H (ok70 (by omega)) b4 (by rw [hv]; omega) (by rw [hv]; omega) (fun D5 _ f5 b5 _ => ?_)
      rw [hv, Int.mul_tdiv_cancel_left _ (by omega)] at b5
      have F5 : FrP ro E D5 pQ := (F3.up (fun q a => Or.inl a)).tr ((f4.tr f5).up (fun q a => Or.inr (by unfold pB bg at a; omega)))
      rw [nI_1]
      refine hk D5 ⟨fE.tr F5, fun l hl => ?_⟩
      by_cases q : l = p
      · rw [q]; exact b5
      · exact ((hE l (by omega)).fr H (ok70 (by omega)) F3 (fun w => by unfold pT bg at w; omega) (fun w => by unfold pT bg at w; omega)).fr H (ok70 (by omega)) (f4.tr f5) (fun w => by unfold pB bg at w; omega) (fun w => by unfold pB bg at w; omega)
    · intro n j D3 hj h3 hk2
      obtain ⟨F3, t3⟩ := h3
      have w3 : WgV ad D3 A u := wE.fr H hA F3 (fun q a b => by unfold pT at b; omega)
      show X2_findPlaceTops_l41_b G post (ad 2) (ad 6) (ad (bg 3)) (ad 11) (ad 15) (ad 12) (ad 14) _ _ _ _ _
      refine ⟨fun q => absurd q (by rw [w3.un]; exact nI_ge hj (by omega)), fun _ => ⟨by rw [H.tol_]; exact vp_in_nI (by omega) (by omega), _, by rw [nI_clamp (by omega)]; exact H.tor_ j (by omega), (H.big_ _ (ok60 (by omega))).1, by rw [H.sol_]; exact vp_in_nI (by omega) (by omega), _, by rw [nI_clamp (by omega)]; exact H.sor_ p (by omega), H.si_ p (by omega), by rw [H.sil_ p (by omega)]; exact vp_in_nI (by omega) (by omega), ?_⟩⟩
      have e3 := w3.2.1.2.1 p hpl j (by omega)
      have hb := psS_b hA u p j (n := 40) (by omega)
      rw [nI_clamp (n := j) (by omega)]
      have e4 : (-(D3.2 (ad (40 + p)) j)).toInt = -psS A u p j 40 := by rw [L_neg (by rw [e3]; omega), e3]
      have tj := ((ht j hj).fr H (ok60 (by omega)) fE (fun w => by unfold pQ pT bg at w; omega) (fun w => by unfold pQ pT bg at w; omega)).fr H (ok60 (by omega)) F3 (fun w => by unfold pT bg at w; omega) (fun w => by unfold pT bg at w; omega)
      refine addTimesR H (ok60 (by omega)) t3 (by omega) tj (by rw [e4]; omega) (by rw [e4]; omega) (fun D4 f4 t4 => ?_)
      rw [nI_1]
      refine hk2 D4 ⟨F3.tr f4, ?_⟩
      rw [e4] at t4
      have e : zz (Dq A u (nU A)) * psS A u p (nU A) 40 - plS A u p j + -psS A u p j 40 * zz (Tq A u (plc A + j)) = zz (Dq A u (nU A)) * psS A u p (nU A) 40 - plS A u p (j + 1) := by
        show _ = _ - (plS A u p j + zz (Tq A u (plc A + j)) * psS A u p j 40)
        rw [Int.neg_mul, Int.mul_comm (psS A u p j 40)]
        omega
      rw [e] at t4
      exact t4
    · have e : 0 + psS A u p (nU A) 40 * zz (Dq A u (nU A)) = zz (Dq A u (nU A)) * psS A u p (nU A) 40 - plS A u p 0 := by
        show _ = _ - 0
        rw [Int.mul_comm]; omega
      rw [e] at t2
      exact t2
/-- what a closed parting holds -/
def FdV (ad : Nat → Nat) (D : Dat) (A : AR) (u : Option Nat) : Prop := WgV ad D A u ∧ (∀ i, i < nU A → BigR ad D (60 + i) (zz (Tq A u (plc A + i)))) ∧ ∀ p, p < plc A → BigR ad D (70 + p) (zz (Tq A u p))
theorem FdV.fr (H : CS G ad ro) (hA : RowOK A) {D' : Dat} {P : Nat → Prop} (h : FdV ad D A u) (f : FrP ro D D' P) (hP : ∀ q, (q = 2 ∨ q = 12 ∨ (20 ≤ q ∧ q < 50) ∨ q = 206 ∨ q = 207 ∨ (220 ≤ q ∧ q < 360)) → ¬ P q) : FdV ad D' A u := by
  have h6 := nU_le hA
  have h7 := plc_b hA
  refine ⟨h.1.fr H hA f (fun q a => hP q (by omega)), fun i hi => (h.2.1 i hi).fr H (ok60 (by omega)) f (hP _ (by unfold bg; omega)) (hP _ (by unfold bg; omega)), fun p hp => (h.2.2 p hp).fr H (ok70 (by omega)) f (hP _ (by unfold bg; omega)) (hP _ (by unfold bg; omega))⟩
theorem find_sp (H : CS G ad ro) (hr : r < 4) (h : RowV ad D r A) (hA : RowOK A) (hu : uOK u) {post : Int32 → Dat → Prop} (k1 : ∀ D', FrP ro D D' pP → FdV ad D' A u → post 1 D') (k0 : ∀ D', FrP ro D D' pP → ¬ Pv A u (nU A) → post 0 D') : X2_find_wp G D (ad 2) (ad (rb r)) (uI u) post := by
  have h6 := nU_le hA
  have h7 := plc_b hA
  refine ⟨H.p_, H.row_ r hr, weigh_sp H hr h hA hu (fun D1 f1 w1 => ?_) (fun D1 f1 w1 => ?_)⟩
  · refine ⟨fun _ => ?_, fun q => absurd q (by decide)⟩
    refine findTops_sp H hA w1 (fun D2 f2 t2 => ?_)
    have w2 : WgV ad D2 A u := w1.fr H hA f2 (fun q a b => by unfold pO pT at b; omega)
    refine findPlaceTops_sp H hA w2 t2 (fun D3 f3 t3 => ⟨isB_1, k1 D3 ((f1.tr (f2.up (fun q => pO_pP))).tr (f3.up (fun q => pQ_pP))) ⟨?_, fun i hi => ?_, t3⟩⟩)
    · exact w2.fr H hA f3 (fun q a b => by unfold pQ pT at b; omega)
    · exact (t2 i hi).fr H (ok60 (by omega)) f3 (fun w => by unfold pQ pT bg at w; omega) (fun w => by unfold pQ pT bg at w; omega)
  · exact ⟨fun q => absurd rfl q, fun _ => ⟨isB_0, k0 D1 f1 w1⟩⟩
end FD
