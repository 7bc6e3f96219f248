/-! Parting: weigh -/
def pP (q : Nat) : Prop := q = 2 ∨ q = 6 ∨ q = 8 ∨ q = 12 ∨ (20 ≤ q ∧ q < 50) ∨ (206 ≤ q ∧ q < 210) ∨ (220 ≤ q ∧ q < 360)
theorem pC_pP {q : Nat} (h : pC q) : pP q := by unfold pC at h; unfold pP; omega
theorem pA_pP {q : Nat} (h : pA q) : pP q := by unfold pA at h; unfold pP; omega
theorem pE2_pP {q : Nat} (h : pE2 q) : pP q := by unfold pE2 pT at h; unfold pP; omega
theorem pcell_pP {q : Nat} (h : 220 ≤ q ∧ q < 318) : pP q := by unfold pP; omega
section WG2
variable {G : Shp} {ad ro : Nat → Nat} {D : Dat} {r : Nat} {A : AR} {u : Option Nat}
theorem SumV.fr (H : CS G ad ro) (hA : RowOK A) {D' : Dat} {P : Nat → Prop} {n : Nat} (h : SumV ad D A u n) (f : FrP ro D D' P) (hP : ∀ q, pA q → ¬ P q) : SumV ad D' A u n := by
  have h6 := nU_le hA
  have h7 := plc_b hA
  refine ⟨fun p hp => ?_, fun p hp i hi => ?_, fun i j hij hj => ?_⟩
  · rw [f.l H (by omega) (hP 12 (by unfold pA; omega))]; exact h.1 p hp
  · rw [f.l H (by omega) (hP (40 + p) (by unfold pA; omega))]; exact h.2.1 p hp i hi
  · rw [f.l H (by omega) (hP (30 + i) (by unfold pA; omega))]; exact h.2.2 i j hij hj
theorem CellV.fr (H : CS G ad ro) (hA : RowOK A) {D' : Dat} {P : Nat → Prop} {s : Nat} (h : CellV ad D A u s) (f : FrP ro D D' P) (hP : ∀ q, 220 ≤ q → q < 318 → ¬ P q) : CellV ad D' A u s := by
  have h6 := nU_le hA
  intro i j hij hj
  exact (h i j hij hj).fr H (cb_ok (by omega) (by omega)) f (hP _ (by unfold bg cb; omega) (by unfold bg cb; omega)) (hP _ (by unfold bg cb; omega) (by unfold bg cb; omega))
/-- what a closed parting holds, ahead of the tops -/
def WgV (ad : Nat → Nat) (D : Dat) (A : AR) (u : Option Nat) : Prop := PnV ad D A u ∧ SumV ad D A u 40 ∧ Pv A u (nU A) ∧ CellV ad D A u (nU A) ∧ BigR ad D 3 (zz (Dq A u (nU A)))
theorem weigh_sp (H : CS G ad ro) (hr : r < 4) (h : RowV ad D r A) (hA : RowOK A) (hu : uOK u) {post : Int32 → Dat → Prop} (k1 : ∀ D', FrP ro D D' pP → WgV ad D' A u → post 1 D') (k0 : ∀ D', FrP ro D D' pP → ¬ Pv A u (nU A) → post 0 D') : X2_weigh_wp G D (ad 2) (ad (rb r)) (uI u) post := by
  have h6 := nU_le hA
  have h7 := plc_b hA
  have hR : ∀ q, pR r q → ¬ pC q := fun q a b => by unfold pR rb at a; unfold pC at b; omega
  refine ⟨H.p_, H.row_ r hr, _, H.p4_, H.pc_, _, H.p8_, (H.big_ 3 (by unfold okb; omega)).1, ?_⟩
  refine layModel_sp H hr h hA (fun D1 m1 f1 => ?_)
  refine layNumbers_sp H hr (h.fr H hr f1 hR) hA hu m1 (fun D2 n2 f2 => ?_)
  refine addUp_sp H hr ((h.fr H hr f1 hR).fr H hr f2 hR) hA n2 (fun D3 n3 s3 f3 => ?_)
  have F3 : FrP ro D D3 pP := ((f1.up (fun q => pC_pP)).tr (f2.up (fun q => pC_pP))).tr (f3.up (fun q => pA_pP))
  have g10 : D3.1 (ad 2) 10 = nI (plc A) := n3.1.2.1
  have key := up_loop (L := fun m p (v : Int64) => X2_weigh_l21 G post (ad 2) (ad (rb r)) (uI u) (ad 12) (ad (bg 3)) m v (nI p) D3) (plc A) (fun p v => v.toInt = pbS A p) ?_ ?_ 0 1 (by omega) (by rfl)
  · exact ⟨_, key⟩
  · intro m v hv
    show X2_weigh_l21_b G post (ad 2) (ad (rb r)) (uI u) (ad 12) (ad (bg 3)) _ _ _ _
    refine ⟨fun _ => ?_, fun q => absurd (by rw [g10]; exact nI_le (Nat.le_refl _) (by omega)) q⟩
    refine takeOut_sp H hA n3 s3 hv (fun D4 f4 b4 => ?_)
    have hb := pb_b hA (Nat.le_refl (plc A))
    have n4 : PnV ad D4 A u := n3.fr H hA f4 (fun q a b => by unfold pC at a; omega)
    have s4 : SumV ad D4 A u 40 := s3.fr H hA f4 (fun q a b => by unfold pA at a; omega)
    have F4 : FrP ro D D4 pP := F3.tr (f4.up (fun q => pcell_pP))
    -- the end
    have fin : ∀ (w : Int64) (E : Dat), FrP ro D4 E pE2 → ((Pv A u (nU A) ∧ w.toInt = zz (Dq A u (nU A)) ∧ CellV ad E A u (nU A)) ∨ (w.toInt = 0 ∧ ¬ Pv A u (nU A))) → X2_weigh_j105 G post (ad 2) (ad (rb r)) (uI u) (ad 12) (ad (bg 3)) w E := by
      intro w E fE hw
      have o3 : okb 3 := by unfold okb; omega
      refine setToR H o3 ?_ (fun D5 f5 b5 => ?_)
      · rcases hw with hw | hw
        · rw [hw.2.1]; have := zD_pos hw.1; omega
        · rw [hw.1]; omega
      have F5 : FrP ro D D5 pP := (F4.tr (fE.up (fun q => pE2_pP))).tr (f5.up (fun q a => by unfold pB bg at a; unfold pP; omega))
      rcases hw with ⟨hp, hw, hc⟩ | ⟨hw, hp⟩
      · have w1 : ¬ w ≤ 0 := fun q => by
          have : w.toInt ≤ (0 : Int64).toInt := (L_le _ _).mp q
          have h2 := zD_pos hp
          have h3 : (0 : Int64).toInt = 0 := rfl
          omega
        refine ⟨fun q => absurd q w1, fun _ => ⟨isB_1, k1 D5 F5 ⟨?_, ?_, hp, ?_, ?_⟩⟩⟩
        · exact (n4.fr H hA fE (fun q a b => by unfold pC at a; unfold pE2 pT at b; omega)).fr H hA f5 (fun q a b => by unfold pC at a; unfold pB bg at b; omega)
        · exact (s4.fr H hA fE (fun q a b => by unfold pA at a; unfold pE2 pT at b; omega)).fr H hA f5 (fun q a b => by unfold pA at a; unfold pB bg at b; omega)
        · exact hc.fr H hA f5 (fun q a b c => by unfold pB bg at c; omega)
        · rw [hw] at b5; exact b5
      · have w1 : w ≤ 0 := (L_le _ _).mpr (by rw [hw]; decide)
        exact ⟨fun _ => ⟨isB_0, k0 D5 F5 hp⟩, fun q => absurd w1 q⟩
    have key := up_loop (L := fun m s (x : Int64 × Dat) => X2_weigh_l54 G post (ad 2) (ad (rb r)) (uI u) (ad 12) (ad (bg 3)) m x.1 (nI s) x.2) (nU A) (fun s x => FrP ro D4 x.2 pE2 ∧ ((Pv A u s ∧ x.1.toInt = zz (Dq A u s) ∧ CellV ad x.2 A u s) ∨ (x.1.toInt = 0 ∧ ¬ Pv A u (nU A)))) ?_ ?_ 0 (v, D4) (by omega) ⟨FrP.rf, ?_⟩
    · exact ⟨_, key⟩
    · intro m x hx
      obtain ⟨fE, hx⟩ := hx
      have g11 : x.2.1 (ad 2) 11 = nI (nU A) := by rw [fE.i H (by omega) (fun w => by unfold pE2 pT at w; omega)]; exact n4.1.1.1
      show X2_weigh_l54_b G post (ad 2) (ad (rb r)) (uI u) (ad 12) (ad (bg 3)) _ _ _ _
      exact ⟨fun _ => fin _ _ fE hx, fun q => absurd (by rw [g11]; exact nI_le (Nat.le_refl _) (by omega)) q⟩
    · intro m s x hs hx hk
      obtain ⟨fE, hx⟩ := hx
      obtain ⟨w, E⟩ := x
      dsimp only at fE hx
      have g11 : E.1 (ad 2) 11 = nI (nU A) := by rw [fE.i H (by omega) (fun w => by unfold pE2 pT at w; omega)]; exact n4.1.1.1
      show X2_weigh_l54_b G post (ad 2) (ad (rb r)) (uI u) (ad 12) (ad (bg 3)) _ w (nI s) E
      refine ⟨fun q => absurd q (by rw [g11]; exact nI_ge hs (by omega)), fun _ => ⟨fun q => ?_, fun q => ?_⟩⟩
      · refine fin _ _ fE (Or.inr ?_)
        rcases hx with ⟨hp, hw, hc⟩ | hx
        · exfalso
          have : w.toInt ≤ (0 : Int64).toInt := (L_le _ _).mp q
          have h2 := zD_pos hp
          have h3 : (0 : Int64).toInt = 0 := rfl
          omega
        · exact hx
      · rcases hx with ⟨hp, hw, hc⟩ | ⟨hw, _⟩
        rotate_left
        · exact absurd ((L_le _ _).mpr (by rw [hw]; decide)) q
        have os := cb_ok (i := s) (j := s) (by omega) (by omega)
        have hcell := hc s s (Nat.le_refl s) (by omega)
        rw [if_neg (by omega)] at hcell
        have hS := Sk_nn (C := Cq A u) (wq_W A) (plc A + s) (plc A + s)
        refine cell_sp H (by omega) (by omega) ⟨_, rfl, (H.big_ _ os).1, ?_⟩
        by_cases e : Sk (wq A) (Cq A u) (plc A + s) (plc A + s) (plc A + s) = 0
        · have hz : zz (Bq A u s s s) = 0 := zz_eq (by unfold Bq; rw [e, cast_0]; grind)
          rw [hz] at hcell
          refine toLongR H os hcell (by omega) (by omega) (fun p hp0 => ?_)
          have p0 : p ≤ 0 := (L_le _ _).mpr (by rw [hp0]; decide)
          refine ⟨fun _ => ?_, fun q => absurd p0 q⟩
          unfold X2_weigh_j96
          rw [nI_1]
          exact hk (p, E) ⟨fE, Or.inr ⟨hp0, fun w => w (plc A + s) (by omega) e⟩⟩
        · have hp1 : Pv A u (s + 1) := fun l hl => by
            by_cases el : l = plc A + s
            · rw [el]; exact e
            · exact hp l (by omega)
          have z1 := zD_pos hp1
          have z2 := zD_lt hA (by omega) hp1
          rw [Dq_succ] at z1 z2
          refine toLongR H os hcell (by omega) z2 (fun p hp0 => ?_)
          have p0 : ¬ p ≤ 0 := fun q => by
            have : p.toInt ≤ (0 : Int64).toInt := (L_le _ _).mp q
            have h3 : (0 : Int64).toInt = 0 := rfl
            omega
          refine ⟨fun q => absurd q p0, fun _ => ?_⟩
          refine eliminate_sp H hA g11 hs hp1 hc hw (fun D5 f5 c5 => ?_)
          unfold X2_weigh_j96
          rw [nI_1]
          exact hk (p, D5) ⟨fE.tr f5, Or.inl ⟨hp1, by rw [hp0, Dq_succ], c5⟩⟩
    · by_cases hz : pbS A (plc A) = 0
      · right
        refine ⟨by rw [hv]; exact hz, fun w => ?_⟩
        have hpos := piv_pos (A := A) (u := u) (fun l hl => w l (by omega))
        have h5 := (stage (u := u) hpos (Nat.le_refl (plc A))).2.2.2.2
        have h8 := Dk_pos (k := plc A) (wq_W A) (fun l hl => w l (by omega))
        rw [h5, hz] at h8
        exact absurd h8 (by decide)
      · left
        have hpos : ∀ p, p < plc A → pcS A p 40 ≠ 0 := fun p hp q => by
          obtain ⟨z, e⟩ := pb_dvd (A := A) hp
          rw [q] at e
          exact hz (by rw [e]; omega)
        have st := stage (u := u) hpos (Nat.le_refl (plc A))
        refine ⟨st.1, by rw [hv]; exact (zz_eq st.2.2.2.2).symm, fun i j hij hj => ?_⟩
        rw [if_neg (by omega), B0_eq hpos]
        exact b4 i j hij hj
  · intro m p v hp hv hk
    show X2_weigh_l21_b G post (ad 2) (ad (rb r)) (uI u) (ad 12) (ad (bg 3)) _ _ _ _
    refine ⟨fun q => absurd q (by rw [g10]; exact nI_ge hp (by omega)), fun _ => ⟨by rw [H.pcl_]; exact vp_in_nI (by omega) (by omega), ?_⟩⟩
    rw [nI_1, nI_clamp (by omega)]
    refine hk _ ?_
    have e := s3.1 p hp
    have b1 := pb_b hA (m := p + 1) (by omega)
    have b2 : pbS A (p + 1) = pbS A p * pcS A p 40 := rfl
    rw [L_mul (by rw [hv, e, ← b2]; omega) (by rw [hv, e, ← b2]; omega), hv, e, ← b2]
end WG2
