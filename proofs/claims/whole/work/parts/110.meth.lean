/-! X9_less -/
def X9_less_wp (G : Shp) (D : Dat) (v0 : Nat) (v1 : Int32) (v2 : Int32) (post : Int32 → Dat → Prop) : Prop := isO G v0 9 ∧ X9_turned_wp G D v0 v2 (fun r1 D2 => X9_sum_wp G D2 v0 v1 r1 (fun r3 D4 => post r3 D4))
set_option maxRecDepth 100000 in
set_option maxHeartbeats 4000000 in
theorem X9_less_ok (l : Launch) (G : Shp) (D : Dat) (v0 : Nat) (v1 : Int32) (v2 : Int32) (post : Int32 → Dat → Prop) (hw : X9_less_wp G D v0 v1 v2 post) : CtI l yX9_less cX9_less 3 .int (rmN 3) [.ref v0, .int v1, .int v2] G D post := by
  obtain ⟨ho_v0, hw⟩ := hw
  refine ctI_of (by decide) rfl (Nat.le_of_ble_eq_true rfl) ?_
  intro κ hκ C K
  subst hκ
  have C : Cx κ cX9_less RX9 (rmN 3) 3 := C
  refine j_aload_n C dX9_less_0 rfl 0 rfl ?_
  refine j_iload_n C dX9_less_1 rfl 1 rfl ?_
  refine j_aload_n C dX9_less_2 rfl 0 rfl ?_
  refine j_iload_n C dX9_less_3 rfl 2 rfl ?_
  refine j_cVI (As := [.int v2]) (st := [.int v1, .ref v0]) C (X9_turned_ok κ.2.1 G D v0 v2 _ hw) ho_v0 rfl k_1006 mv_X9_turned ⟨by decide, by decide⟩ ⟨rfl, rfl⟩ rfl rfl (Nat.le_of_ble_eq_true rfl) ⟨Nat.zero_le _, Nat.zero_le _⟩ dX9_less_4 (fun r1 D2 hw => ?_)
  refine j_cVI (As := [.int v1, .int r1]) (st := []) C (X9_sum_ok κ.2.1 G D2 v0 v1 r1 _ hw) ho_v0 rfl k_1014 mv_X9_sum ⟨by decide, by decide⟩ ⟨rfl, rfl⟩ rfl rfl (Nat.le_of_ble_eq_true rfl) ⟨Nat.zero_le _, Nat.zero_le _⟩ dX9_less_7 (fun r3 D4 hw => ?_)
  exact K _ _ _ _ dX9_less_10 rfl hw
/-! X2_foretold -/
def X2_foretold_wp (G : Shp) (D : Dat) (v0 : Nat) (v1 : Int32) (v2 : Nat) (post : Dat → Prop) : Prop := isO G v0 2 ∧ isO G v2 0 ∧ ∃ g1, G.2.2.2 v0 0 = some g1 ∧ isO G g1 6 ∧ X6_clear_wp G D g1 (fun D2 => X2_addAllParts_wp G D2 v0 v1 1 (fun D4 => X6_settle_wp G D4 g1 v2 (fun D6 => post D6)))
set_option maxRecDepth 100000 in
set_option maxHeartbeats 4000000 in
theorem X2_foretold_ok (l : Launch) (G : Shp) (D : Dat) (v0 : Nat) (v1 : Int32) (v2 : Nat) (post : Dat → Prop) (hw : X2_foretold_wp G D v0 v1 v2 post) : CtV l yX2_foretold cX2_foretold 3 (rmN 4) [.ref v0, .int v1, .ref v2] G D post := by
  obtain ⟨ho_v0, ho_v2, g1, hr_g1, ho_g1, hw⟩ := hw
  refine ctV_of (by decide) rfl (Nat.le_of_ble_eq_true rfl) ?_
  intro κ hκ C K
  subst hκ
  have C : Cx κ cX2_foretold RX2 (rmN 4) 3 := C
  refine j_aload_n C dX2_foretold_0 rfl 0 rfl ?_
  refine gf_2_0 C ho_v0 hr_g1 k_146 dX2_foretold_1 ?_
  refine j_cVV (As := []) (st := []) C (X6_clear_ok κ.2.1 G D g1 _ hw) ho_g1 rfl k_493 mv_X6_clear ⟨by decide, by decide⟩ ⟨rfl, rfl⟩ rfl rfl (Nat.le_of_ble_eq_true rfl) ⟨Nat.zero_le _, Nat.zero_le _⟩ dX2_foretold_4 (fun D2 hw => ?_)
  refine j_aload_n C dX2_foretold_7 rfl 0 rfl ?_
  refine j_iload_n C dX2_foretold_8 rfl 1 rfl ?_
  refine j_lconst (v := 1) C dX2_foretold_9 (by decide) ?_
  refine j_cVV (As := [.int v1, .long 1]) (st := []) C (X2_addAllParts_ok κ.2.1 G D2 v0 v1 1 _ hw) ho_v0 rfl k_663 mv_X2_addAllParts ⟨by decide, by decide⟩ ⟨rfl, rfl⟩ rfl rfl (Nat.le_of_ble_eq_true rfl) ⟨Nat.zero_le _, Nat.zero_le _⟩ dX2_foretold_10 (fun D4 hw => ?_)
  refine j_aload_n C dX2_foretold_13 rfl 0 rfl ?_
  refine gf_2_0 C ho_v0 hr_g1 k_146 dX2_foretold_14 ?_
  refine j_aload_n C dX2_foretold_17 rfl 2 rfl ?_
  refine j_cVV (As := [.ref v2]) (st := []) C (X6_settle_ok κ.2.1 G D4 g1 v2 _ hw) ho_g1 rfl k_503 mv_X6_settle ⟨by decide, by decide⟩ ⟨rfl, rfl⟩ rfl rfl (Nat.le_of_ble_eq_true rfl) ⟨Nat.zero_le _, Nat.zero_le _⟩ dX2_foretold_18 (fun D6 hw => ?_)
  exact K _ _ _ dX2_foretold_21 hw
/-! X2_leftOver -/
def X2_leftOver_j44 (G : Shp) (post : Dat → Prop) (v0 : Nat) (v1 : Int32) (v2 : Nat) (g1 : Nat) (g2 : Nat) (g3 : Nat) (D : Dat) : Prop := X6_settle_wp G D g1 v2 (fun D2 => post D2)
set_option maxRecDepth 100000 in
set_option maxHeartbeats 4000000 in
theorem X2_leftOver_j44_ok {κ : Ctx} {G : Shp} {post : Dat → Prop} {v0 : Nat} {v1 : Int32} {v2 : Nat} {g1 : Nat} {g2 : Nat} {g3 : Nat} (C : Cx κ cX2_leftOver RX2 (rmN 4) 3) (K : RtV κ cX2_leftOver G post) (ho_v0 : isO G v0 2) (ho_v2 : isO G v2 0) (hr_g1 : G.2.2.2 v0 0 = some g1) (ho_g1 : isO G g1 6) (hr_g2 : G.2.2.2 v0 8 = some g2) (ho_g2 : isO G g2 0) (hr_g3 : G.2.2.2 v0 1 = some g3) (ho_g3 : isO G g3 17) (D : Dat) (hw : X2_leftOver_j44 G post v0 v1 v2 g1 g2 g3 D) : J κ 0 0 G D 44 [(0, .ref v0), (2, .ref v2)] [] := by
  unfold X2_leftOver_j44 at hw
  refine j_aload_n C dX2_leftOver_44 rfl 0 rfl ?_
  refine gf_2_0 C ho_v0 hr_g1 k_146 dX2_leftOver_45 ?_
  refine j_aload_n C dX2_leftOver_48 rfl 1 rfl ?_
  refine j_cVV (As := [.ref v2]) (st := []) C (X6_settle_ok κ.2.1 G D g1 v2 _ hw) ho_g1 rfl k_503 mv_X6_settle ⟨by decide, by decide⟩ ⟨rfl, rfl⟩ rfl rfl (Nat.le_of_ble_eq_true rfl) ⟨Nat.zero_le _, Nat.zero_le _⟩ dX2_leftOver_49 (fun D2 hw => ?_)
  exact K _ _ _ dX2_leftOver_52 hw
def X2_leftOver_wp (G : Shp) (D : Dat) (v0 : Nat) (v1 : Int32) (v2 : Nat) (post : Dat → Prop) : Prop := isO G v0 2 ∧ isO G v2 0 ∧ ∃ g1, G.2.2.2 v0 0 = some g1 ∧ isO G g1 6 ∧ ∃ g2, G.2.2.2 v0 8 = some g2 ∧ isO G g2 0 ∧ ∃ g3, G.2.2.2 v0 1 = some g3 ∧ isO G g3 17 ∧ X6_clear_wp G D g1 (fun D2 => X8_isTick_wp G D2 v1 (fun r3 D4 => ((r3 = 0 → X2_leftOver_j44 G post v0 v1 v2 g1 g2 g3 D4) ∧ (¬ (r3 = 0) → (vp_in (D4.1 v0 11) (G.2.2.1 g3) ∧ ∃ y6, G.2.2.2 g3 (D4.1 v0 11).toNatClampNeg = some y6 ∧ isO G y6 12 ∧ vp_in v1 (G.2.2.1 y6) ∧ X6_addTimes_wp G D4 g1 g2 (D4.2 y6 v1.toNatClampNeg) (fun D11 => X2_addAllParts_wp G D11 v0 v1 (-1) (fun D13 => X2_leftOver_j44 G post v0 v1 v2 g1 g2 g3 D13)))))))
set_option maxRecDepth 100000 in
set_option maxHeartbeats 4000000 in
theorem X2_leftOver_ok (l : Launch) (G : Shp) (D : Dat) (v0 : Nat) (v1 : Int32) (v2 : Nat) (post : Dat → Prop) (hw : X2_leftOver_wp G D v0 v1 v2 post) : CtV l yX2_leftOver cX2_leftOver 3 (rmN 4) [.ref v0, .int v1, .ref v2] G D post := by
  obtain ⟨ho_v0, ho_v2, g1, hr_g1, ho_g1, g2, hr_g2, ho_g2, g3, hr_g3, ho_g3, hw⟩ := hw
  refine ctV_of (by decide) rfl (Nat.le_of_ble_eq_true rfl) ?_
  intro κ hκ C K
  subst hκ
  have C : Cx κ cX2_leftOver RX2 (rmN 4) 3 := C
  refine j_aload_n C dX2_leftOver_0 rfl 0 rfl ?_
  refine gf_2_0 C ho_v0 hr_g1 k_146 dX2_leftOver_1 ?_
  refine j_cVV (As := []) (st := []) C (X6_clear_ok κ.2.1 G D g1 _ hw) ho_g1 rfl k_493 mv_X6_clear ⟨by decide, by decide⟩ ⟨rfl, rfl⟩ rfl rfl (Nat.le_of_ble_eq_true rfl) ⟨Nat.zero_le _, Nat.zero_le _⟩ dX2_leftOver_4 (fun D2 hw => ?_)
  refine j_iload_n C dX2_leftOver_7 rfl 1 rfl ?_
  refine j_cNI (As := [.int v1]) (st := []) C (X8_isTick_ok κ.2.1 G D2 v1 _ hw) nw_675 ms_X8_isTick ⟨by decide, by decide⟩ ⟨rfl, rfl⟩ rfl rfl (Nat.le_of_ble_eq_true rfl) ⟨Nat.zero_le _, Nat.zero_le _⟩ dX2_leftOver_8 (fun r3 D4 hw => ?_)
  refine j_if_eq (tgt := 44) C dX2_leftOver_11 (by decide) (fun hc => ?_) (fun hc => ?_)
  · have hw := hw.1 hc
    exact J.sub (X2_leftOver_j44_ok C K ho_v0 ho_v2 hr_g1 ho_g1 hr_g2 ho_g2 hr_g3 ho_g3 D4 hw) [0, 2] rfl
  · have hw := hw.2 hc
    refine j_aload_n C dX2_leftOver_14 rfl 0 rfl ?_
    refine gf_2_0 C ho_v0 hr_g1 k_146 dX2_leftOver_15 ?_
    refine j_aload_n C dX2_leftOver_18 rfl 0 rfl ?_
    refine gf_2_8 C ho_v0 hr_g2 k_154 dX2_leftOver_19 ?_
    refine j_aload_n C dX2_leftOver_22 rfl 0 rfl ?_
    refine gf_2_1 C ho_v0 hr_g3 k_147 dX2_leftOver_23 ?_
    refine j_aload_n C dX2_leftOver_26 rfl 0 rfl ?_
    refine gf_2_11 C ho_v0 k_159 dX2_leftOver_27 ?_
    obtain ⟨hi5, hw⟩ := hw
    obtain ⟨y6, hr7, ho8, hw⟩ := hw
    refine j_aaldJ C ho_g3 hi5 hr7 dX2_leftOver_30 ?_
    refine j_iload_n C dX2_leftOver_31 rfl 1 rfl ?_
    obtain ⟨hi9, hw⟩ := hw
    refine j_lald C ho8 hi9 dX2_leftOver_32 ?_
    refine j_cVV (As := [.ref g2, .long (D4.2 y6 v1.toNatClampNeg)]) (st := []) C (X6_addTimes_ok κ.2.1 G D4 g1 g2 (D4.2 y6 v1.toNatClampNeg) _ hw) ho_g1 rfl k_534 mv_X6_addTimes ⟨by decide, by decide⟩ ⟨rfl, rfl⟩ rfl rfl (Nat.le_of_ble_eq_true rfl) ⟨Nat.zero_le _, Nat.zero_le _⟩ dX2_leftOver_33 (fun D11 hw => ?_)
    refine j_aload_n C dX2_leftOver_36 rfl 0 rfl ?_
    refine j_iload_n C dX2_leftOver_37 rfl 1 rfl ?_
    refine j_ldc2 (v := (-1)) C k_637 dX2_leftOver_38 ?_
    refine j_cVV (As := [.int v1, .long (-1)]) (st := []) C (X2_addAllParts_ok κ.2.1 G D11 v0 v1 (-1) _ hw) ho_v0 rfl k_663 mv_X2_addAllParts ⟨by decide, by decide⟩ ⟨rfl, rfl⟩ rfl rfl (Nat.le_of_ble_eq_true rfl) ⟨Nat.zero_le _, Nat.zero_le _⟩ dX2_leftOver_41 (fun D13 hw => ?_)
    exact J.sub (X2_leftOver_j44_ok C K ho_v0 ho_v2 hr_g1 ho_g1 hr_g2 ho_g2 hr_g3 ho_g3 D13 hw) [0, 2] rfl
/-! X2_weigh -/
def X2_weigh_j124 (G : Shp) (post : Int32 → Dat → Prop) (v0 : Nat) (v1 : Nat) (v2 : Int32) (g1 : Nat) (g2 : Nat) (s0 : Int32) (D : Dat) : Prop := (isB s0 ∧ post s0 D)
set_option maxRecDepth 100000 in
set_option maxHeartbeats 4000000 in
theorem X2_weigh_j124_ok {κ : Ctx} {G : Shp} {post : Int32 → Dat → Prop} {v0 : Nat} {v1 : Nat} {v2 : Int32} {g1 : Nat} {g2 : Nat} (C : Cx κ cX2_weigh RX2 (rmN 4) 8) (K : RtI κ cX2_weigh .boolean G post) (ho_v0 : isO G v0 2) (ho_v1 : isO G v1 3) (hr_g1 : G.2.2.2 v0 4 = some g1) (ho_g1 : isO G g1 12) (hr_g2 : G.2.2.2 v0 8 = some g2) (ho_g2 : isO G g2 0) (s0 : Int32) (D : Dat) (hw : X2_weigh_j124 G post v0 v1 v2 g1 g2 s0 D) : J κ 0 0 G D 124 [] [.int s0] := by
  unfold X2_weigh_j124 at hw
  obtain ⟨hb1, hw⟩ := hw
  exact K _ _ _ _ dX2_weigh_124 (isB_n hb1) hw
def X2_weigh_j105 (G : Shp) (post : Int32 → Dat → Prop) (v0 : Nat) (v1 : Nat) (v2 : Int32) (g1 : Nat) (g2 : Nat) (v3 : Int64) (D : Dat) : Prop := X0_setTo_wp G D g2 v3 (fun D2 => ((v3 ≤ 0 → X2_weigh_j124 G post v0 v1 v2 g1 g2 0 D2) ∧ (¬ (v3 ≤ 0) → X2_weigh_j124 G post v0 v1 v2 g1 g2 1 D2)))
set_option maxRecDepth 100000 in
set_option maxHeartbeats 4000000 in
theorem X2_weigh_j105_ok {κ : Ctx} {G : Shp} {post : Int32 → Dat → Prop} {v0 : Nat} {v1 : Nat} {v2 : Int32} {g1 : Nat} {g2 : Nat} (C : Cx κ cX2_weigh RX2 (rmN 4) 8) (K : RtI κ cX2_weigh .boolean G post) (ho_v0 : isO G v0 2) (ho_v1 : isO G v1 3) (hr_g1 : G.2.2.2 v0 4 = some g1) (ho_g1 : isO G g1 12) (hr_g2 : G.2.2.2 v0 8 = some g2) (ho_g2 : isO G g2 0) (v3 : Int64) (D : Dat) (hw : X2_weigh_j105 G post v0 v1 v2 g1 g2 v3 D) : J κ 0 0 G D 105 [(0, .ref v0), (3, .long v3)] [] := by
  unfold X2_weigh_j105 at hw
  refine j_aload_n C dX2_weigh_105 rfl 0 rfl ?_
  refine gf_2_8 C ho_v0 hr_g2 k_154 dX2_weigh_106 ?_
  refine j_lload_n C dX2_weigh_109 rfl 1 rfl ?_
  refine j_cVV (As := [.long v3]) (st := []) C (X0_setTo_ok κ.2.1 G D g2 v3 _ hw) ho_g2 rfl k_477 mv_X0_setTo ⟨by decide, by decide⟩ ⟨rfl, rfl⟩ rfl rfl (Nat.le_of_ble_eq_true rfl) ⟨Nat.zero_le _, Nat.zero_le _⟩ dX2_weigh_110 (fun D2 hw => ?_)
  refine j_lload_n C dX2_weigh_113 rfl 1 rfl ?_
  refine j_lconst (v := 0) C dX2_weigh_114 (by decide) ?_
  refine j_lcmp_le (tgt := 123) C dX2_weigh_115 dX2_weigh_116 (by decide) (fun hc => ?_) (fun hc => ?_)
  · have hw := hw.1 hc
    refine j_iconst (v := 0) C dX2_weigh_123 (by decide) ?_
    exact J.sub (X2_weigh_j124_ok C K ho_v0 ho_v1 hr_g1 ho_g1 hr_g2 ho_g2 0 D2 hw) [] rfl
  · have hw := hw.2 hc
    refine j_iconst (v := 1) C dX2_weigh_119 (by decide) ?_
    refine j_goto (tgt := 124) C dX2_weigh_120 (by decide) ?_
    exact J.sub (X2_weigh_j124_ok C K ho_v0 ho_v1 hr_g1 ho_g1 hr_g2 ho_g2 1 D2 hw) [] rfl
def X2_weigh_j96 (G : Shp) (post : Int32 → Dat → Prop) (v0 : Nat) (v1 : Nat) (v2 : Int32) (g1 : Nat) (g2 : Nat) (k54 : Int64 → Int32 → Dat → Prop) (v5 : Int32) (v6 : Int64) (D : Dat) : Prop := k54 v6 (v5 + 1) D
set_option maxRecDepth 100000 in
set_option maxHeartbeats 4000000 in
theorem X2_weigh_j96_ok {κ : Ctx} {G : Shp} {post : Int32 → Dat → Prop} {v0 : Nat} {v1 : Nat} {v2 : Int32} {g1 : Nat} {g2 : Nat} (C : Cx κ cX2_weigh RX2 (rmN 4) 8) (K : RtI κ cX2_weigh .boolean G post) (ho_v0 : isO G v0 2) (ho_v1 : isO G v1 3) (hr_g1 : G.2.2.2 v0 4 = some g1) (ho_g1 : isO G g1 12) (hr_g2 : G.2.2.2 v0 8 = some g2) (ho_g2 : isO G g2 0) {k54 : Int64 → Int32 → Dat → Prop} (hk54 : ∀ (v3 : Int64) (v5 : Int32) (D : Dat), k54 v3 v5 D → J κ 0 0 G D 54 [(0, .ref v0), (3, .long v3), (5, .int v5)] []) (v5 : Int32) (v6 : Int64) (D : Dat) (hw : X2_weigh_j96 G post v0 v1 v2 g1 g2 k54 v5 v6 D) : J κ 0 0 G D 96 [(0, .ref v0), (5, .int v5), (6, .long v6)] [] := by
  unfold X2_weigh_j96 at hw
  refine j_lload C dX2_weigh_96 2 rfl ?_
  refine j_lstore_n C dX2_weigh_98 rfl (by decide) rfl ?_
  refine j_iinc (v := v5 + 1) C dX2_weigh_99 2 rfl rfl (by decide) rfl ?_
  refine j_goto (tgt := 54) C dX2_weigh_102 (by decide) ?_
  exact J.sub (hk54 v6 (v5 + 1) D hw) [2, 1, 0] rfl
def X2_weigh_l54_b (G : Shp) (post : Int32 → Dat → Prop) (v0 : Nat) (v1 : Nat) (v2 : Int32) (g1 : Nat) (g2 : Nat) (rec : Int64 → Int32 → Dat → Prop) (v3 : Int64) (v5 : Int32) (D : Dat) : Prop := (((D.1 v0 11) ≤ v5 → X2_weigh_j105 G post v0 v1 v2 g1 g2 v3 D) ∧ (¬ ((D.1 v0 11) ≤ v5) → ((v3 ≤ 0 → X2_weigh_j105 G post v0 v1 v2 g1 g2 v3 D) ∧ (¬ (v3 ≤ 0) → X2_cell_wp G D v0 v5 v5 (fun r1 D2 => ∃ y3, r1 = some y3 ∧ (isO G y3 0 ∧ X0_toLong_wp G D2 y3 (fun r5 D6 => ((r5 ≤ 0 → X2_weigh_j96 G post v0 v1 v2 g1 g2 rec v5 r5 D6) ∧ (¬ (r5 ≤ 0) → X2_eliminate_wp G D6 v0 v5 v3 (fun D8 => X2_weigh_j96 G post v0 v1 v2 g1 g2 rec v5 r5 D8))))))))))
def X2_weigh_l54 (G : Shp) (post : Int32 → Dat → Prop) (v0 : Nat) (v1 : Nat) (v2 : Int32) (g1 : Nat) (g2 : Nat) : Nat → Int64 → Int32 → Dat → Prop
  | 0 => fun _ _ _ => False
  | n + 1 => X2_weigh_l54_b G post v0 v1 v2 g1 g2 (X2_weigh_l54 G post v0 v1 v2 g1 g2 n)
set_option maxRecDepth 100000 in
set_option maxHeartbeats 4000000 in
theorem X2_weigh_l54_ok {κ : Ctx} {G : Shp} {post : Int32 → Dat → Prop} {v0 : Nat} {v1 : Nat} {v2 : Int32} {g1 : Nat} {g2 : Nat} (C : Cx κ cX2_weigh RX2 (rmN 4) 8) (K : RtI κ cX2_weigh .boolean G post) (ho_v0 : isO G v0 2) (ho_v1 : isO G v1 3) (hr_g1 : G.2.2.2 v0 4 = some g1) (ho_g1 : isO G g1 12) (hr_g2 : G.2.2.2 v0 8 = some g2) (ho_g2 : isO G g2 0) : ∀ (n : Nat) (v3 : Int64) (v5 : Int32) (D : Dat), X2_weigh_l54 G post v0 v1 v2 g1 g2 n v3 v5 D → J κ 0 0 G D 54 [(0, .ref v0), (3, .long v3), (5, .int v5)] [] := by
  intro n
  induction n with
  | zero => intro v3 v5 D hw; exact hw.elim
  | succ n ih =>
    intro v3 v5 D hw
    have hw : X2_weigh_l54_b G post v0 v1 v2 g1 g2 (X2_weigh_l54 G post v0 v1 v2 g1 g2 n) v3 v5 D := hw
    unfold X2_weigh_l54_b at hw
    refine j_iload C dX2_weigh_54 2 rfl ?_
    refine j_aload_n C dX2_weigh_56 rfl 0 rfl ?_
    refine gf_2_11 C ho_v0 k_159 dX2_weigh_57 ?_
    refine j_icmp_ge (tgt := 105) C dX2_weigh_60 (by decide) (fun hc => ?_) (fun hc => ?_)
    · have hw := hw.1 hc
      exact J.sub (X2_weigh_j105_ok C K ho_v0 ho_v1 hr_g1 ho_g1 hr_g2 ho_g2 v3 D hw) [0, 1] rfl
    · have hw := hw.2 hc
      refine j_lload_n C dX2_weigh_63 rfl 1 rfl ?_
      refine j_lconst (v := 0) C dX2_weigh_64 (by decide) ?_
      refine j_lcmp_le (tgt := 105) C dX2_weigh_65 dX2_weigh_66 (by decide) (fun hc => ?_) (fun hc => ?_)
      · have hw := hw.1 hc
        exact J.sub (X2_weigh_j105_ok C K ho_v0 ho_v1 hr_g1 ho_g1 hr_g2 ho_g2 v3 D hw) [0, 1] rfl
      · have hw := hw.2 hc
        refine j_aload_n C dX2_weigh_69 rfl 0 rfl ?_
        refine j_iload C dX2_weigh_70 2 rfl ?_
        refine j_iload C dX2_weigh_72 2 rfl ?_
        refine j_cVQ (As := [.int v5, .int v5]) (st := []) C (X2_cell_ok κ.2.1 G D v0 v5 v5 _ hw) ho_v0 rfl k_473 mv_X2_cell ⟨by decide, by decide⟩ ⟨rfl, rfl⟩ rfl rfl (Nat.le_of_ble_eq_true rfl) ⟨Nat.zero_le _, Nat.zero_le _⟩ dX2_weigh_74 (fun r1 D2 hw => ?_)
        obtain ⟨y3, rfl, hw⟩ := hw
        show J κ 0 0 G D2 77 [(0, .ref v0), (3, .long v3), (5, .int v5)] [.ref y3]
        obtain ⟨ho4, hw⟩ := hw
        refine j_cVL (As := []) (st := []) C (X0_toLong_ok κ.2.1 G D2 y3 _ hw) ho4 rfl k_485 mv_X0_toLong ⟨by decide, by decide⟩ ⟨rfl, rfl⟩ rfl rfl (Nat.le_of_ble_eq_true rfl) ⟨Nat.zero_le _, Nat.zero_le _⟩ dX2_weigh_77 (fun r5 D6 hw => ?_)
        refine j_lstore C dX2_weigh_80 (by decide) rfl ?_
        refine j_lload C dX2_weigh_82 0 rfl ?_
        refine j_lconst (v := 0) C dX2_weigh_84 (by decide) ?_
        refine j_lcmp_le (tgt := 96) C dX2_weigh_85 dX2_weigh_86 (by decide) (fun hc => ?_) (fun hc => ?_)
        · have hw := hw.1 hc
          exact J.sub (X2_weigh_j96_ok C K ho_v0 ho_v1 hr_g1 ho_g1 hr_g2 ho_g2 ih v5 r5 D6 hw) [1, 3, 0] rfl
        · have hw := hw.2 hc
          refine j_aload_n C dX2_weigh_89 rfl 1 rfl ?_
          refine j_iload C dX2_weigh_90 3 rfl ?_
          refine j_lload_n C dX2_weigh_92 rfl 2 rfl ?_
          refine j_cVV (As := [.int v5, .long v3]) (st := []) C (X2_eliminate_ok κ.2.1 G D6 v0 v5 v3 _ hw) ho_v0 rfl k_489 mv_X2_eliminate ⟨by decide, by decide⟩ ⟨rfl, rfl⟩ rfl rfl (Nat.le_of_ble_eq_true rfl) ⟨Nat.zero_le _, Nat.zero_le _⟩ dX2_weigh_93 (fun D8 hw => ?_)
          exact J.sub (X2_weigh_j96_ok C K ho_v0 ho_v1 hr_g1 ho_g1 hr_g2 ho_g2 ih v5 r5 D8 hw) [1, 3, 0] rfl
def X2_weigh_l21_b (G : Shp) (post : Int32 → Dat → Prop) (v0 : Nat) (v1 : Nat) (v2 : Int32) (g1 : Nat) (g2 : Nat) (rec : Int64 → Int32 → Dat → Prop) (v3 : Int64) (v5 : Int32) (D : Dat) : Prop := (((D.1 v0 10) ≤ v5 → X2_takeOutPlaces_wp G D v0 v3 (fun D2 => ∃ n, X2_weigh_l54 G post v0 v1 v2 g1 g2 n v3 0 D2)) ∧ (¬ ((D.1 v0 10) ≤ v5) → (vp_in v5 (G.2.2.1 g1) ∧ rec (v3 * (D.2 g1 v5.toNatClampNeg)) (v5 + 1) D)))
def X2_weigh_l21 (G : Shp) (post : Int32 → Dat → Prop) (v0 : Nat) (v1 : Nat) (v2 : Int32) (g1 : Nat) (g2 : Nat) : Nat → Int64 → Int32 → Dat → Prop
  | 0 => fun _ _ _ => False
  | n + 1 => X2_weigh_l21_b G post v0 v1 v2 g1 g2 (X2_weigh_l21 G post v0 v1 v2 g1 g2 n)
set_option maxRecDepth 100000 in
set_option maxHeartbeats 4000000 in
theorem X2_weigh_l21_ok {κ : Ctx} {G : Shp} {post : Int32 → Dat → Prop} {v0 : Nat} {v1 : Nat} {v2 : Int32} {g1 : Nat} {g2 : Nat} (C : Cx κ cX2_weigh RX2 (rmN 4) 8) (K : RtI κ cX2_weigh .boolean G post) (ho_v0 : isO G v0 2) (ho_v1 : isO G v1 3) (hr_g1 : G.2.2.2 v0 4 = some g1) (ho_g1 : isO G g1 12) (hr_g2 : G.2.2.2 v0 8 = some g2) (ho_g2 : isO G g2 0) : ∀ (n : Nat) (v3 : Int64) (v5 : Int32) (D : Dat), X2_weigh_l21 G post v0 v1 v2 g1 g2 n v3 v5 D → J κ 0 0 G D 21 [(0, .ref v0), (3, .long v3), (5, .int v5)] [] := by
  intro n
  induction n with
  | zero => intro v3 v5 D hw; exact hw.elim
  | succ n ih =>
    intro v3 v5 D hw
    have hw : X2_weigh_l21_b G post v0 v1 v2 g1 g2 (X2_weigh_l21 G post v0 v1 v2 g1 g2 n) v3 v5 D := hw
    unfold X2_weigh_l21_b at hw
    refine j_iload C dX2_weigh_21 2 rfl ?_
    refine j_aload_n C dX2_weigh_23 rfl 0 rfl ?_
    refine gf_2_10 C ho_v0 k_157 dX2_weigh_24 ?_
    refine j_icmp_ge (tgt := 46) C dX2_weigh_27 (by decide) (fun hc => ?_) (fun hc => ?_)
    · have hw := hw.1 hc
      refine j_aload_n C dX2_weigh_46 rfl 0 rfl ?_
      refine j_lload_n C dX2_weigh_47 rfl 1 rfl ?_
      refine j_cVV (As := [.long v3]) (st := []) C (X2_takeOutPlaces_ok κ.2.1 G D v0 v3 _ hw) ho_v0 rfl k_469 mv_X2_takeOutPlaces ⟨by decide, by decide⟩ ⟨rfl, rfl⟩ rfl rfl (Nat.le_of_ble_eq_true rfl) ⟨Nat.zero_le _, Nat.zero_le _⟩ dX2_weigh_48 (fun D2 hw => ?_)
      refine j_iconst (v := 0) C dX2_weigh_51 (by decide) ?_
      refine j_istore C dX2_weigh_52 (by decide) rfl ?_
      obtain ⟨n, hw⟩ := hw
      exact J.sub (X2_weigh_l54_ok C K ho_v0 ho_v1 hr_g1 ho_g1 hr_g2 ho_g2 n v3 0 D2 hw) [1, 2, 0] rfl
    · have hw := hw.2 hc
      refine j_lload_n C dX2_weigh_30 rfl 1 rfl ?_
      refine j_aload_n C dX2_weigh_31 rfl 0 rfl ?_
      refine gf_2_4 C ho_v0 hr_g1 k_150 dX2_weigh_32 ?_
      refine j_iload C dX2_weigh_35 2 rfl ?_
      obtain ⟨hi3, hw⟩ := hw
      refine j_lald C ho_g1 hi3 dX2_weigh_37 ?_
      refine j_lmul C dX2_weigh_38 ?_
      refine j_lstore_n C dX2_weigh_39 rfl (by decide) rfl ?_
      refine j_iinc (v := v5 + 1) C dX2_weigh_40 2 rfl rfl (by decide) rfl ?_
      refine j_goto (tgt := 21) C dX2_weigh_43 (by decide) ?_
      exact J.sub (ih (v3 * (D.2 g1 v5.toNatClampNeg)) (v5 + 1) D hw) [2, 1, 0] rfl
def X2_weigh_wp (G : Shp) (D : Dat) (v0 : Nat) (v1 : Nat) (v2 : Int32) (post : Int32 → Dat → Prop) : Prop := isO G v0 2 ∧ isO G v1 3 ∧ ∃ g1, G.2.2.2 v0 4 = some g1 ∧ isO G g1 12 ∧ ∃ g2, G.2.2.2 v0 8 = some g2 ∧ isO G g2 0 ∧ X2_layModel_wp G D v0 v1 (fun D2 => X2_layNumbers_wp G D2 v0 v1 v2 (fun D4 => X2_addUp_wp G D4 v0 v1 (fun D6 => ∃ n, X2_weigh_l21 G post v0 v1 v2 g1 g2 n 1 0 D6)))
set_option maxRecDepth 100000 in
set_option maxHeartbeats 4000000 in
theorem X2_weigh_ok (l : Launch) (G : Shp) (D : Dat) (v0 : Nat) (v1 : Nat) (v2 : Int32) (post : Int32 → Dat → Prop) (hw : X2_weigh_wp G D v0 v1 v2 post) : CtI l yX2_weigh cX2_weigh 8 .boolean (rmN 4) [.ref v0, .ref v1, .int v2] G D post := by
  obtain ⟨ho_v0, ho_v1, g1, hr_g1, ho_g1, g2, hr_g2, ho_g2, hw⟩ := hw
  refine ctI_of (by decide) rfl (Nat.le_of_ble_eq_true rfl) ?_
  intro κ hκ C K
  subst hκ
  have C : Cx κ cX2_weigh RX2 (rmN 4) 8 := C
  refine j_aload_n C dX2_weigh_0 rfl 0 rfl ?_
  refine j_aload_n C dX2_weigh_1 rfl 1 rfl ?_
  refine j_cVV (As := [.ref v1]) (st := []) C (X2_layModel_ok κ.2.1 G D v0 v1 _ hw) ho_v0 rfl k_428 mv_X2_layModel ⟨by decide, by decide⟩ ⟨rfl, rfl⟩ rfl rfl (Nat.le_of_ble_eq_true rfl) ⟨Nat.zero_le _, Nat.zero_le _⟩ dX2_weigh_2 (fun D2 hw => ?_)
  refine j_aload_n C dX2_weigh_5 rfl 0 rfl ?_
  refine j_aload_n C dX2_weigh_6 rfl 1 rfl ?_
  refine j_iload_n C dX2_weigh_7 rfl 2 rfl ?_
  refine j_cVV (As := [.ref v1, .int v2]) (st := []) C (X2_layNumbers_ok κ.2.1 G D2 v0 v1 v2 _ hw) ho_v0 rfl k_449 mv_X2_layNumbers ⟨by decide, by decide⟩ ⟨rfl, rfl⟩ rfl rfl (Nat.le_of_ble_eq_true rfl) ⟨Nat.zero_le _, Nat.zero_le _⟩ dX2_weigh_8 (fun D4 hw => ?_)
  refine j_aload_n C dX2_weigh_11 rfl 0 rfl ?_
  refine j_aload_n C dX2_weigh_12 rfl 1 rfl ?_
  refine j_cVV (As := [.ref v1]) (st := []) C (X2_addUp_ok κ.2.1 G D4 v0 v1 _ hw) ho_v0 rfl k_453 mv_X2_addUp ⟨by decide, by decide⟩ ⟨rfl, rfl⟩ rfl rfl (Nat.le_of_ble_eq_true rfl) ⟨Nat.zero_le _, Nat.zero_le _⟩ dX2_weigh_13 (fun D6 hw => ?_)
  refine j_lconst (v := 1) C dX2_weigh_16 (by decide) ?_
  refine j_lstore_n C dX2_weigh_17 rfl (by decide) rfl ?_
  refine j_iconst (v := 0) C dX2_weigh_18 (by decide) ?_
  refine j_istore C dX2_weigh_19 (by decide) rfl ?_
  obtain ⟨n, hw⟩ := hw
  exact J.sub (X2_weigh_l21_ok C K ho_v0 ho_v1 hr_g1 ho_g1 hr_g2 ho_g2 n 1 0 D6 hw) [2, 1, 0] rfl
/-! X4_write -/
def X4_write_j47 (G : Shp) (post : Dat → Prop) (v0 : Nat) (v1 : Nat) (g1 : Nat) (g2 : Nat) (D : Dat) : Prop := post D
set_option maxRecDepth 100000 in
set_option maxHeartbeats 4000000 in
theorem X4_write_j47_ok {κ : Ctx} {G : Shp} {post : Dat → Prop} {v0 : Nat} {v1 : Nat} {g1 : Nat} {g2 : Nat} (C : Cx κ cX4_write RX4 (rmN 4) 3) (K : RtV κ cX4_write G post) (ho_v0 : isO G v0 4) (ho_v1 : isO G v1 1) (hr_g1 : G.2.2.2 v1 1 = some g1) (ho_g1 : isO G g1 0) (hr_g2 : G.2.2.2 v1 2 = some g2) (ho_g2 : isO G g2 0) (D : Dat) (hw : X4_write_j47 G post v0 v1 g1 g2 D) : J κ 0 0 G D 47 [] [] := by
  unfold X4_write_j47 at hw
  exact K _ _ _ dX4_write_47 hw
def X4_write_wp (G : Shp) (D : Dat) (v0 : Nat) (v1 : Nat) (post : Dat → Prop) : Prop := isO G v0 4 ∧ isO G v1 1 ∧ ∃ g1, G.2.2.2 v1 1 = some g1 ∧ isO G g1 0 ∧ ∃ g2, G.2.2.2 v1 2 = some g2 ∧ isO G g2 0 ∧ X4_writeDigits_wp G (dI D v0 1 256) v0 g2 (fun D2 => X4_writeByte_wp G D2 v0 47 (fun D4 => X4_writeDigits_wp G D4 v0 g1 (fun D6 => ((((dI D v0 1 256).1 g1 2) = 0 → X4_write_j47 G post v0 v1 g1 g2 D6) ∧ (¬ (((dI D v0 1 256).1 g1 2) = 0) → X4_writeByte_wp G D6 v0 45 (fun D8 => X4_write_j47 G post v0 v1 g1 g2 D8))))))
set_option maxRecDepth 100000 in
set_option maxHeartbeats 4000000 in
theorem X4_write_ok (l : Launch) (G : Shp) (D : Dat) (v0 : Nat) (v1 : Nat) (post : Dat → Prop) (hw : X4_write_wp G D v0 v1 post) : CtV l yX4_write cX4_write 3 (rmN 4) [.ref v0, .ref v1] G D post := by
  obtain ⟨ho_v0, ho_v1, g1, hr_g1, ho_g1, g2, hr_g2, ho_g2, hw⟩ := hw
  refine ctV_of (by decide) rfl (Nat.le_of_ble_eq_true rfl) ?_
  intro κ hκ C K
  subst hκ
  have C : Cx κ cX4_write RX4 (rmN 4) 3 := C
  refine j_aload_n C dX4_write_0 rfl 0 rfl ?_
  refine j_sipush (v := 256) C dX4_write_1 (by decide) ?_
  refine pf_4_1 C ho_v0 k_30 dX4_write_4 ?_
  refine j_aload_n C dX4_write_7 rfl 1 rfl ?_
  refine gf_1_1 C ho_v1 hr_g1 k_232 dX4_write_8 ?_
  refine gf_0_2 C ho_g1 k_50 dX4_write_11 ?_
  refine j_istore_n C dX4_write_14 rfl (by decide) rfl ?_
  refine j_aload_n C dX4_write_15 rfl 1 rfl ?_
  refine j_aload_n C dX4_write_16 rfl 2 rfl ?_
  refine gf_1_2 C ho_v1 hr_g2 k_234 dX4_write_17 ?_
  refine j_cVV (As := [.ref g2]) (st := []) C (X4_writeDigits_ok κ.2.1 G (dI D v0 1 256) v0 g2 _ hw) ho_v0 rfl k_592 mv_X4_writeDigits ⟨by decide, by decide⟩ ⟨rfl, rfl⟩ rfl rfl (Nat.le_of_ble_eq_true rfl) ⟨Nat.zero_le _, Nat.zero_le _⟩ dX4_write_20 (fun D2 hw => ?_)
  refine j_aload_n C dX4_write_23 rfl 1 rfl ?_
  refine j_bipush (v := 47) C dX4_write_24 (by decide) ?_
  refine j_cVV (As := [.int 47]) (st := []) C (X4_writeByte_ok κ.2.1 G D2 v0 47 _ hw) ho_v0 rfl k_603 mv_X4_writeByte ⟨by decide, by decide⟩ ⟨rfl, rfl⟩ rfl rfl (Nat.le_of_ble_eq_true rfl) ⟨Nat.zero_le _, Nat.zero_le _⟩ dX4_write_26 (fun D4 hw => ?_)
  refine j_aload_n C dX4_write_29 rfl 1 rfl ?_
  refine j_aload_n C dX4_write_30 rfl 2 rfl ?_
  refine gf_1_1 C ho_v1 hr_g1 k_232 dX4_write_31 ?_
  refine j_cVV (As := [.ref g1]) (st := []) C (X4_writeDigits_ok κ.2.1 G D4 v0 g1 _ hw) ho_v0 rfl k_592 mv_X4_writeDigits ⟨by decide, by decide⟩ ⟨rfl, rfl⟩ rfl rfl (Nat.le_of_ble_eq_true rfl) ⟨Nat.zero_le _, Nat.zero_le _⟩ dX4_write_34 (fun D6 hw => ?_)
  refine j_iload_n C dX4_write_37 rfl 0 rfl ?_
  refine j_if_eq (tgt := 47) C dX4_write_38 (by decide) (fun hc => ?_) (fun hc => ?_)
  · have hw := hw.1 hc
    exact J.sub (X4_write_j47_ok C K ho_v0 ho_v1 hr_g1 ho_g1 hr_g2 ho_g2 D6 hw) [] rfl
  · have hw := hw.2 hc
    refine j_aload_n C dX4_write_41 rfl 1 rfl ?_
    refine j_bipush (v := 45) C dX4_write_42 (by decide) ?_
    refine j_cVV (As := [.int 45]) (st := []) C (X4_writeByte_ok κ.2.1 G D6 v0 45 _ hw) ho_v0 rfl k_603 mv_X4_writeByte ⟨by decide, by decide⟩ ⟨rfl, rfl⟩ rfl rfl (Nat.le_of_ble_eq_true rfl) ⟨Nat.zero_le _, Nat.zero_le _⟩ dX4_write_44 (fun D8 hw => ?_)
    exact J.sub (X4_write_j47_ok C K ho_v0 ho_v1 hr_g1 ho_g1 hr_g2 ho_g2 D8 hw) [] rfl
/-! X5_findMiddle -/
def X5_findMiddle_j87 (G : Shp) (post : Dat → Prop) (v0 : Nat) (v1 : Nat) (g1 : Nat) (g2 : Nat) (k15 : Int32 → Int32 → Dat → Prop) (v2 : Int32) (v3 : Int32) (D : Dat) : Prop := k15 v2 (v3 + 1) D
set_option maxRecDepth 100000 in
set_option maxHeartbeats 4000000 in
theorem X5_findMiddle_j87_ok {κ : Ctx} {G : Shp} {post : Dat → Prop} {v0 : Nat} {v1 : Nat} {g1 : Nat} {g2 : Nat} (C : Cx κ cX5_findMiddle RX5 (rmN 4) 5) (K : RtV κ cX5_findMiddle G post) (ho_v0 : isO G v0 5) (ho_v1 : isO G v1 3) (hr_g1 : G.2.2.2 v0 4 = some g1) (ho_g1 : isO G g1 0) (hr_g2 : G.2.2.2 v0 2 = some g2) (ho_g2 : isO G g2 14) {k15 : Int32 → Int32 → Dat → Prop} (hk15 : ∀ (v2 : Int32) (v3 : Int32) (D : Dat), k15 v2 v3 D → J κ 0 0 G D 15 [(0, .ref v0), (1, .ref v1), (2, .int v2), (3, .int v3)] []) (v2 : Int32) (v3 : Int32) (D : Dat) (hw : X5_findMiddle_j87 G post v0 v1 g1 g2 k15 v2 v3 D) : J κ 0 0 G D 87 [(0, .ref v0), (1, .ref v1), (2, .int v2), (3, .int v3)] [] := by
  unfold X5_findMiddle_j87 at hw
  refine j_iinc (v := v3 + 1) C dX5_findMiddle_87 3 rfl rfl (by decide) rfl ?_
  refine j_goto (tgt := 15) C dX5_findMiddle_90 (by decide) ?_
  exact J.sub (hk15 v2 (v3 + 1) D hw) [1, 2, 3, 0] rfl
def X5_findMiddle_j50 (G : Shp) (post : Dat → Prop) (v0 : Nat) (v1 : Nat) (g1 : Nat) (g2 : Nat) (k15 : Int32 → Int32 → Dat → Prop) (v2 : Int32) (v3 : Int32) (s0 : Int32) (D : Dat) : Prop := ((s0 = 0 → X5_findMiddle_j87 G post v0 v1 g1 g2 k15 v2 v3 D) ∧ (¬ (s0 = 0) → (vp_in v3 (G.2.2.1 g2) ∧ ∃ y2, G.2.2.2 g2 v3.toNatClampNeg = some y2 ∧ isO G y2 0 ∧ X5_asGreat_wp G D v0 v1 y2 (fun r5 D6 => (((2 * r5) < v2 → X5_findMiddle_j87 G post v0 v1 g1 g2 k15 v2 v3 D6) ∧ (¬ ((2 * r5) < v2) → (vp_in v3 (G.2.2.1 g2) ∧ ∃ y8, G.2.2.2 g2 v3.toNatClampNeg = some y8 ∧ isO G y8 0 ∧ X0_copy_wp G D6 g1 y8 (fun D12 => X5_findMiddle_j87 G post v0 v1 g1 g2 k15 v2 v3 D12))))))))
set_option maxRecDepth 100000 in
set_option maxHeartbeats 4000000 in
theorem X5_findMiddle_j50_ok {κ : Ctx} {G : Shp} {post : Dat → Prop} {v0 : Nat} {v1 : Nat} {g1 : Nat} {g2 : Nat} (C : Cx κ cX5_findMiddle RX5 (rmN 4) 5) (K : RtV κ cX5_findMiddle G post) (ho_v0 : isO G v0 5) (ho_v1 : isO G v1 3) (hr_g1 : G.2.2.2 v0 4 = some g1) (ho_g1 : isO G g1 0) (hr_g2 : G.2.2.2 v0 2 = some g2) (ho_g2 : isO G g2 14) {k15 : Int32 → Int32 → Dat → Prop} (hk15 : ∀ (v2 : Int32) (v3 : Int32) (D : Dat), k15 v2 v3 D → J κ 0 0 G D 15 [(0, .ref v0), (1, .ref v1), (2, .int v2), (3, .int v3)] []) (v2 : Int32) (v3 : Int32) (s0 : Int32) (D : Dat) (hw : X5_findMiddle_j50 G post v0 v1 g1 g2 k15 v2 v3 s0 D) : J κ 0 0 G D 50 [(0, .ref v0), (1, .ref v1), (2, .int v2), (3, .int v3)] [.int s0] := by
  unfold X5_findMiddle_j50 at hw
  refine j_istore C dX5_findMiddle_50 (by decide) rfl ?_
  refine j_iload C dX5_findMiddle_52 0 rfl ?_
  refine j_if_eq (tgt := 87) C dX5_findMiddle_54 (by decide) (fun hc => ?_) (fun hc => ?_)
  · have hw := hw.1 hc
    exact J.sub (X5_findMiddle_j87_ok C K ho_v0 ho_v1 hr_g1 ho_g1 hr_g2 ho_g2 hk15 v2 v3 D hw) [1, 2, 3, 4] rfl
  · have hw := hw.2 hc
    refine j_iconst (v := 2) C dX5_findMiddle_57 (by decide) ?_
    refine j_aload_n C dX5_findMiddle_58 rfl 1 rfl ?_
    refine j_aload_n C dX5_findMiddle_59 rfl 2 rfl ?_
    refine j_aload_n C dX5_findMiddle_60 rfl 1 rfl ?_
    refine gf_5_2 C ho_v0 hr_g2 k_205 dX5_findMiddle_61 ?_
    refine j_iload_n C dX5_findMiddle_64 rfl 4 rfl ?_
    obtain ⟨hi1, hw⟩ := hw
    obtain ⟨y2, hr3, ho4, hw⟩ := hw
    refine j_aaldBig C ho_g2 hi1 hr3 dX5_findMiddle_65 ?_
    refine j_cVI (As := [.ref v1, .ref y2]) (st := [.int 2]) C (X5_asGreat_ok κ.2.1 G D v0 v1 y2 _ hw) ho_v0 rfl k_724 mv_X5_asGreat ⟨by decide, by decide⟩ ⟨rfl, rfl⟩ rfl rfl (Nat.le_of_ble_eq_true rfl) ⟨Nat.zero_le _, Nat.zero_le _⟩ dX5_findMiddle_66 (fun r5 D6 hw => ?_)
    refine j_imul C dX5_findMiddle_69 ?_
    refine j_iload_n C dX5_findMiddle_70 rfl 3 rfl ?_
    refine j_icmp_lt (tgt := 87) C dX5_findMiddle_71 (by decide) (fun hc => ?_) (fun hc => ?_)
    · have hw := hw.1 hc
      exact J.sub (X5_findMiddle_j87_ok C K ho_v0 ho_v1 hr_g1 ho_g1 hr_g2 ho_g2 hk15 v2 v3 D6 hw) [1, 2, 3, 4] rfl
    · have hw := hw.2 hc
      refine j_aload_n C dX5_findMiddle_74 rfl 1 rfl ?_
      refine gf_5_4 C ho_v0 hr_g1 k_207 dX5_findMiddle_75 ?_
      refine j_aload_n C dX5_findMiddle_78 rfl 1 rfl ?_
      refine gf_5_2 C ho_v0 hr_g2 k_205 dX5_findMiddle_79 ?_
      refine j_iload_n C dX5_findMiddle_82 rfl 4 rfl ?_
      obtain ⟨hi7, hw⟩ := hw
      obtain ⟨y8, hr9, ho10, hw⟩ := hw
      refine j_aaldBig C ho_g2 hi7 hr9 dX5_findMiddle_83 ?_
      refine j_cVV (As := [.ref y8]) (st := []) C (X0_copy_ok κ.2.1 G D6 g1 y8 _ hw) ho_g1 rfl k_728 mv_X0_copy ⟨by decide, by decide⟩ ⟨rfl, rfl⟩ rfl rfl (Nat.le_of_ble_eq_true rfl) ⟨Nat.zero_le _, Nat.zero_le _⟩ dX5_findMiddle_84 (fun D12 hw => ?_)
      exact J.sub (X5_findMiddle_j87_ok C K ho_v0 ho_v1 hr_g1 ho_g1 hr_g2 ho_g2 hk15 v2 v3 D12 hw) [1, 2, 3, 4] rfl
def X5_findMiddle_j49 (G : Shp) (post : Dat → Prop) (v0 : Nat) (v1 : Nat) (g1 : Nat) (g2 : Nat) (k15 : Int32 → Int32 → Dat → Prop) (v2 : Int32) (v3 : Int32) (D : Dat) : Prop := X5_findMiddle_j50 G post v0 v1 g1 g2 k15 v2 v3 0 D
set_option maxRecDepth 100000 in
set_option maxHeartbeats 4000000 in
theorem X5_findMiddle_j49_ok {κ : Ctx} {G : Shp} {post : Dat → Prop} {v0 : Nat} {v1 : Nat} {g1 : Nat} {g2 : Nat} (C : Cx κ cX5_findMiddle RX5 (rmN 4) 5) (K : RtV κ cX5_findMiddle G post) (ho_v0 : isO G v0 5) (ho_v1 : isO G v1 3) (hr_g1 : G.2.2.2 v0 4 = some g1) (ho_g1 : isO G g1 0) (hr_g2 : G.2.2.2 v0 2 = some g2) (ho_g2 : isO G g2 14) {k15 : Int32 → Int32 → Dat → Prop} (hk15 : ∀ (v2 : Int32) (v3 : Int32) (D : Dat), k15 v2 v3 D → J κ 0 0 G D 15 [(0, .ref v0), (1, .ref v1), (2, .int v2), (3, .int v3)] []) (v2 : Int32) (v3 : Int32) (D : Dat) (hw : X5_findMiddle_j49 G post v0 v1 g1 g2 k15 v2 v3 D) : J κ 0 0 G D 49 [(0, .ref v0), (1, .ref v1), (2, .int v2), (3, .int v3)] [] := by
  unfold X5_findMiddle_j49 at hw
  refine j_iconst (v := 0) C dX5_findMiddle_49 (by decide) ?_
  exact J.sub (X5_findMiddle_j50_ok C K ho_v0 ho_v1 hr_g1 ho_g1 hr_g2 ho_g2 hk15 v2 v3 0 D hw) [0, 1, 2, 3] rfl
def X5_findMiddle_l15_b (G : Shp) (post : Dat → Prop) (v0 : Nat) (v1 : Nat) (g1 : Nat) (g2 : Nat) (rec : Int32 → Int32 → Dat → Prop) (v2 : Int32) (v3 : Int32) (D : Dat) : Prop := ((40 ≤ v3 → post D) ∧ (¬ (40 ≤ v3) → X3_counts_wp G D v1 v3 (fun r1 D2 => ((r1 = 0 → X5_findMiddle_j49 G post v0 v1 g1 g2 rec v2 v3 D2) ∧ (¬ (r1 = 0) → (vp_in v3 (G.2.2.1 g2) ∧ ∃ y4, G.2.2.2 g2 v3.toNatClampNeg = some y4 ∧ isO G y4 0 ∧ X0_compareSize_wp G D2 y4 g1 (fun r7 D8 => ((r7 ≤ 0 → X5_findMiddle_j49 G post v0 v1 g1 g2 rec v2 v3 D8) ∧ (¬ (r7 ≤ 0) → X5_findMiddle_j50 G post v0 v1 g1 g2 rec v2 v3 1 D8)))))))))
def X5_findMiddle_l15 (G : Shp) (post : Dat → Prop) (v0 : Nat) (v1 : Nat) (g1 : Nat) (g2 : Nat) : Nat → Int32 → Int32 → Dat → Prop
  | 0 => fun _ _ _ => False
  | n + 1 => X5_findMiddle_l15_b G post v0 v1 g1 g2 (X5_findMiddle_l15 G post v0 v1 g1 g2 n)
set_option maxRecDepth 100000 in
set_option maxHeartbeats 4000000 in
theorem X5_findMiddle_l15_ok {κ : Ctx} {G : Shp} {post : Dat → Prop} {v0 : Nat} {v1 : Nat} {g1 : Nat} {g2 : Nat} (C : Cx κ cX5_findMiddle RX5 (rmN 4) 5) (K : RtV κ cX5_findMiddle G post) (ho_v0 : isO G v0 5) (ho_v1 : isO G v1 3) (hr_g1 : G.2.2.2 v0 4 = some g1) (ho_g1 : isO G g1 0) (hr_g2 : G.2.2.2 v0 2 = some g2) (ho_g2 : isO G g2 14) : ∀ (n : Nat) (v2 : Int32) (v3 : Int32) (D : Dat), X5_findMiddle_l15 G post v0 v1 g1 g2 n v2 v3 D → J κ 0 0 G D 15 [(0, .ref v0), (1, .ref v1), (2, .int v2), (3, .int v3)] [] := by
  intro n
  induction n with
  | zero => intro v2 v3 D hw; exact hw.elim
  | succ n ih =>
    intro v2 v3 D hw
    have hw : X5_findMiddle_l15_b G post v0 v1 g1 g2 (X5_findMiddle_l15 G post v0 v1 g1 g2 n) v2 v3 D := hw
    unfold X5_findMiddle_l15_b at hw
    refine j_iload_n C dX5_findMiddle_15 rfl 3 rfl ?_
    refine j_bipush (v := 40) C dX5_findMiddle_16 (by decide) ?_
    refine j_icmp_ge (tgt := 93) C dX5_findMiddle_18 (by decide) (fun hc => ?_) (fun hc => ?_)
    · have hw := hw.1 hc
      exact K _ _ _ dX5_findMiddle_93 hw
    · have hw := hw.2 hc
      refine j_aload_n C dX5_findMiddle_21 rfl 1 rfl ?_
      refine j_iload_n C dX5_findMiddle_22 rfl 3 rfl ?_
      refine j_cVI (As := [.int v3]) (st := []) C (X3_counts_ok κ.2.1 G D v1 v3 _ hw) ho_v1 rfl k_712 mv_X3_counts ⟨by decide, by decide⟩ ⟨rfl, rfl⟩ rfl rfl (Nat.le_of_ble_eq_true rfl) ⟨Nat.zero_le _, Nat.zero_le _⟩ dX5_findMiddle_23 (fun r1 D2 hw => ?_)
      refine j_if_eq (tgt := 49) C dX5_findMiddle_26 (by decide) (fun hc => ?_) (fun hc => ?_)
      · have hw := hw.1 hc
        exact J.sub (X5_findMiddle_j49_ok C K ho_v0 ho_v1 hr_g1 ho_g1 hr_g2 ho_g2 ih v2 v3 D2 hw) [0, 1, 2, 3] rfl
      · have hw := hw.2 hc
        refine j_aload_n C dX5_findMiddle_29 rfl 0 rfl ?_
        refine gf_5_2 C ho_v0 hr_g2 k_205 dX5_findMiddle_30 ?_
        refine j_iload_n C dX5_findMiddle_33 rfl 3 rfl ?_
        obtain ⟨hi3, hw⟩ := hw
        obtain ⟨y4, hr5, ho6, hw⟩ := hw
        refine j_aaldBig C ho_g2 hi3 hr5 dX5_findMiddle_34 ?_
        refine j_aload_n C dX5_findMiddle_35 rfl 0 rfl ?_
        refine gf_5_4 C ho_v0 hr_g1 k_207 dX5_findMiddle_36 ?_
        refine j_cVI (As := [.ref g1]) (st := []) C (X0_compareSize_ok κ.2.1 G D2 y4 g1 _ hw) ho6 rfl k_720 mv_X0_compareSize ⟨by decide, by decide⟩ ⟨rfl, rfl⟩ rfl rfl (Nat.le_of_ble_eq_true rfl) ⟨Nat.zero_le _, Nat.zero_le _⟩ dX5_findMiddle_39 (fun r7 D8 hw => ?_)
        refine j_if_le (tgt := 49) C dX5_findMiddle_42 (by decide) (fun hc => ?_) (fun hc => ?_)
        · have hw := hw.1 hc
          exact J.sub (X5_findMiddle_j49_ok C K ho_v0 ho_v1 hr_g1 ho_g1 hr_g2 ho_g2 ih v2 v3 D8 hw) [0, 1, 2, 3] rfl
        · have hw := hw.2 hc
          refine j_iconst (v := 1) C dX5_findMiddle_45 (by decide) ?_
          refine j_goto (tgt := 50) C dX5_findMiddle_46 (by decide) ?_
          exact J.sub (X5_findMiddle_j50_ok C K ho_v0 ho_v1 hr_g1 ho_g1 hr_g2 ho_g2 ih v2 v3 1 D8 hw) [0, 1, 2, 3] rfl
def X5_findMiddle_wp (G : Shp) (D : Dat) (v0 : Nat) (v1 : Nat) (post : Dat → Prop) : Prop := isO G v0 5 ∧ isO G v1 3 ∧ ∃ g1, G.2.2.2 v0 4 = some g1 ∧ isO G g1 0 ∧ ∃ g2, G.2.2.2 v0 2 = some g2 ∧ isO G g2 14 ∧ X3_countedTicks_wp G D v1 (fun r1 D2 => X0_setTo_wp G D2 g1 0 (fun D4 => ∃ n, X5_findMiddle_l15 G post v0 v1 g1 g2 n r1 0 D4))
set_option maxRecDepth 100000 in
set_option maxHeartbeats 4000000 in
theorem X5_findMiddle_ok (l : Launch) (G : Shp) (D : Dat) (v0 : Nat) (v1 : Nat) (post : Dat → Prop) (hw : X5_findMiddle_wp G D v0 v1 post) : CtV l yX5_findMiddle cX5_findMiddle 5 (rmN 4) [.ref v0, .ref v1] G D post := by
  obtain ⟨ho_v0, ho_v1, g1, hr_g1, ho_g1, g2, hr_g2, ho_g2, hw⟩ := hw
  refine ctV_of (by decide) rfl (Nat.le_of_ble_eq_true rfl) ?_
  intro κ hκ C K
  subst hκ
  have C : Cx κ cX5_findMiddle RX5 (rmN 4) 5 := C
  refine j_aload_n C dX5_findMiddle_0 rfl 1 rfl ?_
  refine j_cVI (As := []) (st := []) C (X3_countedTicks_ok κ.2.1 G D v1 _ hw) ho_v1 rfl k_718 mv_X3_countedTicks ⟨by decide, by decide⟩ ⟨rfl, rfl⟩ rfl rfl (Nat.le_of_ble_eq_true rfl) ⟨Nat.zero_le _, Nat.zero_le _⟩ dX5_findMiddle_1 (fun r1 D2 hw => ?_)
  refine j_istore_n C dX5_findMiddle_4 rfl (by decide) rfl ?_
  refine j_aload_n C dX5_findMiddle_5 rfl 1 rfl ?_
  refine gf_5_4 C ho_v0 hr_g1 k_207 dX5_findMiddle_6 ?_
  refine j_lconst (v := 0) C dX5_findMiddle_9 (by decide) ?_
  refine j_cVV (As := [.long 0]) (st := []) C (X0_setTo_ok κ.2.1 G D2 g1 0 _ hw) ho_g1 rfl k_719 mv_X0_setTo ⟨by decide, by decide⟩ ⟨rfl, rfl⟩ rfl rfl (Nat.le_of_ble_eq_true rfl) ⟨Nat.zero_le _, Nat.zero_le _⟩ dX5_findMiddle_10 (fun D4 hw => ?_)
  refine j_iconst (v := 0) C dX5_findMiddle_13 (by decide) ?_
  refine j_istore_n C dX5_findMiddle_14 rfl (by decide) rfl ?_
  obtain ⟨n, hw⟩ := hw
  exact J.sub (X5_findMiddle_l15_ok C K ho_v0 ho_v1 hr_g1 ho_g1 hr_g2 ho_g2 n r1 0 D4 hw) [2, 3, 1, 0] rfl
/-! X5_leaveOut -/
def X5_leaveOut_j77 (G : Shp) (post : Int32 → Dat → Prop) (v0 : Nat) (v1 : Nat) (v2 : Int32) (v3 : Int32) (g1 : Nat) (g2 : Nat) (s0 : Int32) (D : Dat) : Prop := (isB s0 ∧ post s0 D)
set_option maxRecDepth 100000 in
set_option maxHeartbeats 4000000 in
theorem X5_leaveOut_j77_ok {κ : Ctx} {G : Shp} {post : Int32 → Dat → Prop} {v0 : Nat} {v1 : Nat} {v2 : Int32} {v3 : Int32} {g1 : Nat} {g2 : Nat} (C : Cx κ cX5_leaveOut RX5 (rmN 4) 6) (K : RtI κ cX5_leaveOut .boolean G post) (ho_v0 : isO G v0 5) (ho_v1 : isO G v1 3) (hr_g1 : G.2.2.2 v1 2 = some g1) (ho_g1 : isO G g1 7) (hr_g2 : G.2.2.2 v0 2 = some g2) (ho_g2 : isO G g2 14) (s0 : Int32) (D : Dat) (hw : X5_leaveOut_j77 G post v0 v1 v2 v3 g1 g2 s0 D) : J κ 0 0 G D 77 [] [.int s0] := by
  unfold X5_leaveOut_j77 at hw
  obtain ⟨hb1, hw⟩ := hw
  exact K _ _ _ _ dX5_leaveOut_77 (isB_n hb1) hw
def X5_leaveOut_j54 (G : Shp) (post : Int32 → Dat → Prop) (v0 : Nat) (v1 : Nat) (v2 : Int32) (v3 : Int32) (g1 : Nat) (g2 : Nat) (k12 : Int32 → Int32 → Dat → Prop) (v4 : Int32) (v5 : Int32) (D : Dat) : Prop := k12 v4 (v5 + 1) D
set_option maxRecDepth 100000 in
set_option maxHeartbeats 4000000 in
theorem X5_leaveOut_j54_ok {κ : Ctx} {G : Shp} {post : Int32 → Dat → Prop} {v0 : Nat} {v1 : Nat} {v2 : Int32} {v3 : Int32} {g1 : Nat} {g2 : Nat} (C : Cx κ cX5_leaveOut RX5 (rmN 4) 6) (K : RtI κ cX5_leaveOut .boolean G post) (ho_v0 : isO G v0 5) (ho_v1 : isO G v1 3) (hr_g1 : G.2.2.2 v1 2 = some g1) (ho_g1 : isO G g1 7) (hr_g2 : G.2.2.2 v0 2 = some g2) (ho_g2 : isO G g2 14) {k12 : Int32 → Int32 → Dat → Prop} (hk12 : ∀ (v4 : Int32) (v5 : Int32) (D : Dat), k12 v4 v5 D → J κ 0 0 G D 12 [(0, .ref v0), (1, .ref v1), (2, .int v2), (3, .int v3), (4, .int v4), (5, .int v5)] []) (v4 : Int32) (v5 : Int32) (D : Dat) (hw : X5_leaveOut_j54 G post v0 v1 v2 v3 g1 g2 k12 v4 v5 D) : J κ 0 0 G D 54 [(0, .ref v0), (1, .ref v1), (2, .int v2), (3, .int v3), (4, .int v4), (5, .int v5)] [] := by
  unfold X5_leaveOut_j54 at hw
  refine j_iinc (v := v5 + 1) C dX5_leaveOut_54 5 rfl rfl (by decide) rfl ?_
  refine j_goto (tgt := 12) C dX5_leaveOut_57 (by decide) ?_
  exact J.sub (hk12 v4 (v5 + 1) D hw) [1, 2, 3, 4, 5, 0] rfl
def X5_leaveOut_l12_b (G : Shp) (post : Int32 → Dat → Prop) (v0 : Nat) (v1 : Nat) (v2 : Int32) (v3 : Int32) (g1 : Nat) (g2 : Nat) (rec : Int32 → Int32 → Dat → Prop) (v4 : Int32) (v5 : Int32) (D : Dat) : Prop := ((40 ≤ v5 → (((D.1 g1 1) ≤ v4 → X5_leaveOut_j77 G post v0 v1 v2 v3 g1 g2 0 D) ∧ (¬ ((D.1 g1 1) ≤ v4) → X5_leaveOut_j77 G post v0 v1 v2 v3 g1 g2 1 D))) ∧ (¬ (40 ≤ v5) → X3_counts_wp G D v1 v5 (fun r1 D2 => ((r1 = 0 → X5_leaveOut_j54 G post v0 v1 v2 v3 g1 g2 rec v4 v5 D2) ∧ (¬ (r1 = 0) → (vp_in v5 (G.2.2.1 g2) ∧ ∃ y4, G.2.2.2 g2 v5.toNatClampNeg = some y4 ∧ isO G y4 0 ∧ X5_isAbove_wp G D2 v0 y4 v2 v3 (fun r7 D8 => ((r7 = 0 → X5_leaveOut_j54 G post v0 v1 v2 v3 g1 g2 rec v4 v5 D8) ∧ (¬ (r7 = 0) → X7_add_wp G D8 g1 v5 (fun r9 D10 => X5_leaveOut_j54 G post v0 v1 v2 v3 g1 g2 rec v4 v5 D10))))))))))
def X5_leaveOut_l12 (G : Shp) (post : Int32 → Dat → Prop) (v0 : Nat) (v1 : Nat) (v2 : Int32) (v3 : Int32) (g1 : Nat) (g2 : Nat) : Nat → Int32 → Int32 → Dat → Prop
  | 0 => fun _ _ _ => False
  | n + 1 => X5_leaveOut_l12_b G post v0 v1 v2 v3 g1 g2 (X5_leaveOut_l12 G post v0 v1 v2 v3 g1 g2 n)
set_option maxRecDepth 100000 in
set_option maxHeartbeats 4000000 in
theorem X5_leaveOut_l12_ok {κ : Ctx} {G : Shp} {post : Int32 → Dat → Prop} {v0 : Nat} {v1 : Nat} {v2 : Int32} {v3 : Int32} {g1 : Nat} {g2 : Nat} (C : Cx κ cX5_leaveOut RX5 (rmN 4) 6) (K : RtI κ cX5_leaveOut .boolean G post) (ho_v0 : isO G v0 5) (ho_v1 : isO G v1 3) (hr_g1 : G.2.2.2 v1 2 = some g1) (ho_g1 : isO G g1 7) (hr_g2 : G.2.2.2 v0 2 = some g2) (ho_g2 : isO G g2 14) : ∀ (n : Nat) (v4 : Int32) (v5 : Int32) (D : Dat), X5_leaveOut_l12 G post v0 v1 v2 v3 g1 g2 n v4 v5 D → J κ 0 0 G D 12 [(0, .ref v0), (1, .ref v1), (2, .int v2), (3, .int v3), (4, .int v4), (5, .int v5)] [] := by
  intro n
  induction n with
  | zero => intro v4 v5 D hw; exact hw.elim
  | succ n ih =>
    intro v4 v5 D hw
    have hw : X5_leaveOut_l12_b G post v0 v1 v2 v3 g1 g2 (X5_leaveOut_l12 G post v0 v1 v2 v3 g1 g2 n) v4 v5 D := hw
    unfold X5_leaveOut_l12_b at hw
    refine j_iload C dX5_leaveOut_12 5 rfl ?_
    refine j_bipush (v := 40) C dX5_leaveOut_14 (by decide) ?_
    refine j_icmp_ge (tgt := 60) C dX5_leaveOut_16 (by decide) (fun hc => ?_) (fun hc => ?_)
    · have hw := hw.1 hc
      refine j_aload_n C dX5_leaveOut_60 rfl 1 rfl ?_
      refine gf_3_2 C ho_v1 hr_g1 k_89 dX5_leaveOut_61 ?_
      refine gf_7_1 C ho_g1 k_73 dX5_leaveOut_64 ?_
      refine j_iload C dX5_leaveOut_67 4 rfl ?_
      refine j_icmp_le (tgt := 76) C dX5_leaveOut_69 (by decide) (fun hc => ?_) (fun hc => ?_)
      · have hw := hw.1 hc
        refine j_iconst (v := 0) C dX5_leaveOut_76 (by decide) ?_
        exact J.sub (X5_leaveOut_j77_ok C K ho_v0 ho_v1 hr_g1 ho_g1 hr_g2 ho_g2 0 D hw) [] rfl
      · have hw := hw.2 hc
        refine j_iconst (v := 1) C dX5_leaveOut_72 (by decide) ?_
        refine j_goto (tgt := 77) C dX5_leaveOut_73 (by decide) ?_
        exact J.sub (X5_leaveOut_j77_ok C K ho_v0 ho_v1 hr_g1 ho_g1 hr_g2 ho_g2 1 D hw) [] rfl
    · have hw := hw.2 hc
      refine j_aload_n C dX5_leaveOut_19 rfl 1 rfl ?_
      refine j_iload C dX5_leaveOut_20 5 rfl ?_
      refine j_cVI (As := [.int v5]) (st := []) C (X3_counts_ok κ.2.1 G D v1 v5 _ hw) ho_v1 rfl k_712 mv_X3_counts ⟨by decide, by decide⟩ ⟨rfl, rfl⟩ rfl rfl (Nat.le_of_ble_eq_true rfl) ⟨Nat.zero_le _, Nat.zero_le _⟩ dX5_leaveOut_22 (fun r1 D2 hw => ?_)
      refine j_if_eq (tgt := 54) C dX5_leaveOut_25 (by decide) (fun hc => ?_) (fun hc => ?_)
      · have hw := hw.1 hc
        exact J.sub (X5_leaveOut_j54_ok C K ho_v0 ho_v1 hr_g1 ho_g1 hr_g2 ho_g2 ih v4 v5 D2 hw) [0, 1, 2, 3, 4, 5] rfl
      · have hw := hw.2 hc
        refine j_aload_n C dX5_leaveOut_28 rfl 0 rfl ?_
        refine j_aload_n C dX5_leaveOut_29 rfl 0 rfl ?_
        refine gf_5_2 C ho_v0 hr_g2 k_205 dX5_leaveOut_30 ?_
        refine j_iload C dX5_leaveOut_33 5 rfl ?_
        obtain ⟨hi3, hw⟩ := hw
        obtain ⟨y4, hr5, ho6, hw⟩ := hw
        refine j_aaldBig C ho_g2 hi3 hr5 dX5_leaveOut_35 ?_
        refine j_iload_n C dX5_leaveOut_36 rfl 2 rfl ?_
        refine j_iload_n C dX5_leaveOut_37 rfl 3 rfl ?_
        refine j_cVI (As := [.ref y4, .int v2, .int v3]) (st := []) C (X5_isAbove_ok κ.2.1 G D2 v0 y4 v2 v3 _ hw) ho_v0 rfl k_733 mv_X5_isAbove ⟨by decide, by decide⟩ ⟨rfl, rfl⟩ rfl rfl (Nat.le_of_ble_eq_true rfl) ⟨Nat.zero_le _, Nat.zero_le _⟩ dX5_leaveOut_38 (fun r7 D8 hw => ?_)
        refine j_if_eq (tgt := 54) C dX5_leaveOut_41 (by decide) (fun hc => ?_) (fun hc => ?_)
        · have hw := hw.1 hc
          exact J.sub (X5_leaveOut_j54_ok C K ho_v0 ho_v1 hr_g1 ho_g1 hr_g2 ho_g2 ih v4 v5 D8 hw) [0, 1, 2, 3, 4, 5] rfl
        · have hw := hw.2 hc
          refine j_aload_n C dX5_leaveOut_44 rfl 1 rfl ?_
          refine gf_3_2 C ho_v1 hr_g1 k_89 dX5_leaveOut_45 ?_
          refine j_iload C dX5_leaveOut_48 5 rfl ?_
          refine j_cVI (As := [.int v5]) (st := []) C (X7_add_ok κ.2.1 G D8 g1 v5 _ hw) ho_g1 rfl k_740 mv_X7_add ⟨by decide, by decide⟩ ⟨rfl, rfl⟩ rfl rfl (Nat.le_of_ble_eq_true rfl) ⟨Nat.zero_le _, Nat.zero_le _⟩ dX5_leaveOut_50 (fun r9 D10 hw => ?_)
          refine j_pop C dX5_leaveOut_53 rfl ?_
          exact J.sub (X5_leaveOut_j54_ok C K ho_v0 ho_v1 hr_g1 ho_g1 hr_g2 ho_g2 ih v4 v5 D10 hw) [0, 1, 2, 3, 4, 5] rfl
def X5_leaveOut_wp (G : Shp) (D : Dat) (v0 : Nat) (v1 : Nat) (v2 : Int32) (v3 : Int32) (post : Int32 → Dat → Prop) : Prop := isO G v0 5 ∧ isO G v1 3 ∧ ∃ g1, G.2.2.2 v1 2 = some g1 ∧ isO G g1 7 ∧ ∃ g2, G.2.2.2 v0 2 = some g2 ∧ isO G g2 14 ∧ ∃ n, X5_leaveOut_l12 G post v0 v1 v2 v3 g1 g2 n (D.1 g1 1) 0 D
set_option maxRecDepth 100000 in
set_option maxHeartbeats 4000000 in
theorem X5_leaveOut_ok (l : Launch) (G : Shp) (D : Dat) (v0 : Nat) (v1 : Nat) (v2 : Int32) (v3 : Int32) (post : Int32 → Dat → Prop) (hw : X5_leaveOut_wp G D v0 v1 v2 v3 post) : CtI l yX5_leaveOut cX5_leaveOut 6 .boolean (rmN 4) [.ref v0, .ref v1, .int v2, .int v3] G D post := by
  obtain ⟨ho_v0, ho_v1, g1, hr_g1, ho_g1, g2, hr_g2, ho_g2, hw⟩ := hw
  refine ctI_of (by decide) rfl (Nat.le_of_ble_eq_true rfl) ?_
  intro κ hκ C K
  subst hκ
  have C : Cx κ cX5_leaveOut RX5 (rmN 4) 6 := C
  refine j_aload_n C dX5_leaveOut_0 rfl 1 rfl ?_
  refine gf_3_2 C ho_v1 hr_g1 k_89 dX5_leaveOut_1 ?_
  refine gf_7_1 C ho_g1 k_73 dX5_leaveOut_4 ?_
  refine j_istore C dX5_leaveOut_7 (by decide) rfl ?_
  refine j_iconst (v := 0) C dX5_leaveOut_9 (by decide) ?_
  refine j_istore C dX5_leaveOut_10 (by decide) rfl ?_
  obtain ⟨n, hw⟩ := hw
  exact J.sub (X5_leaveOut_l12_ok C K ho_v0 ho_v1 hr_g1 ho_g1 hr_g2 ho_g2 n (D.1 g1 1) 0 D hw) [2, 3, 4, 5, 1, 0] rfl
/-! X8_told -/
def X8_told_j136 (G : Shp) (post : Int32 → Dat → Prop) (v0 : Nat) (v1 : Int32) (v2 : Int32) (s0 : Int32) (s1 : Nat) (D : Dat) : Prop := (isO G s1 8 ∧ X8_give_wp G D s1 s0 (fun r2 D3 => post r2 D3))
set_option maxRecDepth 100000 in
set_option maxHeartbeats 4000000 in
theorem X8_told_j136_ok {κ : Ctx} {G : Shp} {post : Int32 → Dat → Prop} {v0 : Nat} {v1 : Int32} {v2 : Int32} (C : Cx κ cX8_told RX8 (rmN 4) 4) (K : RtI κ cX8_told .int G post) (ho_v0 : isO G v0 8) (s0 : Int32) (s1 : Nat) (D : Dat) (hw : X8_told_j136 G post v0 v1 v2 s0 s1 D) : J κ 0 0 G D 136 [] [.int s0, .ref s1] := by
  unfold X8_told_j136 at hw
  obtain ⟨ho1, hw⟩ := hw
  refine j_cVI (As := [.int s0]) (st := []) C (X8_give_ok κ.2.1 G D s1 s0 _ hw) ho1 rfl k_354 mv_X8_give ⟨by decide, by decide⟩ ⟨rfl, rfl⟩ rfl rfl (Nat.le_of_ble_eq_true rfl) ⟨Nat.zero_le _, Nat.zero_le _⟩ dX8_told_136 (fun r2 D3 hw => ?_)
  exact K _ _ _ _ dX8_told_139 rfl hw
def X8_told_wp (G : Shp) (D : Dat) (v0 : Nat) (v1 : Int32) (v2 : Int32) (post : Int32 → Dat → Prop) : Prop := isO G v0 8 ∧ X8_rowOf_wp G D v0 v1 (fun r1 D2 => (r1 = none → X8_giveNone_wp G D2 v0 1 (fun r4 D5 => post r4 D5)) ∧ (∀ y3, r1 = some y3 → (((v2.toInt < 0 ∨ 6 < v2.toInt) → X8_giveNone_wp G D2 v0 2 (fun r6 D7 => post r6 D7)) ∧ (v2.toInt = 0 → (isO G y3 3 ∧ ∃ y9, G.2.2.2 y3 1 = some y9 ∧ isO G y9 7 ∧ X8_give_wp G D2 v0 (D2.1 y9 1) (fun r12 D13 => post r12 D13))) ∧ (v2.toInt = 1 → (isO G y3 3 ∧ X3_countedTicks_wp G D2 y3 (fun r15 D16 => X8_give_wp G D16 v0 r15 (fun r17 D18 => post r17 D18)))) ∧ (v2.toInt = 2 → (isO G y3 3 ∧ ∃ y20, G.2.2.2 y3 2 = some y20 ∧ isO G y20 7 ∧ X8_give_wp G D2 v0 (D2.1 y20 1) (fun r23 D24 => post r23 D24))) ∧ (v2.toInt = 3 → (isO G y3 3 ∧ ∃ y26, G.2.2.2 y3 3 = some y26 ∧ isO G y26 7 ∧ X8_give_wp G D2 v0 (D2.1 y26 1) (fun r29 D30 => post r29 D30))) ∧ (v2.toInt = 4 → (isO G y3 3 ∧ X8_give_wp G D2 v0 (D2.1 y3 5) (fun r32 D33 => post r32 D33))) ∧ (v2.toInt = 5 → (isO G y3 3 ∧ X8_give_wp G D2 v0 (D2.1 y3 7) (fun r35 D36 => post r35 D36))) ∧ (v2.toInt = 6 → (isO G y3 3 ∧ (((D2.1 y3 6) = 0 → X8_told_j136 G post v0 v1 v2 0 v0 D2) ∧ (¬ ((D2.1 y3 6) = 0) → X8_told_j136 G post v0 v1 v2 1 v0 D2)))))))
set_option maxRecDepth 100000 in
set_option maxHeartbeats 4000000 in
theorem X8_told_ok (l : Launch) (G : Shp) (D : Dat) (v0 : Nat) (v1 : Int32) (v2 : Int32) (post : Int32 → Dat → Prop) (hw : X8_told_wp G D v0 v1 v2 post) : CtI l yX8_told cX8_told 4 .int (rmN 4) [.ref v0, .int v1, .int v2] G D post := by
  obtain ⟨ho_v0, hw⟩ := hw
  refine ctI_of (by decide) rfl (Nat.le_of_ble_eq_true rfl) ?_
  intro κ hκ C K
  subst hκ
  have C : Cx κ cX8_told RX8 (rmN 4) 4 := C
  refine j_aload_n C dX8_told_0 rfl 0 rfl ?_
  refine j_iload_n C dX8_told_1 rfl 1 rfl ?_
  refine j_cVQ (As := [.int v1]) (st := []) C (X8_rowOf_ok κ.2.1 G D v0 v1 _ hw) ho_v0 rfl k_299 mv_X8_rowOf ⟨by decide, by decide⟩ ⟨rfl, rfl⟩ rfl rfl (Nat.le_of_ble_eq_true rfl) ⟨Nat.zero_le _, Nat.zero_le _⟩ dX8_told_2 (fun r1 D2 hw => ?_)
  refine j_astore_nO C dX8_told_5 rfl (by decide) rfl ?_
  refine j_aload_nO C dX8_told_6 rfl 0 rfl ?_
  refine j_ifnonnull (tgt := 16) C dX8_told_7 (by decide) (fun y3 hc => ?_) (fun hc => ?_)
  · replace hw := hw.2 y3 hc
    subst hc
    show J κ 0 0 G D2 16 [(3, .ref y3), (0, .ref v0), (1, .int v1), (2, .int v2)] []
    refine j_iload_n C dX8_told_16 rfl 3 rfl ?_
    by_cases hsw : v2.toInt < 0 ∨ 6 < v2.toInt
    · have hw := hw.1 hsw
      refine j_tableOut (tgt := 140) C dX8_told_17 hsw (by decide) ?_
      refine j_aload_n C dX8_told_140 rfl 1 rfl ?_
      refine j_iconst (v := 2) C dX8_told_141 (by decide) ?_
      refine j_cVI (As := [.int 2]) (st := []) C (X8_giveNone_ok κ.2.1 G D2 v0 2 _ hw) ho_v0 rfl k_349 mv_X8_giveNone ⟨by decide, by decide⟩ ⟨rfl, rfl⟩ rfl rfl (Nat.le_of_ble_eq_true rfl) ⟨Nat.zero_le _, Nat.zero_le _⟩ dX8_told_142 (fun r6 D7 hw => ?_)
      exact K _ _ _ _ dX8_told_145 rfl hw
    · have hcs : v2.toInt = 0 ∨ v2.toInt = 1 ∨ v2.toInt = 2 ∨ v2.toInt = 3 ∨ v2.toInt = 4 ∨ v2.toInt = 5 ∨ v2.toInt = 6 := by omega
      rcases hcs with hc | hc | hc | hc | hc | hc | hc
      · have hw := hw.2.1 hc
        refine j_tableIn (off := 43) (tgt := 60) C dX8_told_17 (by omega) (by omega) (by rw [hc]; rfl) (by decide) ?_
        refine j_aload_n C dX8_told_60 rfl 1 rfl ?_
        refine j_aload_n C dX8_told_61 rfl 0 rfl ?_
        obtain ⟨ho8, hw⟩ := hw
        obtain ⟨y9, hr10, ho11, hw⟩ := hw
        refine gf_3_1 C ho8 hr10 k_87 dX8_told_62 ?_
        refine gf_7_1 C ho11 k_74 dX8_told_65 ?_
        refine j_cVI (As := [.int (D2.1 y9 1)]) (st := []) C (X8_give_ok κ.2.1 G D2 v0 (D2.1 y9 1) _ hw) ho_v0 rfl k_354 mv_X8_give ⟨by decide, by decide⟩ ⟨rfl, rfl⟩ rfl rfl (Nat.le_of_ble_eq_true rfl) ⟨Nat.zero_le _, Nat.zero_le _⟩ dX8_told_68 (fun r12 D13 hw => ?_)
        exact K _ _ _ _ dX8_told_71 rfl hw
      · have hw := hw.2.2.1 hc
        refine j_tableIn (off := 55) (tgt := 72) C dX8_told_17 (by omega) (by omega) (by rw [hc]; rfl) (by decide) ?_
        refine j_aload_n C dX8_told_72 rfl 1 rfl ?_
        refine j_aload_n C dX8_told_73 rfl 0 rfl ?_
        obtain ⟨ho14, hw⟩ := hw
        refine j_cVI (As := []) (st := [.ref v0]) C (X3_countedTicks_ok κ.2.1 G D2 y3 _ hw) ho14 rfl k_362 mv_X3_countedTicks ⟨by decide, by decide⟩ ⟨rfl, rfl⟩ rfl rfl (Nat.le_of_ble_eq_true rfl) ⟨Nat.zero_le _, Nat.zero_le _⟩ dX8_told_74 (fun r15 D16 hw => ?_)
        refine j_cVI (As := [.int r15]) (st := []) C (X8_give_ok κ.2.1 G D16 v0 r15 _ hw) ho_v0 rfl k_354 mv_X8_give ⟨by decide, by decide⟩ ⟨rfl, rfl⟩ rfl rfl (Nat.le_of_ble_eq_true rfl) ⟨Nat.zero_le _, Nat.zero_le _⟩ dX8_told_77 (fun r17 D18 hw => ?_)
        exact K _ _ _ _ dX8_told_80 rfl hw
      · have hw := hw.2.2.2.1 hc
        refine j_tableIn (off := 64) (tgt := 81) C dX8_told_17 (by omega) (by omega) (by rw [hc]; rfl) (by decide) ?_
        refine j_aload_n C dX8_told_81 rfl 1 rfl ?_
        refine j_aload_n C dX8_told_82 rfl 0 rfl ?_
        obtain ⟨ho19, hw⟩ := hw
        obtain ⟨y20, hr21, ho22, hw⟩ := hw
        refine gf_3_2 C ho19 hr21 k_90 dX8_told_83 ?_
        refine gf_7_1 C ho22 k_74 dX8_told_86 ?_
        refine j_cVI (As := [.int (D2.1 y20 1)]) (st := []) C (X8_give_ok κ.2.1 G D2 v0 (D2.1 y20 1) _ hw) ho_v0 rfl k_354 mv_X8_give ⟨by decide, by decide⟩ ⟨rfl, rfl⟩ rfl rfl (Nat.le_of_ble_eq_true rfl) ⟨Nat.zero_le _, Nat.zero_le _⟩ dX8_told_89 (fun r23 D24 hw => ?_)
        exact K _ _ _ _ dX8_told_92 rfl hw
      · have hw := hw.2.2.2.2.1 hc
        refine j_tableIn (off := 76) (tgt := 93) C dX8_told_17 (by omega) (by omega) (by rw [hc]; rfl) (by decide) ?_
        refine j_aload_n C dX8_told_93 rfl 1 rfl ?_
        refine j_aload_n C dX8_told_94 rfl 0 rfl ?_
        obtain ⟨ho25, hw⟩ := hw
        obtain ⟨y26, hr27, ho28, hw⟩ := hw
        refine gf_3_3 C ho25 hr27 k_93 dX8_told_95 ?_
        refine gf_7_1 C ho28 k_74 dX8_told_98 ?_
        refine j_cVI (As := [.int (D2.1 y26 1)]) (st := []) C (X8_give_ok κ.2.1 G D2 v0 (D2.1 y26 1) _ hw) ho_v0 rfl k_354 mv_X8_give ⟨by decide, by decide⟩ ⟨rfl, rfl⟩ rfl rfl (Nat.le_of_ble_eq_true rfl) ⟨Nat.zero_le _, Nat.zero_le _⟩ dX8_told_101 (fun r29 D30 hw => ?_)
        exact K _ _ _ _ dX8_told_104 rfl hw
      · have hw := hw.2.2.2.2.2.1 hc
        refine j_tableIn (off := 88) (tgt := 105) C dX8_told_17 (by omega) (by omega) (by rw [hc]; rfl) (by decide) ?_
        refine j_aload_n C dX8_told_105 rfl 1 rfl ?_
        refine j_aload_n C dX8_told_106 rfl 0 rfl ?_
        obtain ⟨ho31, hw⟩ := hw
        refine gf_3_5 C ho31 k_98 dX8_told_107 ?_
        refine j_cVI (As := [.int (D2.1 y3 5)]) (st := []) C (X8_give_ok κ.2.1 G D2 v0 (D2.1 y3 5) _ hw) ho_v0 rfl k_354 mv_X8_give ⟨by decide, by decide⟩ ⟨rfl, rfl⟩ rfl rfl (Nat.le_of_ble_eq_true rfl) ⟨Nat.zero_le _, Nat.zero_le _⟩ dX8_told_110 (fun r32 D33 hw => ?_)
        exact K _ _ _ _ dX8_told_113 rfl hw
      · have hw := hw.2.2.2.2.2.2.1 hc
        refine j_tableIn (off := 97) (tgt := 114) C dX8_told_17 (by omega) (by omega) (by rw [hc]; rfl) (by decide) ?_
        refine j_aload_n C dX8_told_114 rfl 1 rfl ?_
        refine j_aload_n C dX8_told_115 rfl 0 rfl ?_
        obtain ⟨ho34, hw⟩ := hw
        refine gf_3_7 C ho34 k_104 dX8_told_116 ?_
        refine j_cVI (As := [.int (D2.1 y3 7)]) (st := []) C (X8_give_ok κ.2.1 G D2 v0 (D2.1 y3 7) _ hw) ho_v0 rfl k_354 mv_X8_give ⟨by decide, by decide⟩ ⟨rfl, rfl⟩ rfl rfl (Nat.le_of_ble_eq_true rfl) ⟨Nat.zero_le _, Nat.zero_le _⟩ dX8_told_119 (fun r35 D36 hw => ?_)
        exact K _ _ _ _ dX8_told_122 rfl hw
      · have hw := hw.2.2.2.2.2.2.2 hc
        refine j_tableIn (off := 106) (tgt := 123) C dX8_told_17 (by omega) (by omega) (by rw [hc]; rfl) (by decide) ?_
        refine j_aload_n C dX8_told_123 rfl 1 rfl ?_
        refine j_aload_n C dX8_told_124 rfl 0 rfl ?_
        obtain ⟨ho37, hw⟩ := hw
        refine gf_3_6 C ho37 k_101 dX8_told_125 ?_
        refine j_if_eq (tgt := 135) C dX8_told_128 (by decide) (fun hc => ?_) (fun hc => ?_)
        · have hw := hw.1 hc
          refine j_iconst (v := 0) C dX8_told_135 (by decide) ?_
          exact J.sub (X8_told_j136_ok C K ho_v0 0 v0 D2 hw) [] rfl
        · have hw := hw.2 hc
          refine j_iconst (v := 1) C dX8_told_131 (by decide) ?_
          refine j_goto (tgt := 136) C dX8_told_132 (by decide) ?_
          exact J.sub (X8_told_j136_ok C K ho_v0 1 v0 D2 hw) [] rfl
  · have hw := hw.1 hc
    refine j_aload_n C dX8_told_10 rfl 1 rfl ?_
    refine j_iconst (v := 1) C dX8_told_11 (by decide) ?_
    refine j_cVI (As := [.int 1]) (st := []) C (X8_giveNone_ok κ.2.1 G D2 v0 1 _ hw) ho_v0 rfl k_349 mv_X8_giveNone ⟨by decide, by decide⟩ ⟨rfl, rfl⟩ rfl rfl (Nat.le_of_ble_eq_true rfl) ⟨Nat.zero_le _, Nat.zero_le _⟩ dX8_told_12 (fun r4 D5 hw => ?_)
    exact K _ _ _ _ dX8_told_15 rfl hw
/-! X9_clear -/
def X9_clear_l266_b (G : Shp) (post : Int32 → Dat → Prop) (v0 : Nat) (g1 : Nat) (g2 : Nat) (g3 : Nat) (rec : Int32 → Int32 → Dat → Prop) (v1 : Int32) (v2 : Int32) (D : Dat) : Prop := (((D.1 v0 21) ≤ v2 → X9_keep_wp G D v0 19 v1 (fun D2 => (isB 1 ∧ post 1 (dI D2 v0 2 0)))) ∧ (¬ ((D.1 v0 21) ≤ v2) → (vp_in ((20 * v2) + 19) (G.2.2.1 g1) ∧ X9_keep_wp G D v0 v2 (D.1 g1 ((20 * v2) + 19).toNatClampNeg) (fun D6 => rec v1 (v2 + 1) D6))))
def X9_clear_l266 (G : Shp) (post : Int32 → Dat → Prop) (v0 : Nat) (g1 : Nat) (g2 : Nat) (g3 : Nat) : Nat → Int32 → Int32 → Dat → Prop
  | 0 => fun _ _ _ => False
  | n + 1 => X9_clear_l266_b G post v0 g1 g2 g3 (X9_clear_l266 G post v0 g1 g2 g3 n)
set_option maxRecDepth 100000 in
set_option maxHeartbeats 4000000 in
theorem X9_clear_l266_ok {κ : Ctx} {G : Shp} {post : Int32 → Dat → Prop} {v0 : Nat} {g1 : Nat} {g2 : Nat} {g3 : Nat} (C : Cx κ cX9_clear RX9 (rmN 4) 7) (K : RtI κ cX9_clear .boolean G post) (ho_v0 : isO G v0 9) (hr_g1 : G.2.2.2 v0 24 = some g1) (ho_g1 : isO G g1 11) (hr_g2 : G.2.2.2 v0 23 = some g2) (ho_g2 : isO G g2 12) (hr_g3 : G.2.2.2 v0 22 = some g3) (ho_g3 : isO G g3 12) : ∀ (n : Nat) (v1 : Int32) (v2 : Int32) (D : Dat), X9_clear_l266 G post v0 g1 g2 g3 n v1 v2 D → J κ 0 0 G D 266 [(0, .ref v0), (1, .int v1), (2, .int v2)] [] := by
  intro n
  induction n with
  | zero => intro v1 v2 D hw; exact hw.elim
  | succ n ih =>
    intro v1 v2 D hw
    have hw : X9_clear_l266_b G post v0 g1 g2 g3 (X9_clear_l266 G post v0 g1 g2 g3 n) v1 v2 D := hw
    unfold X9_clear_l266_b at hw
    refine j_iload_n C dX9_clear_266 rfl 2 rfl ?_
    refine j_aload_n C dX9_clear_267 rfl 0 rfl ?_
    refine gf_9_21 C ho_v0 k_785 dX9_clear_268 ?_
    refine j_icmp_ge (tgt := 297) C dX9_clear_271 (by decide) (fun hc => ?_) (fun hc => ?_)
    · have hw := hw.1 hc
      refine j_aload_n C dX9_clear_297 rfl 0 rfl ?_
      refine j_bipush (v := 19) C dX9_clear_298 (by decide) ?_
      refine j_iload_n C dX9_clear_300 rfl 1 rfl ?_
      refine j_cVV (As := [.int 19, .int v1]) (st := []) C (X9_keep_ok κ.2.1 G D v0 19 v1 _ hw) ho_v0 rfl k_1044 mv_X9_keep ⟨by decide, by decide⟩ ⟨rfl, rfl⟩ rfl rfl (Nat.le_of_ble_eq_true rfl) ⟨Nat.zero_le _, Nat.zero_le _⟩ dX9_clear_301 (fun D2 hw => ?_)
      refine j_aload_n C dX9_clear_304 rfl 0 rfl ?_
      refine j_iconst (v := 0) C dX9_clear_305 (by decide) ?_
      refine pf_9_2 C ho_v0 k_766 dX9_clear_306 ?_
      refine j_iconst (v := 1) C dX9_clear_309 (by decide) ?_
      obtain ⟨hb3, hw⟩ := hw
      exact K _ _ _ _ dX9_clear_310 (isB_n hb3) hw
    · have hw := hw.2 hc
      refine j_aload_n C dX9_clear_274 rfl 0 rfl ?_
      refine j_iload_n C dX9_clear_275 rfl 2 rfl ?_
      refine j_aload_n C dX9_clear_276 rfl 0 rfl ?_
      refine gf_9_24 C ho_v0 hr_g1 k_788 dX9_clear_277 ?_
      refine j_bipush (v := 20) C dX9_clear_280 (by decide) ?_
      refine j_iload_n C dX9_clear_282 rfl 2 rfl ?_
      refine j_imul C dX9_clear_283 ?_
      refine j_bipush (v := 19) C dX9_clear_284 (by decide) ?_
      refine j_iadd C dX9_clear_286 ?_
      obtain ⟨hi4, hw⟩ := hw
      refine j_iald C ho_g1 hi4 dX9_clear_287 ?_
      refine j_cVV (As := [.int v2, .int (D.1 g1 ((20 * v2) + 19).toNatClampNeg)]) (st := []) C (X9_keep_ok κ.2.1 G D v0 v2 (D.1 g1 ((20 * v2) + 19).toNatClampNeg) _ hw) ho_v0 rfl k_1044 mv_X9_keep ⟨by decide, by decide⟩ ⟨rfl, rfl⟩ rfl rfl (Nat.le_of_ble_eq_true rfl) ⟨Nat.zero_le _, Nat.zero_le _⟩ dX9_clear_288 (fun D6 hw => ?_)
      refine j_iinc (v := v2 + 1) C dX9_clear_291 2 rfl rfl (by decide) rfl ?_
      refine j_goto (tgt := 266) C dX9_clear_294 (by decide) ?_
      exact J.sub (ih v1 (v2 + 1) D6 hw) [1, 2, 0] rfl
def X9_clear_j250 (G : Shp) (post : Int32 → Dat → Prop) (v0 : Nat) (g1 : Nat) (g2 : Nat) (g3 : Nat) (k93 : Int32 → Int32 → Dat → Prop) (k126 : Int32 → Int32 → Int32 → Int32 → Dat → Prop) (v1 : Int32) (v2 : Int32) (v3 : Int32) (v4 : Int32) (D : Dat) : Prop := k126 v1 v2 v3 (v4 + 1) D
set_option maxRecDepth 100000 in
set_option maxHeartbeats 4000000 in
theorem X9_clear_j250_ok {κ : Ctx} {G : Shp} {post : Int32 → Dat → Prop} {v0 : Nat} {g1 : Nat} {g2 : Nat} {g3 : Nat} (C : Cx κ cX9_clear RX9 (rmN 4) 7) (K : RtI κ cX9_clear .boolean G post) (ho_v0 : isO G v0 9) (hr_g1 : G.2.2.2 v0 24 = some g1) (ho_g1 : isO G g1 11) (hr_g2 : G.2.2.2 v0 23 = some g2) (ho_g2 : isO G g2 12) (hr_g3 : G.2.2.2 v0 22 = some g3) (ho_g3 : isO G g3 12) {k93 : Int32 → Int32 → Dat → Prop} (hk93 : ∀ (v1 : Int32) (v2 : Int32) (D : Dat), k93 v1 v2 D → J κ 0 0 G D 93 [(0, .ref v0), (1, .int v1), (2, .int v2)] []) {k126 : Int32 → Int32 → Int32 → Int32 → Dat → Prop} (hk126 : ∀ (v1 : Int32) (v2 : Int32) (v3 : Int32) (v4 : Int32) (D : Dat), k126 v1 v2 v3 v4 D → J κ 0 0 G D 126 [(0, .ref v0), (1, .int v1), (2, .int v2), (3, .int v3), (4, .int v4)] []) (v1 : Int32) (v2 : Int32) (v3 : Int32) (v4 : Int32) (D : Dat) (hw : X9_clear_j250 G post v0 g1 g2 g3 k93 k126 v1 v2 v3 v4 D) : J κ 0 0 G D 250 [(0, .ref v0), (1, .int v1), (2, .int v2), (3, .int v3), (4, .int v4)] [] := by
  unfold X9_clear_j250 at hw
  refine j_iinc (v := v4 + 1) C dX9_clear_250 4 rfl rfl (by decide) rfl ?_
  refine j_goto (tgt := 126) C dX9_clear_253 (by decide) ?_
  exact J.sub (hk126 v1 v2 v3 (v4 + 1) D hw) [1, 2, 3, 4, 0] rfl
def X9_clear_j244 (G : Shp) (post : Int32 → Dat → Prop) (v0 : Nat) (g1 : Nat) (g2 : Nat) (g3 : Nat) (k93 : Int32 → Int32 → Dat → Prop) (k126 : Int32 → Int32 → Int32 → Int32 → Dat → Prop) (k163 : Int32 → Int32 → Int32 → Int32 → Int32 → Int32 → Dat → Prop) (v1 : Int32) (v2 : Int32) (v3 : Int32) (v4 : Int32) (v5 : Int32) (v6 : Int32) (D : Dat) : Prop := k163 v1 v2 v3 v4 v5 (v6 + 1) D
set_option maxRecDepth 100000 in
set_option maxHeartbeats 4000000 in
theorem X9_clear_j244_ok {κ : Ctx} {G : Shp} {post : Int32 → Dat → Prop} {v0 : Nat} {g1 : Nat} {g2 : Nat} {g3 : Nat} (C : Cx κ cX9_clear RX9 (rmN 4) 7) (K : RtI κ cX9_clear .boolean G post) (ho_v0 : isO G v0 9) (hr_g1 : G.2.2.2 v0 24 = some g1) (ho_g1 : isO G g1 11) (hr_g2 : G.2.2.2 v0 23 = some g2) (ho_g2 : isO G g2 12) (hr_g3 : G.2.2.2 v0 22 = some g3) (ho_g3 : isO G g3 12) {k93 : Int32 → Int32 → Dat → Prop} (hk93 : ∀ (v1 : Int32) (v2 : Int32) (D : Dat), k93 v1 v2 D → J κ 0 0 G D 93 [(0, .ref v0), (1, .int v1), (2, .int v2)] []) {k126 : Int32 → Int32 → Int32 → Int32 → Dat → Prop} (hk126 : ∀ (v1 : Int32) (v2 : Int32) (v3 : Int32) (v4 : Int32) (D : Dat), k126 v1 v2 v3 v4 D → J κ 0 0 G D 126 [(0, .ref v0), (1, .int v1), (2, .int v2), (3, .int v3), (4, .int v4)] []) {k163 : Int32 → Int32 → Int32 → Int32 → Int32 → Int32 → Dat → Prop} (hk163 : ∀ (v1 : Int32) (v2 : Int32) (v3 : Int32) (v4 : Int32) (v5 : Int32) (v6 : Int32) (D : Dat), k163 v1 v2 v3 v4 v5 v6 D → J κ 0 0 G D 163 [(0, .ref v0), (1, .int v1), (2, .int v2), (3, .int v3), (4, .int v4), (5, .int v5), (6, .int v6)] []) (v1 : Int32) (v2 : Int32) (v3 : Int32) (v4 : Int32) (v5 : Int32) (v6 : Int32) (D : Dat) (hw : X9_clear_j244 G post v0 g1 g2 g3 k93 k126 k163 v1 v2 v3 v4 v5 v6 D) : J κ 0 0 G D 244 [(0, .ref v0), (1, .int v1), (2, .int v2), (3, .int v3), (4, .int v4), (5, .int v5), (6, .int v6)] [] := by
  unfold X9_clear_j244 at hw
  refine j_iinc (v := v6 + 1) C dX9_clear_244 6 rfl rfl (by decide) rfl ?_
  refine j_goto (tgt := 163) C dX9_clear_247 (by decide) ?_
  exact J.sub (hk163 v1 v2 v3 v4 v5 (v6 + 1) D hw) [1, 2, 3, 4, 5, 6, 0] rfl
def X9_clear_j186 (G : Shp) (post : Int32 → Dat → Prop) (v0 : Nat) (g1 : Nat) (g2 : Nat) (g3 : Nat) (k93 : Int32 → Int32 → Dat → Prop) (k126 : Int32 → Int32 → Int32 → Int32 → Dat → Prop) (k163 : Int32 → Int32 → Int32 → Int32 → Int32 → Int32 → Dat → Prop) (v1 : Int32) (v2 : Int32) (v3 : Int32) (v4 : Int32) (v5 : Int32) (v6 : Int32) (D : Dat) : Prop := (vp_in ((20 * v4) + v6) (G.2.2.1 g1) ∧ X9_times_wp G D v0 v3 (D.1 g1 ((20 * v4) + v6).toNatClampNeg) (fun r2 D3 => (vp_in ((20 * v2) + v6) (G.2.2.1 g1) ∧ X9_times_wp G D3 v0 v5 (D3.1 g1 ((20 * v2) + v6).toNatClampNeg) (fun r5 D6 => X9_less_wp G D6 v0 r2 r5 (fun r7 D8 => X9_divided_wp G D8 v0 r7 v1 (fun r9 D10 => (vp_in ((20 * v4) + v6) (G.2.2.1 g1) ∧ X9_clear_j244 G post v0 g1 g2 g3 k93 k126 k163 v1 v2 v3 v4 v5 v6 (dI D10 g1 ((20 * v4) + v6).toNatClampNeg r9))))))))
set_option maxRecDepth 100000 in
set_option maxHeartbeats 4000000 in
theorem X9_clear_j186_ok {κ : Ctx} {G : Shp} {post : Int32 → Dat → Prop} {v0 : Nat} {g1 : Nat} {g2 : Nat} {g3 : Nat} (C : Cx κ cX9_clear RX9 (rmN 4) 7) (K : RtI κ cX9_clear .boolean G post) (ho_v0 : isO G v0 9) (hr_g1 : G.2.2.2 v0 24 = some g1) (ho_g1 : isO G g1 11) (hr_g2 : G.2.2.2 v0 23 = some g2) (ho_g2 : isO G g2 12) (hr_g3 : G.2.2.2 v0 22 = some g3) (ho_g3 : isO G g3 12) {k93 : Int32 → Int32 → Dat → Prop} (hk93 : ∀ (v1 : Int32) (v2 : Int32) (D : Dat), k93 v1 v2 D → J κ 0 0 G D 93 [(0, .ref v0), (1, .int v1), (2, .int v2)] []) {k126 : Int32 → Int32 → Int32 → Int32 → Dat → Prop} (hk126 : ∀ (v1 : Int32) (v2 : Int32) (v3 : Int32) (v4 : Int32) (D : Dat), k126 v1 v2 v3 v4 D → J κ 0 0 G D 126 [(0, .ref v0), (1, .int v1), (2, .int v2), (3, .int v3), (4, .int v4)] []) {k163 : Int32 → Int32 → Int32 → Int32 → Int32 → Int32 → Dat → Prop} (hk163 : ∀ (v1 : Int32) (v2 : Int32) (v3 : Int32) (v4 : Int32) (v5 : Int32) (v6 : Int32) (D : Dat), k163 v1 v2 v3 v4 v5 v6 D → J κ 0 0 G D 163 [(0, .ref v0), (1, .int v1), (2, .int v2), (3, .int v3), (4, .int v4), (5, .int v5), (6, .int v6)] []) (v1 : Int32) (v2 : Int32) (v3 : Int32) (v4 : Int32) (v5 : Int32) (v6 : Int32) (D : Dat) (hw : X9_clear_j186 G post v0 g1 g2 g3 k93 k126 k163 v1 v2 v3 v4 v5 v6 D) : J κ 0 0 G D 186 [(0, .ref v0), (1, .int v1), (2, .int v2), (3, .int v3), (4, .int v4), (5, .int v5), (6, .int v6)] [] := by
  unfold X9_clear_j186 at hw
  refine j_aload_n C dX9_clear_186 rfl 0 rfl ?_
  refine gf_9_24 C ho_v0 hr_g1 k_788 dX9_clear_187 ?_
  refine j_bipush (v := 20) C dX9_clear_190 (by decide) ?_
  refine j_iload C dX9_clear_192 4 rfl ?_
  refine j_imul C dX9_clear_194 ?_
  refine j_iload C dX9_clear_195 6 rfl ?_
  refine j_iadd C dX9_clear_197 ?_
  refine j_aload_n C dX9_clear_198 rfl 0 rfl ?_
  refine j_aload_n C dX9_clear_199 rfl 0 rfl ?_
  refine j_aload_n C dX9_clear_200 rfl 0 rfl ?_
  refine j_iload_n C dX9_clear_201 rfl 3 rfl ?_
  refine j_aload_n C dX9_clear_202 rfl 0 rfl ?_
  refine gf_9_24 C ho_v0 hr_g1 k_788 dX9_clear_203 ?_
  refine j_bipush (v := 20) C dX9_clear_206 (by decide) ?_
  refine j_iload C dX9_clear_208 4 rfl ?_
  refine j_imul C dX9_clear_210 ?_
  refine j_iload C dX9_clear_211 6 rfl ?_
  refine j_iadd C dX9_clear_213 ?_
  obtain ⟨hi1, hw⟩ := hw
  refine j_iald C ho_g1 hi1 dX9_clear_214 ?_
  refine j_cVI (As := [.int v3, .int (D.1 g1 ((20 * v4) + v6).toNatClampNeg)]) (st := [.ref v0, .ref v0, .int ((20 * v4) + v6), .ref g1]) C (X9_times_ok κ.2.1 G D v0 v3 (D.1 g1 ((20 * v4) + v6).toNatClampNeg) _ hw) ho_v0 rfl k_994 mv_X9_times ⟨by decide, by decide⟩ ⟨rfl, rfl⟩ rfl rfl (Nat.le_of_ble_eq_true rfl) ⟨Nat.zero_le _, Nat.zero_le _⟩ dX9_clear_215 (fun r2 D3 hw => ?_)
  refine j_aload_n C dX9_clear_218 rfl 0 rfl ?_
  refine j_iload C dX9_clear_219 5 rfl ?_
  refine j_aload_n C dX9_clear_221 rfl 0 rfl ?_
  refine gf_9_24 C ho_v0 hr_g1 k_788 dX9_clear_222 ?_
  refine j_bipush (v := 20) C dX9_clear_225 (by decide) ?_
  refine j_iload_n C dX9_clear_227 rfl 2 rfl ?_
  refine j_imul C dX9_clear_228 ?_
  refine j_iload C dX9_clear_229 6 rfl ?_
  refine j_iadd C dX9_clear_231 ?_
  obtain ⟨hi4, hw⟩ := hw
  refine j_iald C ho_g1 hi4 dX9_clear_232 ?_
  refine j_cVI (As := [.int v5, .int (D3.1 g1 ((20 * v2) + v6).toNatClampNeg)]) (st := [.int r2, .ref v0, .ref v0, .int ((20 * v4) + v6), .ref g1]) C (X9_times_ok κ.2.1 G D3 v0 v5 (D3.1 g1 ((20 * v2) + v6).toNatClampNeg) _ hw) ho_v0 rfl k_994 mv_X9_times ⟨by decide, by decide⟩ ⟨rfl, rfl⟩ rfl rfl (Nat.le_of_ble_eq_true rfl) ⟨Nat.zero_le _, Nat.zero_le _⟩ dX9_clear_233 (fun r5 D6 hw => ?_)
  refine j_cVI (As := [.int r2, .int r5]) (st := [.ref v0, .int ((20 * v4) + v6), .ref g1]) C (X9_less_ok κ.2.1 G D6 v0 r2 r5 _ hw) ho_v0 rfl k_1002 mv_X9_less ⟨by decide, by decide⟩ ⟨rfl, rfl⟩ rfl rfl (Nat.le_of_ble_eq_true rfl) ⟨Nat.zero_le _, Nat.zero_le _⟩ dX9_clear_236 (fun r7 D8 hw => ?_)
  refine j_iload_n C dX9_clear_239 rfl 1 rfl ?_
  refine j_cVI (As := [.int r7, .int v1]) (st := [.int ((20 * v4) + v6), .ref g1]) C (X9_divided_ok κ.2.1 G D8 v0 r7 v1 _ hw) ho_v0 rfl k_1024 mv_X9_divided ⟨by decide, by decide⟩ ⟨rfl, rfl⟩ rfl rfl (Nat.le_of_ble_eq_true rfl) ⟨Nat.zero_le _, Nat.zero_le _⟩ dX9_clear_240 (fun r9 D10 hw => ?_)
  obtain ⟨hi11, hw⟩ := hw
  refine j_iast C ho_g1 hi11 dX9_clear_243 ?_
  exact J.sub (X9_clear_j244_ok C K ho_v0 hr_g1 ho_g1 hr_g2 ho_g2 hr_g3 ho_g3 hk93 hk126 hk163 v1 v2 v3 v4 v5 v6 (dI D10 g1 ((20 * v4) + v6).toNatClampNeg r9) hw) [0, 1, 2, 3, 4, 5, 6] rfl
def X9_clear_l163_b (G : Shp) (post : Int32 → Dat → Prop) (v0 : Nat) (g1 : Nat) (g2 : Nat) (g3 : Nat) (k93 : Int32 → Int32 → Dat → Prop) (k126 : Int32 → Int32 → Int32 → Int32 → Dat → Prop) (rec : Int32 → Int32 → Int32 → Int32 → Int32 → Int32 → Dat → Prop) (v1 : Int32) (v2 : Int32) (v3 : Int32) (v4 : Int32) (v5 : Int32) (v6 : Int32) (D : Dat) : Prop := ((20 ≤ v6 → X9_clear_j250 G post v0 g1 g2 g3 k93 k126 v1 v2 v3 v4 D) ∧ (¬ (20 ≤ v6) → ((v6 < (D.1 v0 21) → X9_clear_j186 G post v0 g1 g2 g3 k93 k126 rec v1 v2 v3 v4 v5 v6 D) ∧ (¬ (v6 < (D.1 v0 21)) → ((¬ v6 = 19 → X9_clear_j244 G post v0 g1 g2 g3 k93 k126 rec v1 v2 v3 v4 v5 v6 D) ∧ (v6 = 19 → X9_clear_j186 G post v0 g1 g2 g3 k93 k126 rec v1 v2 v3 v4 v5 v6 D))))))
def X9_clear_l163 (G : Shp) (post : Int32 → Dat → Prop) (v0 : Nat) (g1 : Nat) (g2 : Nat) (g3 : Nat) (k93 : Int32 → Int32 → Dat → Prop) (k126 : Int32 → Int32 → Int32 → Int32 → Dat → Prop) : Nat → Int32 → Int32 → Int32 → Int32 → Int32 → Int32 → Dat → Prop
  | 0 => fun _ _ _ _ _ _ _ => False
  | n + 1 => X9_clear_l163_b G post v0 g1 g2 g3 k93 k126 (X9_clear_l163 G post v0 g1 g2 g3 k93 k126 n)
set_option maxRecDepth 100000 in
set_option maxHeartbeats 4000000 in
theorem X9_clear_l163_ok {κ : Ctx} {G : Shp} {post : Int32 → Dat → Prop} {v0 : Nat} {g1 : Nat} {g2 : Nat} {g3 : Nat} (C : Cx κ cX9_clear RX9 (rmN 4) 7) (K : RtI κ cX9_clear .boolean G post) (ho_v0 : isO G v0 9) (hr_g1 : G.2.2.2 v0 24 = some g1) (ho_g1 : isO G g1 11) (hr_g2 : G.2.2.2 v0 23 = some g2) (ho_g2 : isO G g2 12) (hr_g3 : G.2.2.2 v0 22 = some g3) (ho_g3 : isO G g3 12) {k93 : Int32 → Int32 → Dat → Prop} (hk93 : ∀ (v1 : Int32) (v2 : Int32) (D : Dat), k93 v1 v2 D → J κ 0 0 G D 93 [(0, .ref v0), (1, .int v1), (2, .int v2)] []) {k126 : Int32 → Int32 → Int32 → Int32 → Dat → Prop} (hk126 : ∀ (v1 : Int32) (v2 : Int32) (v3 : Int32) (v4 : Int32) (D : Dat), k126 v1 v2 v3 v4 D → J κ 0 0 G D 126 [(0, .ref v0), (1, .int v1), (2, .int v2), (3, .int v3), (4, .int v4)] []) : ∀ (n : Nat) (v1 : Int32) (v2 : Int32) (v3 : Int32) (v4 : Int32) (v5 : Int32) (v6 : Int32) (D : Dat), X9_clear_l163 G post v0 g1 g2 g3 k93 k126 n v1 v2 v3 v4 v5 v6 D → J κ 0 0 G D 163 [(0, .ref v0), (1, .int v1), (2, .int v2), (3, .int v3), (4, .int v4), (5, .int v5), (6, .int v6)] [] := by
  intro n
  induction n with
  | zero => intro v1 v2 v3 v4 v5 v6 D hw; exact hw.elim
  | succ n ih =>
    intro v1 v2 v3 v4 v5 v6 D hw
    have hw : X9_clear_l163_b G post v0 g1 g2 g3 k93 k126 (X9_clear_l163 G post v0 g1 g2 g3 k93 k126 n) v1 v2 v3 v4 v5 v6 D := hw
    unfold X9_clear_l163_b at hw
    refine j_iload C dX9_clear_163 6 rfl ?_
    refine j_bipush (v := 20) C dX9_clear_165 (by decide) ?_
    refine j_icmp_ge (tgt := 250) C dX9_clear_167 (by decide) (fun hc => ?_) (fun hc => ?_)
    · have hw := hw.1 hc
      exact J.sub (X9_clear_j250_ok C K ho_v0 hr_g1 ho_g1 hr_g2 ho_g2 hr_g3 ho_g3 hk93 hk126 v1 v2 v3 v4 D hw) [0, 1, 2, 3, 4] rfl
    · have hw := hw.2 hc
      refine j_iload C dX9_clear_170 6 rfl ?_
      refine j_aload_n C dX9_clear_172 rfl 0 rfl ?_
      refine gf_9_21 C ho_v0 k_785 dX9_clear_173 ?_
      refine j_icmp_lt (tgt := 186) C dX9_clear_176 (by decide) (fun hc => ?_) (fun hc => ?_)
      · have hw := hw.1 hc
        exact J.sub (X9_clear_j186_ok C K ho_v0 hr_g1 ho_g1 hr_g2 ho_g2 hr_g3 ho_g3 hk93 hk126 ih v1 v2 v3 v4 v5 v6 D hw) [0, 1, 2, 3, 4, 5, 6] rfl
      · have hw := hw.2 hc
        refine j_iload C dX9_clear_179 6 rfl ?_
        refine j_bipush (v := 19) C dX9_clear_181 (by decide) ?_
        refine j_icmp_ne (tgt := 244) C dX9_clear_183 (by decide) (fun hc => ?_) (fun hc => ?_)
        · have hw := hw.1 hc
          exact J.sub (X9_clear_j244_ok C K ho_v0 hr_g1 ho_g1 hr_g2 ho_g2 hr_g3 ho_g3 hk93 hk126 ih v1 v2 v3 v4 v5 v6 D hw) [0, 1, 2, 3, 4, 5, 6] rfl
        · have hw := hw.2 hc
          exact J.sub (X9_clear_j186_ok C K ho_v0 hr_g1 ho_g1 hr_g2 ho_g2 hr_g3 ho_g3 hk93 hk126 ih v1 v2 v3 v4 v5 v6 D hw) [0, 1, 2, 3, 4, 5, 6] rfl
def X9_clear_l126_b (G : Shp) (post : Int32 → Dat → Prop) (v0 : Nat) (g1 : Nat) (g2 : Nat) (g3 : Nat) (k93 : Int32 → Int32 → Dat → Prop) (rec : Int32 → Int32 → Int32 → Int32 → Dat → Prop) (v1 : Int32) (v2 : Int32) (v3 : Int32) (v4 : Int32) (D : Dat) : Prop := (((D.1 v0 21) ≤ v4 → k93 v3 (v2 + 1) D) ∧ (¬ ((D.1 v0 21) ≤ v4) → ((¬ v4 = v2 → (vp_in ((20 * v4) + v2) (G.2.2.1 g1) ∧ ∃ n, X9_clear_l163 G post v0 g1 g2 g3 k93 rec n v1 v2 v3 v4 (D.1 g1 ((20 * v4) + v2).toNatClampNeg) (v2 + 1) D)) ∧ (v4 = v2 → X9_clear_j250 G post v0 g1 g2 g3 k93 rec v1 v2 v3 v4 D))))
def X9_clear_l126 (G : Shp) (post : Int32 → Dat → Prop) (v0 : Nat) (g1 : Nat) (g2 : Nat) (g3 : Nat) (k93 : Int32 → Int32 → Dat → Prop) : Nat → Int32 → Int32 → Int32 → Int32 → Dat → Prop
  | 0 => fun _ _ _ _ _ => False
  | n + 1 => X9_clear_l126_b G post v0 g1 g2 g3 k93 (X9_clear_l126 G post v0 g1 g2 g3 k93 n)
set_option maxRecDepth 100000 in
set_option maxHeartbeats 4000000 in
theorem X9_clear_l126_ok {κ : Ctx} {G : Shp} {post : Int32 → Dat → Prop} {v0 : Nat} {g1 : Nat} {g2 : Nat} {g3 : Nat} (C : Cx κ cX9_clear RX9 (rmN 4) 7) (K : RtI κ cX9_clear .boolean G post) (ho_v0 : isO G v0 9) (hr_g1 : G.2.2.2 v0 24 = some g1) (ho_g1 : isO G g1 11) (hr_g2 : G.2.2.2 v0 23 = some g2) (ho_g2 : isO G g2 12) (hr_g3 : G.2.2.2 v0 22 = some g3) (ho_g3 : isO G g3 12) {k93 : Int32 → Int32 → Dat → Prop} (hk93 : ∀ (v1 : Int32) (v2 : Int32) (D : Dat), k93 v1 v2 D → J κ 0 0 G D 93 [(0, .ref v0), (1, .int v1), (2, .int v2)] []) : ∀ (n : Nat) (v1 : Int32) (v2 : Int32) (v3 : Int32) (v4 : Int32) (D : Dat), X9_clear_l126 G post v0 g1 g2 g3 k93 n v1 v2 v3 v4 D → J κ 0 0 G D 126 [(0, .ref v0), (1, .int v1), (2, .int v2), (3, .int v3), (4, .int v4)] [] := by
  intro n
  induction n with
  | zero => intro v1 v2 v3 v4 D hw; exact hw.elim
  | succ n ih =>
    intro v1 v2 v3 v4 D hw
    have hw : X9_clear_l126_b G post v0 g1 g2 g3 k93 (X9_clear_l126 G post v0 g1 g2 g3 k93 n) v1 v2 v3 v4 D := hw
    unfold X9_clear_l126_b at hw
    refine j_iload C dX9_clear_126 4 rfl ?_
    refine j_aload_n C dX9_clear_128 rfl 0 rfl ?_
    refine gf_9_21 C ho_v0 k_785 dX9_clear_129 ?_
    refine j_icmp_ge (tgt := 256) C dX9_clear_132 (by decide) (fun hc => ?_) (fun hc => ?_)
    · have hw := hw.1 hc
      refine j_iload_n C dX9_clear_256 rfl 3 rfl ?_
      refine j_istore_n C dX9_clear_257 rfl (by decide) rfl ?_
      refine j_iinc (v := v2 + 1) C dX9_clear_258 2 rfl rfl (by decide) rfl ?_
      refine j_goto (tgt := 93) C dX9_clear_261 (by decide) ?_
      exact J.sub (hk93 v3 (v2 + 1) D hw) [2, 1, 0] rfl
    · have hw := hw.2 hc
      refine j_iload C dX9_clear_135 4 rfl ?_
      refine j_iload_n C dX9_clear_137 rfl 2 rfl ?_
      refine j_icmp_ne (tgt := 144) C dX9_clear_138 (by decide) (fun hc => ?_) (fun hc => ?_)
      · have hw := hw.1 hc
        refine j_aload_n C dX9_clear_144 rfl 0 rfl ?_
        refine gf_9_24 C ho_v0 hr_g1 k_788 dX9_clear_145 ?_
        refine j_bipush (v := 20) C dX9_clear_148 (by decide) ?_
        refine j_iload C dX9_clear_150 4 rfl ?_
        refine j_imul C dX9_clear_152 ?_
        refine j_iload_n C dX9_clear_153 rfl 2 rfl ?_
        refine j_iadd C dX9_clear_154 ?_
        obtain ⟨hi1, hw⟩ := hw
        refine j_iald C ho_g1 hi1 dX9_clear_155 ?_
        refine j_istore C dX9_clear_156 (by decide) rfl ?_
        refine j_iload_n C dX9_clear_158 rfl 3 rfl ?_
        refine j_iconst (v := 1) C dX9_clear_159 (by decide) ?_
        refine j_iadd C dX9_clear_160 ?_
        refine j_istore C dX9_clear_161 (by decide) rfl ?_
        obtain ⟨n, hw⟩ := hw
        exact J.sub (X9_clear_l163_ok C K ho_v0 hr_g1 ho_g1 hr_g2 ho_g2 hr_g3 ho_g3 hk93 ih n v1 v2 v3 v4 (D.1 g1 ((20 * v4) + v2).toNatClampNeg) (v2 + 1) D hw) [2, 3, 4, 5, 6, 1, 0] rfl
      · have hw := hw.2 hc
        refine j_goto (tgt := 250) C dX9_clear_141 (by decide) ?_
        exact J.sub (X9_clear_j250_ok C K ho_v0 hr_g1 ho_g1 hr_g2 ho_g2 hr_g3 ho_g3 hk93 ih v1 v2 v3 v4 D hw) [0, 1, 2, 3, 4] rfl
def X9_clear_l93_b (G : Shp) (post : Int32 → Dat → Prop) (v0 : Nat) (g1 : Nat) (g2 : Nat) (g3 : Nat) (rec : Int32 → Int32 → Dat → Prop) (v1 : Int32) (v2 : Int32) (D : Dat) : Prop := (((D.1 v0 21) ≤ v2 → ∃ n, X9_clear_l266 G post v0 g1 g2 g3 n v1 0 D) ∧ (¬ ((D.1 v0 21) ≤ v2) → (vp_in ((20 * v2) + v2) (G.2.2.1 g1) ∧ X9_sign_wp G D v0 (D.1 g1 ((20 * v2) + v2).toNatClampNeg) (fun r2 D3 => ((¬ r2 = 0 → ∃ n, X9_clear_l126 G post v0 g1 g2 g3 rec n v1 v2 (D.1 g1 ((20 * v2) + v2).toNatClampNeg) 0 D3) ∧ (r2 = 0 → (isB 0 ∧ post 0 D3)))))))
def X9_clear_l93 (G : Shp) (post : Int32 → Dat → Prop) (v0 : Nat) (g1 : Nat) (g2 : Nat) (g3 : Nat) : Nat → Int32 → Int32 → Dat → Prop
  | 0 => fun _ _ _ => False
  | n + 1 => X9_clear_l93_b G post v0 g1 g2 g3 (X9_clear_l93 G post v0 g1 g2 g3 n)
set_option maxRecDepth 100000 in
set_option maxHeartbeats 4000000 in
theorem X9_clear_l93_ok {κ : Ctx} {G : Shp} {post : Int32 → Dat → Prop} {v0 : Nat} {g1 : Nat} {g2 : Nat} {g3 : Nat} (C : Cx κ cX9_clear RX9 (rmN 4) 7) (K : RtI κ cX9_clear .boolean G post) (ho_v0 : isO G v0 9) (hr_g1 : G.2.2.2 v0 24 = some g1) (ho_g1 : isO G g1 11) (hr_g2 : G.2.2.2 v0 23 = some g2) (ho_g2 : isO G g2 12) (hr_g3 : G.2.2.2 v0 22 = some g3) (ho_g3 : isO G g3 12) : ∀ (n : Nat) (v1 : Int32) (v2 : Int32) (D : Dat), X9_clear_l93 G post v0 g1 g2 g3 n v1 v2 D → J κ 0 0 G D 93 [(0, .ref v0), (1, .int v1), (2, .int v2)] [] := by
  intro n
  induction n with
  | zero => intro v1 v2 D hw; exact hw.elim
  | succ n ih =>
    intro v1 v2 D hw
    have hw : X9_clear_l93_b G post v0 g1 g2 g3 (X9_clear_l93 G post v0 g1 g2 g3 n) v1 v2 D := hw
    unfold X9_clear_l93_b at hw
    refine j_iload_n C dX9_clear_93 rfl 2 rfl ?_
    refine j_aload_n C dX9_clear_94 rfl 0 rfl ?_
    refine gf_9_21 C ho_v0 k_785 dX9_clear_95 ?_
    refine j_icmp_ge (tgt := 264) C dX9_clear_98 (by decide) (fun hc => ?_) (fun hc => ?_)
    · have hw := hw.1 hc
      refine j_iconst (v := 0) C dX9_clear_264 (by decide) ?_
      refine j_istore_n C dX9_clear_265 rfl (by decide) rfl ?_
      obtain ⟨n, hw⟩ := hw
      exact J.sub (X9_clear_l266_ok C K ho_v0 hr_g1 ho_g1 hr_g2 ho_g2 hr_g3 ho_g3 n v1 0 D hw) [1, 2, 0] rfl
    · have hw := hw.2 hc
      refine j_aload_n C dX9_clear_101 rfl 0 rfl ?_
      refine gf_9_24 C ho_v0 hr_g1 k_788 dX9_clear_102 ?_
      refine j_bipush (v := 20) C dX9_clear_105 (by decide) ?_
      refine j_iload_n C dX9_clear_107 rfl 2 rfl ?_
      refine j_imul C dX9_clear_108 ?_
      refine j_iload_n C dX9_clear_109 rfl 2 rfl ?_
      refine j_iadd C dX9_clear_110 ?_
      obtain ⟨hi1, hw⟩ := hw
      refine j_iald C ho_g1 hi1 dX9_clear_111 ?_
      refine j_istore_n C dX9_clear_112 rfl (by decide) rfl ?_
      refine j_aload_n C dX9_clear_113 rfl 1 rfl ?_
      refine j_iload_n C dX9_clear_114 rfl 0 rfl ?_
      refine j_cVI (As := [.int (D.1 g1 ((20 * v2) + v2).toNatClampNeg)]) (st := []) C (X9_sign_ok κ.2.1 G D v0 (D.1 g1 ((20 * v2) + v2).toNatClampNeg) _ hw) ho_v0 rfl k_990 mv_X9_sign ⟨by decide, by decide⟩ ⟨rfl, rfl⟩ rfl rfl (Nat.le_of_ble_eq_true rfl) ⟨Nat.zero_le _, Nat.zero_le _⟩ dX9_clear_115 (fun r2 D3 hw => ?_)
      refine j_if_ne (tgt := 123) C dX9_clear_118 (by decide) (fun hc => ?_) (fun hc => ?_)
      · have hw := hw.1 hc
        refine j_iconst (v := 0) C dX9_clear_123 (by decide) ?_
        refine j_istore C dX9_clear_124 (by decide) rfl ?_
        obtain ⟨n, hw⟩ := hw
        exact J.sub (X9_clear_l126_ok C K ho_v0 hr_g1 ho_g1 hr_g2 ho_g2 hr_g3 ho_g3 ih n v1 v2 (D.1 g1 ((20 * v2) + v2).toNatClampNeg) 0 D3 hw) [2, 3, 4, 1, 0] rfl
      · have hw := hw.2 hc
        refine j_iconst (v := 0) C dX9_clear_121 (by decide) ?_
        obtain ⟨hb4, hw⟩ := hw
        exact K _ _ _ _ dX9_clear_122 (isB_n hb4) hw
def X9_clear_l17_b (G : Shp) (post : Int32 → Dat → Prop) (v0 : Nat) (g1 : Nat) (g2 : Nat) (g3 : Nat) (k7 : Int32 → Dat → Prop) (rec : Int32 → Int32 → Dat → Prop) (v1 : Int32) (v2 : Int32) (D : Dat) : Prop := (((D.1 v0 21) ≤ v2 → (vp_in v1 (G.2.2.1 g2) ∧ X9_whole_wp G D v0 (D.2 g2 v1.toNatClampNeg) (fun r2 D3 => (vp_in ((20 * v1) + 19) (G.2.2.1 g1) ∧ k7 (v1 + 1) (dI D3 g1 ((20 * v1) + 19).toNatClampNeg r2))))) ∧ (¬ ((D.1 v0 21) ≤ v2) → (vp_in ((19 * v1) + v2) (G.2.2.1 g3) ∧ X9_whole_wp G D v0 (D.2 g3 ((19 * v1) + v2).toNatClampNeg) (fun r6 D7 => (vp_in ((20 * v1) + v2) (G.2.2.1 g1) ∧ rec v1 (v2 + 1) (dI D7 g1 ((20 * v1) + v2).toNatClampNeg r6))))))
def X9_clear_l17 (G : Shp) (post : Int32 → Dat → Prop) (v0 : Nat) (g1 : Nat) (g2 : Nat) (g3 : Nat) (k7 : Int32 → Dat → Prop) : Nat → Int32 → Int32 → Dat → Prop
  | 0 => fun _ _ _ => False
  | n + 1 => X9_clear_l17_b G post v0 g1 g2 g3 k7 (X9_clear_l17 G post v0 g1 g2 g3 k7 n)
set_option maxRecDepth 100000 in
set_option maxHeartbeats 4000000 in
theorem X9_clear_l17_ok {κ : Ctx} {G : Shp} {post : Int32 → Dat → Prop} {v0 : Nat} {g1 : Nat} {g2 : Nat} {g3 : Nat} (C : Cx κ cX9_clear RX9 (rmN 4) 7) (K : RtI κ cX9_clear .boolean G post) (ho_v0 : isO G v0 9) (hr_g1 : G.2.2.2 v0 24 = some g1) (ho_g1 : isO G g1 11) (hr_g2 : G.2.2.2 v0 23 = some g2) (ho_g2 : isO G g2 12) (hr_g3 : G.2.2.2 v0 22 = some g3) (ho_g3 : isO G g3 12) {k7 : Int32 → Dat → Prop} (hk7 : ∀ (v1 : Int32) (D : Dat), k7 v1 D → J κ 0 0 G D 7 [(0, .ref v0), (1, .int v1)] []) : ∀ (n : Nat) (v1 : Int32) (v2 : Int32) (D : Dat), X9_clear_l17 G post v0 g1 g2 g3 k7 n v1 v2 D → J κ 0 0 G D 17 [(0, .ref v0), (1, .int v1), (2, .int v2)] [] := by
  intro n
  induction n with
  | zero => intro v1 v2 D hw; exact hw.elim
  | succ n ih =>
    intro v1 v2 D hw
    have hw : X9_clear_l17_b G post v0 g1 g2 g3 k7 (X9_clear_l17 G post v0 g1 g2 g3 k7 n) v1 v2 D := hw
    unfold X9_clear_l17_b at hw
    refine j_iload_n C dX9_clear_17 rfl 2 rfl ?_
    refine j_aload_n C dX9_clear_18 rfl 0 rfl ?_
    refine gf_9_21 C ho_v0 k_785 dX9_clear_19 ?_
    refine j_icmp_ge (tgt := 57) C dX9_clear_22 (by decide) (fun hc => ?_) (fun hc => ?_)
    · have hw := hw.1 hc
      refine j_aload_n C dX9_clear_57 rfl 0 rfl ?_
      refine gf_9_24 C ho_v0 hr_g1 k_788 dX9_clear_58 ?_
      refine j_bipush (v := 20) C dX9_clear_61 (by decide) ?_
      refine j_iload_n C dX9_clear_63 rfl 1 rfl ?_
      refine j_imul C dX9_clear_64 ?_
      refine j_bipush (v := 19) C dX9_clear_65 (by decide) ?_
      refine j_iadd C dX9_clear_67 ?_
      refine j_aload_n C dX9_clear_68 rfl 0 rfl ?_
      refine j_aload_n C dX9_clear_69 rfl 0 rfl ?_
      refine gf_9_23 C ho_v0 hr_g2 k_787 dX9_clear_70 ?_
      refine j_iload_n C dX9_clear_73 rfl 1 rfl ?_
      obtain ⟨hi1, hw⟩ := hw
      refine j_lald C ho_g2 hi1 dX9_clear_74 ?_
      refine j_cVI (As := [.long (D.2 g2 v1.toNatClampNeg)]) (st := [.int ((20 * v1) + 19), .ref g1]) C (X9_whole_ok κ.2.1 G D v0 (D.2 g2 v1.toNatClampNeg) _ hw) ho_v0 rfl k_977 mv_X9_whole ⟨by decide, by decide⟩ ⟨rfl, rfl⟩ rfl rfl (Nat.le_of_ble_eq_true rfl) ⟨Nat.zero_le _, Nat.zero_le _⟩ dX9_clear_75 (fun r2 D3 hw => ?_)
      obtain ⟨hi4, hw⟩ := hw
      refine j_iast C ho_g1 hi4 dX9_clear_78 ?_
      refine j_iinc (v := v1 + 1) C dX9_clear_79 1 rfl rfl (by decide) rfl ?_
      refine j_goto (tgt := 7) C dX9_clear_82 (by decide) ?_
      exact J.sub (hk7 (v1 + 1) (dI D3 g1 ((20 * v1) + 19).toNatClampNeg r2) hw) [1, 0] rfl
    · have hw := hw.2 hc
      refine j_aload_n C dX9_clear_25 rfl 0 rfl ?_
      refine gf_9_24 C ho_v0 hr_g1 k_788 dX9_clear_26 ?_
      refine j_bipush (v := 20) C dX9_clear_29 (by decide) ?_
      refine j_iload_n C dX9_clear_31 rfl 1 rfl ?_
      refine j_imul C dX9_clear_32 ?_
      refine j_iload_n C dX9_clear_33 rfl 2 rfl ?_
      refine j_iadd C dX9_clear_34 ?_
      refine j_aload_n C dX9_clear_35 rfl 0 rfl ?_
      refine j_aload_n C dX9_clear_36 rfl 0 rfl ?_
      refine gf_9_22 C ho_v0 hr_g3 k_786 dX9_clear_37 ?_
      refine j_bipush (v := 19) C dX9_clear_40 (by decide) ?_
      refine j_iload_n C dX9_clear_42 rfl 1 rfl ?_
      refine j_imul C dX9_clear_43 ?_
      refine j_iload_n C dX9_clear_44 rfl 2 rfl ?_
      refine j_iadd C dX9_clear_45 ?_
      obtain ⟨hi5, hw⟩ := hw
      refine j_lald C ho_g3 hi5 dX9_clear_46 ?_
      refine j_cVI (As := [.long (D.2 g3 ((19 * v1) + v2).toNatClampNeg)]) (st := [.int ((20 * v1) + v2), .ref g1]) C (X9_whole_ok κ.2.1 G D v0 (D.2 g3 ((19 * v1) + v2).toNatClampNeg) _ hw) ho_v0 rfl k_977 mv_X9_whole ⟨by decide, by decide⟩ ⟨rfl, rfl⟩ rfl rfl (Nat.le_of_ble_eq_true rfl) ⟨Nat.zero_le _, Nat.zero_le _⟩ dX9_clear_47 (fun r6 D7 hw => ?_)
      obtain ⟨hi8, hw⟩ := hw
      refine j_iast C ho_g1 hi8 dX9_clear_50 ?_
      refine j_iinc (v := v2 + 1) C dX9_clear_51 2 rfl rfl (by decide) rfl ?_
      refine j_goto (tgt := 17) C dX9_clear_54 (by decide) ?_
      exact J.sub (ih v1 (v2 + 1) (dI D7 g1 ((20 * v1) + v2).toNatClampNeg r6) hw) [1, 2, 0] rfl
def X9_clear_l7_b (G : Shp) (post : Int32 → Dat → Prop) (v0 : Nat) (g1 : Nat) (g2 : Nat) (g3 : Nat) (rec : Int32 → Dat → Prop) (v1 : Int32) (D : Dat) : Prop := (((D.1 v0 21) ≤ v1 → X9_whole_wp G D v0 1 (fun r1 D2 => ∃ n, X9_clear_l93 G post v0 g1 g2 g3 n r1 0 D2)) ∧ (¬ ((D.1 v0 21) ≤ v1) → ∃ n, X9_clear_l17 G post v0 g1 g2 g3 rec n v1 0 D))
def X9_clear_l7 (G : Shp) (post : Int32 → Dat → Prop) (v0 : Nat) (g1 : Nat) (g2 : Nat) (g3 : Nat) : Nat → Int32 → Dat → Prop
  | 0 => fun _ _ => False
  | n + 1 => X9_clear_l7_b G post v0 g1 g2 g3 (X9_clear_l7 G post v0 g1 g2 g3 n)
set_option maxRecDepth 100000 in
set_option maxHeartbeats 4000000 in
theorem X9_clear_l7_ok {κ : Ctx} {G : Shp} {post : Int32 → Dat → Prop} {v0 : Nat} {g1 : Nat} {g2 : Nat} {g3 : Nat} (C : Cx κ cX9_clear RX9 (rmN 4) 7) (K : RtI κ cX9_clear .boolean G post) (ho_v0 : isO G v0 9) (hr_g1 : G.2.2.2 v0 24 = some g1) (ho_g1 : isO G g1 11) (hr_g2 : G.2.2.2 v0 23 = some g2) (ho_g2 : isO G g2 12) (hr_g3 : G.2.2.2 v0 22 = some g3) (ho_g3 : isO G g3 12) : ∀ (n : Nat) (v1 : Int32) (D : Dat), X9_clear_l7 G post v0 g1 g2 g3 n v1 D → J κ 0 0 G D 7 [(0, .ref v0), (1, .int v1)] [] := by
  intro n
  induction n with
  | zero => intro v1 D hw; exact hw.elim
  | succ n ih =>
    intro v1 D hw
    have hw : X9_clear_l7_b G post v0 g1 g2 g3 (X9_clear_l7 G post v0 g1 g2 g3 n) v1 D := hw
    unfold X9_clear_l7_b at hw
    refine j_iload_n C dX9_clear_7 rfl 1 rfl ?_
    refine j_aload_n C dX9_clear_8 rfl 0 rfl ?_
    refine gf_9_21 C ho_v0 k_785 dX9_clear_9 ?_
    refine j_icmp_ge (tgt := 85) C dX9_clear_12 (by decide) (fun hc => ?_) (fun hc => ?_)
    · have hw := hw.1 hc
      refine j_aload_n C dX9_clear_85 rfl 0 rfl ?_
      refine j_lconst (v := 1) C dX9_clear_86 (by decide) ?_
      refine j_cVI (As := [.long 1]) (st := []) C (X9_whole_ok κ.2.1 G D v0 1 _ hw) ho_v0 rfl k_977 mv_X9_whole ⟨by decide, by decide⟩ ⟨rfl, rfl⟩ rfl rfl (Nat.le_of_ble_eq_true rfl) ⟨Nat.zero_le _, Nat.zero_le _⟩ dX9_clear_87 (fun r1 D2 hw => ?_)
      refine j_istore_n C dX9_clear_90 rfl (by decide) rfl ?_
      refine j_iconst (v := 0) C dX9_clear_91 (by decide) ?_
      refine j_istore_n C dX9_clear_92 rfl (by decide) rfl ?_
      obtain ⟨n, hw⟩ := hw
      exact J.sub (X9_clear_l93_ok C K ho_v0 hr_g1 ho_g1 hr_g2 ho_g2 hr_g3 ho_g3 n r1 0 D2 hw) [2, 1, 0] rfl
    · have hw := hw.2 hc
      refine j_iconst (v := 0) C dX9_clear_15 (by decide) ?_
      refine j_istore_n C dX9_clear_16 rfl (by decide) rfl ?_
      obtain ⟨n, hw⟩ := hw
      exact J.sub (X9_clear_l17_ok C K ho_v0 hr_g1 ho_g1 hr_g2 ho_g2 hr_g3 ho_g3 ih n v1 0 D hw) [1, 2, 0] rfl
def X9_clear_wp (G : Shp) (D : Dat) (v0 : Nat) (post : Int32 → Dat → Prop) : Prop := isO G v0 9 ∧ ∃ g1, G.2.2.2 v0 24 = some g1 ∧ isO G g1 11 ∧ ∃ g2, G.2.2.2 v0 23 = some g2 ∧ isO G g2 12 ∧ ∃ g3, G.2.2.2 v0 22 = some g3 ∧ isO G g3 12 ∧ ∃ n, X9_clear_l7 G post v0 g1 g2 g3 n 0 (dI D v0 2 0)
set_option maxRecDepth 100000 in
set_option maxHeartbeats 4000000 in
theorem X9_clear_ok (l : Launch) (G : Shp) (D : Dat) (v0 : Nat) (post : Int32 → Dat → Prop) (hw : X9_clear_wp G D v0 post) : CtI l yX9_clear cX9_clear 7 .boolean (rmN 4) [.ref v0] G D post := by
  obtain ⟨ho_v0, g1, hr_g1, ho_g1, g2, hr_g2, ho_g2, g3, hr_g3, ho_g3, hw⟩ := hw
  refine ctI_of (by decide) rfl (Nat.le_of_ble_eq_true rfl) ?_
  intro κ hκ C K
  subst hκ
  have C : Cx κ cX9_clear RX9 (rmN 4) 7 := C
  refine j_aload_n C dX9_clear_0 rfl 0 rfl ?_
  refine j_iconst (v := 0) C dX9_clear_1 (by decide) ?_
  refine pf_9_2 C ho_v0 k_766 dX9_clear_2 ?_
  refine j_iconst (v := 0) C dX9_clear_5 (by decide) ?_
  refine j_istore_n C dX9_clear_6 rfl (by decide) rfl ?_
  obtain ⟨n, hw⟩ := hw
  exact J.sub (X9_clear_l7_ok C K ho_v0 hr_g1 ho_g1 hr_g2 ho_g2 hr_g3 ho_g3 n 0 (dI D v0 2 0) hw) [1, 0] rfl
/-! X9_cost -/
def X9_cost_l21_b (G : Shp) (post : Int32 → Dat → Prop) (v0 : Nat) (g1 : Nat) (rec : Int32 → Int32 → Dat → Prop) (v1 : Int32) (v2 : Int32) (D : Dat) : Prop := (((D.1 v0 21) ≤ v2 → post v1 D) ∧ (¬ ((D.1 v0 21) ≤ v2) → X9_held_wp G D v0 v2 (fun r1 D2 => (vp_in v2 (G.2.2.1 g1) ∧ X9_whole_wp G D2 v0 (D2.2 g1 v2.toNatClampNeg) (fun r4 D5 => X9_times_wp G D5 v0 r1 r4 (fun r6 D7 => X9_less_wp G D7 v0 v1 r6 (fun r8 D9 => rec r8 (v2 + 1) D9)))))))
def X9_cost_l21 (G : Shp) (post : Int32 → Dat → Prop) (v0 : Nat) (g1 : Nat) : Nat → Int32 → Int32 → Dat → Prop
  | 0 => fun _ _ _ => False
  | n + 1 => X9_cost_l21_b G post v0 g1 (X9_cost_l21 G post v0 g1 n)
set_option maxRecDepth 100000 in
set_option maxHeartbeats 4000000 in
theorem X9_cost_l21_ok {κ : Ctx} {G : Shp} {post : Int32 → Dat → Prop} {v0 : Nat} {g1 : Nat} (C : Cx κ cX9_cost RX9 (rmN 4) 3) (K : RtI κ cX9_cost .int G post) (ho_v0 : isO G v0 9) (hr_g1 : G.2.2.2 v0 23 = some g1) (ho_g1 : isO G g1 12) : ∀ (n : Nat) (v1 : Int32) (v2 : Int32) (D : Dat), X9_cost_l21 G post v0 g1 n v1 v2 D → J κ 0 0 G D 21 [(0, .ref v0), (1, .int v1), (2, .int v2)] [] := by
  intro n
  induction n with
  | zero => intro v1 v2 D hw; exact hw.elim
  | succ n ih =>
    intro v1 v2 D hw
    have hw : X9_cost_l21_b G post v0 g1 (X9_cost_l21 G post v0 g1 n) v1 v2 D := hw
    unfold X9_cost_l21_b at hw
    refine j_iload_n C dX9_cost_21 rfl 2 rfl ?_
    refine j_aload_n C dX9_cost_22 rfl 0 rfl ?_
    refine gf_9_21 C ho_v0 k_785 dX9_cost_23 ?_
    refine j_icmp_ge (tgt := 60) C dX9_cost_26 (by decide) (fun hc => ?_) (fun hc => ?_)
    · have hw := hw.1 hc
      refine j_iload_n C dX9_cost_60 rfl 1 rfl ?_
      exact K _ _ _ _ dX9_cost_61 rfl hw
    · have hw := hw.2 hc
      refine j_aload_n C dX9_cost_29 rfl 0 rfl ?_
      refine j_iload_n C dX9_cost_30 rfl 1 rfl ?_
      refine j_aload_n C dX9_cost_31 rfl 0 rfl ?_
      refine j_aload_n C dX9_cost_32 rfl 0 rfl ?_
      refine j_iload_n C dX9_cost_33 rfl 2 rfl ?_
      refine j_cVI (As := [.int v2]) (st := [.ref v0, .int v1, .ref v0]) C (X9_held_ok κ.2.1 G D v0 v2 _ hw) ho_v0 rfl k_1052 mv_X9_held ⟨by decide, by decide⟩ ⟨rfl, rfl⟩ rfl rfl (Nat.le_of_ble_eq_true rfl) ⟨Nat.zero_le _, Nat.zero_le _⟩ dX9_cost_34 (fun r1 D2 hw => ?_)
      refine j_aload_n C dX9_cost_37 rfl 0 rfl ?_
      refine j_aload_n C dX9_cost_38 rfl 0 rfl ?_
      refine gf_9_23 C ho_v0 hr_g1 k_787 dX9_cost_39 ?_
      refine j_iload_n C dX9_cost_42 rfl 2 rfl ?_
      obtain ⟨hi3, hw⟩ := hw
      refine j_lald C ho_g1 hi3 dX9_cost_43 ?_
      refine j_cVI (As := [.long (D2.2 g1 v2.toNatClampNeg)]) (st := [.int r1, .ref v0, .int v1, .ref v0]) C (X9_whole_ok κ.2.1 G D2 v0 (D2.2 g1 v2.toNatClampNeg) _ hw) ho_v0 rfl k_977 mv_X9_whole ⟨by decide, by decide⟩ ⟨rfl, rfl⟩ rfl rfl (Nat.le_of_ble_eq_true rfl) ⟨Nat.zero_le _, Nat.zero_le _⟩ dX9_cost_44 (fun r4 D5 hw => ?_)
      refine j_cVI (As := [.int r1, .int r4]) (st := [.int v1, .ref v0]) C (X9_times_ok κ.2.1 G D5 v0 r1 r4 _ hw) ho_v0 rfl k_994 mv_X9_times ⟨by decide, by decide⟩ ⟨rfl, rfl⟩ rfl rfl (Nat.le_of_ble_eq_true rfl) ⟨Nat.zero_le _, Nat.zero_le _⟩ dX9_cost_47 (fun r6 D7 hw => ?_)
      refine j_cVI (As := [.int v1, .int r6]) (st := []) C (X9_less_ok κ.2.1 G D7 v0 v1 r6 _ hw) ho_v0 rfl k_1002 mv_X9_less ⟨by decide, by decide⟩ ⟨rfl, rfl⟩ rfl rfl (Nat.le_of_ble_eq_true rfl) ⟨Nat.zero_le _, Nat.zero_le _⟩ dX9_cost_50 (fun r8 D9 hw => ?_)
      refine j_istore_n C dX9_cost_53 rfl (by decide) rfl ?_
      refine j_iinc (v := v2 + 1) C dX9_cost_54 2 rfl rfl (by decide) rfl ?_
      refine j_goto (tgt := 21) C dX9_cost_57 (by decide) ?_
      exact J.sub (ih r8 (v2 + 1) D9 hw) [2, 1, 0] rfl
def X9_cost_wp (G : Shp) (D : Dat) (v0 : Nat) (post : Int32 → Dat → Prop) : Prop := isO G v0 9 ∧ ∃ g1, G.2.2.2 v0 23 = some g1 ∧ isO G g1 12 ∧ X9_whole_wp G D v0 (D.2 v0 25) (fun r1 D2 => X9_held_wp G D2 v0 19 (fun r3 D4 => X9_times_wp G D4 v0 r1 r3 (fun r5 D6 => ∃ n, X9_cost_l21 G post v0 g1 n r5 0 D6)))
set_option maxRecDepth 100000 in
set_option maxHeartbeats 4000000 in
theorem X9_cost_ok (l : Launch) (G : Shp) (D : Dat) (v0 : Nat) (post : Int32 → Dat → Prop) (hw : X9_cost_wp G D v0 post) : CtI l yX9_cost cX9_cost 3 .int (rmN 4) [.ref v0] G D post := by
  obtain ⟨ho_v0, g1, hr_g1, ho_g1, hw⟩ := hw
  refine ctI_of (by decide) rfl (Nat.le_of_ble_eq_true rfl) ?_
  intro κ hκ C K
  subst hκ
  have C : Cx κ cX9_cost RX9 (rmN 4) 3 := C
  refine j_aload_n C dX9_cost_0 rfl 0 rfl ?_
  refine j_aload_n C dX9_cost_1 rfl 0 rfl ?_
  refine j_aload_n C dX9_cost_2 rfl 0 rfl ?_
  refine gf_9_25 C ho_v0 k_789 dX9_cost_3 ?_
  refine j_cVI (As := [.long (D.2 v0 25)]) (st := [.ref v0]) C (X9_whole_ok κ.2.1 G D v0 (D.2 v0 25) _ hw) ho_v0 rfl k_977 mv_X9_whole ⟨by decide, by decide⟩ ⟨rfl, rfl⟩ rfl rfl (Nat.le_of_ble_eq_true rfl) ⟨Nat.zero_le _, Nat.zero_le _⟩ dX9_cost_6 (fun r1 D2 hw => ?_)
  refine j_aload_n C dX9_cost_9 rfl 0 rfl ?_
  refine j_bipush (v := 19) C dX9_cost_10 (by decide) ?_
  refine j_cVI (As := [.int 19]) (st := [.int r1, .ref v0]) C (X9_held_ok κ.2.1 G D2 v0 19 _ hw) ho_v0 rfl k_1052 mv_X9_held ⟨by decide, by decide⟩ ⟨rfl, rfl⟩ rfl rfl (Nat.le_of_ble_eq_true rfl) ⟨Nat.zero_le _, Nat.zero_le _⟩ dX9_cost_12 (fun r3 D4 hw => ?_)
  refine j_cVI (As := [.int r1, .int r3]) (st := []) C (X9_times_ok κ.2.1 G D4 v0 r1 r3 _ hw) ho_v0 rfl k_994 mv_X9_times ⟨by decide, by decide⟩ ⟨rfl, rfl⟩ rfl rfl (Nat.le_of_ble_eq_true rfl) ⟨Nat.zero_le _, Nat.zero_le _⟩ dX9_cost_15 (fun r5 D6 hw => ?_)
  refine j_istore_n C dX9_cost_18 rfl (by decide) rfl ?_
  refine j_iconst (v := 0) C dX9_cost_19 (by decide) ?_
  refine j_istore_n C dX9_cost_20 rfl (by decide) rfl ?_
  obtain ⟨n, hw⟩ := hw
  exact J.sub (X9_cost_l21_ok C K ho_v0 hr_g1 ho_g1 n r5 0 D6 hw) [2, 1, 0] rfl
