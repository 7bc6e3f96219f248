/-! X9_restOf -/
def X9_restOf_wp (G : Shp) (D : Dat) (v0 : Nat) (v1 : Int32) (v2 : Int32) (post : Int32 → Dat → Prop) : Prop := isO G v0 9 ∧ ∃ g1, G.2.2.2 v0 10 = some g1 ∧ isO G g1 11 ∧ X9_spot_wp G D v1 v2 (fun r1 D2 => (vp_in r1 (G.2.2.1 g1) ∧ X9_whole_wp G D2 v0 ((D2.1 g1 r1.toNatClampNeg).toInt64) (fun r4 D5 => X9_held_wp G D5 v0 19 (fun r6 D7 => X9_times_wp G D7 v0 r4 r6 (fun r8 D9 => X9_given_wp G D9 v0 v1 v2 3 (fun r10 D11 => X9_less_wp G D11 v0 r8 r10 (fun r12 D13 => post r12 D13)))))))
set_option maxRecDepth 100000 in
set_option maxHeartbeats 4000000 in
theorem X9_restOf_ok (l : Launch) (G : Shp) (D : Dat) (v0 : Nat) (v1 : Int32) (v2 : Int32) (post : Int32 → Dat → Prop) (hw : X9_restOf_wp G D v0 v1 v2 post) : CtI l yX9_restOf cX9_restOf 3 .int (rmN 4) [.ref v0, .int v1, .int v2] G D post := by
  obtain ⟨ho_v0, g1, hr_g1, ho_g1, hw⟩ := hw
  refine ctI_of (by decide) rfl (Nat.le_of_ble_eq_true rfl) ?_
  intro κ hκ C K
  subst hκ
  have C : Cx κ cX9_restOf RX9 (rmN 4) 3 := C
  refine j_aload_n C dX9_restOf_0 rfl 0 rfl ?_
  refine j_aload_n C dX9_restOf_1 rfl 0 rfl ?_
  refine j_aload_n C dX9_restOf_2 rfl 0 rfl ?_
  refine j_aload_n C dX9_restOf_3 rfl 0 rfl ?_
  refine gf_9_10 C ho_v0 hr_g1 k_774 dX9_restOf_4 ?_
  refine j_iload_n C dX9_restOf_7 rfl 1 rfl ?_
  refine j_iload_n C dX9_restOf_8 rfl 2 rfl ?_
  refine j_cSI (As := [.int v1, .int v2]) (st := [.ref g1, .ref v0, .ref v0, .ref v0]) C (X9_spot_ok κ.2.1 G D v1 v2 _ hw) k_882 ms_X9_spot ⟨by decide, by decide⟩ ⟨rfl, rfl⟩ rfl rfl (Nat.le_of_ble_eq_true rfl) ⟨Nat.zero_le _, Nat.zero_le _⟩ dX9_restOf_9 (fun r1 D2 hw => ?_)
  obtain ⟨hi3, hw⟩ := hw
  refine j_iald C ho_g1 hi3 dX9_restOf_12 ?_
  refine j_i2l C dX9_restOf_13 ?_
  refine j_cVI (As := [.long ((D2.1 g1 r1.toNatClampNeg).toInt64)]) (st := [.ref v0, .ref v0]) C (X9_whole_ok κ.2.1 G D2 v0 ((D2.1 g1 r1.toNatClampNeg).toInt64) _ hw) ho_v0 rfl k_977 mv_X9_whole ⟨by decide, by decide⟩ ⟨rfl, rfl⟩ rfl rfl (Nat.le_of_ble_eq_true rfl) ⟨Nat.zero_le _, Nat.zero_le _⟩ dX9_restOf_14 (fun r4 D5 hw => ?_)
  refine j_aload_n C dX9_restOf_17 rfl 0 rfl ?_
  refine j_bipush (v := 19) C dX9_restOf_18 (by decide) ?_
  refine j_cVI (As := [.int 19]) (st := [.int r4, .ref v0, .ref v0]) C (X9_held_ok κ.2.1 G D5 v0 19 _ hw) ho_v0 rfl k_1052 mv_X9_held ⟨by decide, by decide⟩ ⟨rfl, rfl⟩ rfl rfl (Nat.le_of_ble_eq_true rfl) ⟨Nat.zero_le _, Nat.zero_le _⟩ dX9_restOf_20 (fun r6 D7 hw => ?_)
  refine j_cVI (As := [.int r4, .int r6]) (st := [.ref v0]) C (X9_times_ok κ.2.1 G D7 v0 r4 r6 _ hw) ho_v0 rfl k_994 mv_X9_times ⟨by decide, by decide⟩ ⟨rfl, rfl⟩ rfl rfl (Nat.le_of_ble_eq_true rfl) ⟨Nat.zero_le _, Nat.zero_le _⟩ dX9_restOf_23 (fun r8 D9 hw => ?_)
  refine j_aload_n C dX9_restOf_26 rfl 0 rfl ?_
  refine j_iload_n C dX9_restOf_27 rfl 1 rfl ?_
  refine j_iload_n C dX9_restOf_28 rfl 2 rfl ?_
  refine j_iconst (v := 3) C dX9_restOf_29 (by decide) ?_
  refine j_cVI (As := [.int v1, .int v2, .int 3]) (st := [.int r8, .ref v0]) C (X9_given_ok κ.2.1 G D9 v0 v1 v2 3 _ hw) ho_v0 rfl k_1089 mv_X9_given ⟨by decide, by decide⟩ ⟨rfl, rfl⟩ rfl rfl (Nat.le_of_ble_eq_true rfl) ⟨Nat.zero_le _, Nat.zero_le _⟩ dX9_restOf_30 (fun r10 D11 hw => ?_)
  refine j_cVI (As := [.int r8, .int r10]) (st := []) C (X9_less_ok κ.2.1 G D11 v0 r8 r10 _ hw) ho_v0 rfl k_1002 mv_X9_less ⟨by decide, by decide⟩ ⟨rfl, rfl⟩ rfl rfl (Nat.le_of_ble_eq_true rfl) ⟨Nat.zero_le _, Nat.zero_le _⟩ dX9_restOf_33 (fun r12 D13 hw => ?_)
  exact K _ _ _ _ dX9_restOf_36 rfl hw
/-! X9_tells -/
def X9_tells_j79 (G : Shp) (post : Int32 → Dat → Prop) (v0 : Nat) (v1 : Int32) (v2 : Int32) (s0 : Int32) (s1 : Nat) (D : Dat) : Prop := (isO G s1 9 ∧ X9_tellsNumber_wp G D s1 s0 (fun D3 => post ((dI D3 v0 0 0).1 v0 9) (dI D3 v0 0 0)))
set_option maxRecDepth 100000 in
set_option maxHeartbeats 4000000 in
theorem X9_tells_j79_ok {κ : Ctx} {G : Shp} {post : Int32 → Dat → Prop} {v0 : Nat} {v1 : Int32} {v2 : Int32} (C : Cx κ cX9_tells RX9 (rmN 4) 6) (K : RtI κ cX9_tells .int G post) (ho_v0 : isO G v0 9) (s0 : Int32) (s1 : Nat) (D : Dat) (hw : X9_tells_j79 G post v0 v1 v2 s0 s1 D) : J κ 0 0 G D 79 [(0, .ref v0)] [.int s0, .ref s1] := by
  unfold X9_tells_j79 at hw
  obtain ⟨ho1, hw⟩ := hw
  refine j_cVV (As := [.int s0]) (st := []) C (X9_tellsNumber_ok κ.2.1 G D s1 s0 _ hw) ho1 rfl k_1068 mv_X9_tellsNumber ⟨by decide, by decide⟩ ⟨rfl, rfl⟩ rfl rfl (Nat.le_of_ble_eq_true rfl) ⟨Nat.zero_le _, Nat.zero_le _⟩ dX9_tells_79 (fun D3 hw => ?_)
  refine j_aload_n C dX9_tells_82 rfl 0 rfl ?_
  refine j_iconst (v := 0) C dX9_tells_83 (by decide) ?_
  refine pf_9_0 C ho_v0 k_764 dX9_tells_84 ?_
  refine j_aload_n C dX9_tells_87 rfl 0 rfl ?_
  refine gf_9_9 C ho_v0 k_773 dX9_tells_88 ?_
  exact K _ _ _ _ dX9_tells_91 rfl hw
def X9_tells_j49 (G : Shp) (post : Int32 → Dat → Prop) (v0 : Nat) (v1 : Int32) (v2 : Int32) (v5 : Int32) (s0 : Int32) (s1 : Nat) (D : Dat) : Prop := (isO G s1 9 ∧ X9_tellsNumber_wp G D s1 s0 (fun D3 => X9_tells0_wp G D3 v0 47 (fun D5 => X9_sign_wp G D5 v0 v5 (fun r6 D7 => ((0 ≤ r6 → X9_tells_j79 G post v0 v1 v2 v5 v0 D7) ∧ (¬ (0 ≤ r6) → X9_turned_wp G D7 v0 v5 (fun r8 D9 => X9_tells_j79 G post v0 v1 v2 r8 v0 D9)))))))
set_option maxRecDepth 100000 in
set_option maxHeartbeats 4000000 in
theorem X9_tells_j49_ok {κ : Ctx} {G : Shp} {post : Int32 → Dat → Prop} {v0 : Nat} {v1 : Int32} {v2 : Int32} (C : Cx κ cX9_tells RX9 (rmN 4) 6) (K : RtI κ cX9_tells .int G post) (ho_v0 : isO G v0 9) (v5 : Int32) (s0 : Int32) (s1 : Nat) (D : Dat) (hw : X9_tells_j49 G post v0 v1 v2 v5 s0 s1 D) : J κ 0 0 G D 49 [(0, .ref v0), (5, .int v5)] [.int s0, .ref s1] := by
  unfold X9_tells_j49 at hw
  obtain ⟨ho1, hw⟩ := hw
  refine j_cVV (As := [.int s0]) (st := []) C (X9_tellsNumber_ok κ.2.1 G D s1 s0 _ hw) ho1 rfl k_1068 mv_X9_tellsNumber ⟨by decide, by decide⟩ ⟨rfl, rfl⟩ rfl rfl (Nat.le_of_ble_eq_true rfl) ⟨Nat.zero_le _, Nat.zero_le _⟩ dX9_tells_49 (fun D3 hw => ?_)
  refine j_aload_n C dX9_tells_52 rfl 0 rfl ?_
  refine j_bipush (v := 47) C dX9_tells_53 (by decide) ?_
  refine j_cVV (As := [.int 47]) (st := []) C (X9_tells0_ok κ.2.1 G D3 v0 47 _ hw) ho_v0 rfl k_1072 mv_X9_tells0 ⟨by decide, by decide⟩ ⟨rfl, rfl⟩ rfl rfl (Nat.le_of_ble_eq_true rfl) ⟨Nat.zero_le _, Nat.zero_le _⟩ dX9_tells_55 (fun D5 hw => ?_)
  refine j_aload_n C dX9_tells_58 rfl 0 rfl ?_
  refine j_aload_n C dX9_tells_59 rfl 0 rfl ?_
  refine j_iload C dX9_tells_60 1 rfl ?_
  refine j_cVI (As := [.int v5]) (st := [.ref v0]) C (X9_sign_ok κ.2.1 G D5 v0 v5 _ hw) ho_v0 rfl k_990 mv_X9_sign ⟨by decide, by decide⟩ ⟨rfl, rfl⟩ rfl rfl (Nat.le_of_ble_eq_true rfl) ⟨Nat.zero_le _, Nat.zero_le _⟩ dX9_tells_62 (fun r6 D7 hw => ?_)
  refine j_if_ge (tgt := 77) C dX9_tells_65 (by decide) (fun hc => ?_) (fun hc => ?_)
  · have hw := hw.1 hc
    refine j_iload C dX9_tells_77 1 rfl ?_
    exact J.sub (X9_tells_j79_ok C K ho_v0 v5 v0 D7 hw) [0] rfl
  · have hw := hw.2 hc
    refine j_aload_n C dX9_tells_68 rfl 0 rfl ?_
    refine j_iload C dX9_tells_69 1 rfl ?_
    refine j_cVI (As := [.int v5]) (st := [.ref v0]) C (X9_turned_ok κ.2.1 G D7 v0 v5 _ hw) ho_v0 rfl k_1006 mv_X9_turned ⟨by decide, by decide⟩ ⟨rfl, rfl⟩ rfl rfl (Nat.le_of_ble_eq_true rfl) ⟨Nat.zero_le _, Nat.zero_le _⟩ dX9_tells_71 (fun r8 D9 hw => ?_)
    refine j_goto (tgt := 79) C dX9_tells_74 (by decide) ?_
    exact J.sub (X9_tells_j79_ok C K ho_v0 r8 v0 D9 hw) [0] rfl
def X9_tells_wp (G : Shp) (D : Dat) (v0 : Nat) (v1 : Int32) (v2 : Int32) (post : Int32 → Dat → Prop) : Prop := isO G v0 9 ∧ X9_common_wp G D v0 v1 v2 (fun r1 D2 => X9_divided_wp G D2 v0 v1 r1 (fun r3 D4 => X9_divided_wp G D4 v0 v2 r1 (fun r5 D6 => X9_sign_wp G (dI D6 v0 9 0) v0 r5 (fun r7 D8 => ((0 ≤ r7 → X9_tells_j49 G post v0 v1 v2 r5 r3 v0 D8) ∧ (¬ (0 ≤ r7) → X9_turned_wp G D8 v0 r3 (fun r9 D10 => X9_tells_j49 G post v0 v1 v2 r5 r9 v0 D10)))))))
set_option maxRecDepth 100000 in
set_option maxHeartbeats 4000000 in
theorem X9_tells_ok (l : Launch) (G : Shp) (D : Dat) (v0 : Nat) (v1 : Int32) (v2 : Int32) (post : Int32 → Dat → Prop) (hw : X9_tells_wp G D v0 v1 v2 post) : CtI l yX9_tells cX9_tells 6 .int (rmN 4) [.ref v0, .int v1, .int v2] G D post := by
  obtain ⟨ho_v0, hw⟩ := hw
  refine ctI_of (by decide) rfl (Nat.le_of_ble_eq_true rfl) ?_
  intro κ hκ C K
  subst hκ
  have C : Cx κ cX9_tells RX9 (rmN 4) 6 := C
  refine j_aload_n C dX9_tells_0 rfl 0 rfl ?_
  refine j_iload_n C dX9_tells_1 rfl 1 rfl ?_
  refine j_iload_n C dX9_tells_2 rfl 2 rfl ?_
  refine j_cVI (As := [.int v1, .int v2]) (st := []) C (X9_common_ok κ.2.1 G D v0 v1 v2 _ hw) ho_v0 rfl k_1060 mv_X9_common ⟨by decide, by decide⟩ ⟨rfl, rfl⟩ rfl rfl (Nat.le_of_ble_eq_true rfl) ⟨Nat.zero_le _, Nat.zero_le _⟩ dX9_tells_3 (fun r1 D2 hw => ?_)
  refine j_istore_n C dX9_tells_6 rfl (by decide) rfl ?_
  refine j_aload_n C dX9_tells_7 rfl 1 rfl ?_
  refine j_iload_n C dX9_tells_8 rfl 2 rfl ?_
  refine j_iload_n C dX9_tells_9 rfl 0 rfl ?_
  refine j_cVI (As := [.int v1, .int r1]) (st := []) C (X9_divided_ok κ.2.1 G D2 v0 v1 r1 _ hw) ho_v0 rfl k_1024 mv_X9_divided ⟨by decide, by decide⟩ ⟨rfl, rfl⟩ rfl rfl (Nat.le_of_ble_eq_true rfl) ⟨Nat.zero_le _, Nat.zero_le _⟩ dX9_tells_10 (fun r3 D4 hw => ?_)
  refine j_istore C dX9_tells_13 (by decide) rfl ?_
  refine j_aload_n C dX9_tells_15 rfl 2 rfl ?_
  refine j_iload_n C dX9_tells_16 rfl 4 rfl ?_
  refine j_iload_n C dX9_tells_17 rfl 1 rfl ?_
  refine j_cVI (As := [.int v2, .int r1]) (st := []) C (X9_divided_ok κ.2.1 G D4 v0 v2 r1 _ hw) ho_v0 rfl k_1024 mv_X9_divided ⟨by decide, by decide⟩ ⟨rfl, rfl⟩ rfl rfl (Nat.le_of_ble_eq_true rfl) ⟨Nat.zero_le _, Nat.zero_le _⟩ dX9_tells_18 (fun r5 D6 hw => ?_)
  refine j_istore C dX9_tells_21 (by decide) rfl ?_
  refine j_aload_n C dX9_tells_23 rfl 3 rfl ?_
  refine j_iconst (v := 0) C dX9_tells_24 (by decide) ?_
  refine pf_9_9 C ho_v0 k_773 dX9_tells_25 ?_
  refine j_aload_n C dX9_tells_28 rfl 3 rfl ?_
  refine j_aload_n C dX9_tells_29 rfl 3 rfl ?_
  refine j_iload C dX9_tells_30 0 rfl ?_
  refine j_cVI (As := [.int r5]) (st := [.ref v0]) C (X9_sign_ok κ.2.1 G (dI D6 v0 9 0) v0 r5 _ hw) ho_v0 rfl k_990 mv_X9_sign ⟨by decide, by decide⟩ ⟨rfl, rfl⟩ rfl rfl (Nat.le_of_ble_eq_true rfl) ⟨Nat.zero_le _, Nat.zero_le _⟩ dX9_tells_32 (fun r7 D8 hw => ?_)
  refine j_if_ge (tgt := 47) C dX9_tells_35 (by decide) (fun hc => ?_) (fun hc => ?_)
  · have hw := hw.1 hc
    refine j_iload C dX9_tells_47 1 rfl ?_
    exact J.sub (X9_tells_j49_ok C K ho_v0 r5 r3 v0 D8 hw) [3, 0] rfl
  · have hw := hw.2 hc
    refine j_aload_n C dX9_tells_38 rfl 3 rfl ?_
    refine j_iload C dX9_tells_39 1 rfl ?_
    refine j_cVI (As := [.int r3]) (st := [.ref v0]) C (X9_turned_ok κ.2.1 G D8 v0 r3 _ hw) ho_v0 rfl k_1006 mv_X9_turned ⟨by decide, by decide⟩ ⟨rfl, rfl⟩ rfl rfl (Nat.le_of_ble_eq_true rfl) ⟨Nat.zero_le _, Nat.zero_le _⟩ dX9_tells_41 (fun r9 D10 hw => ?_)
    refine j_goto (tgt := 49) C dX9_tells_44 (by decide) ?_
    exact J.sub (X9_tells_j49_ok C K ho_v0 r5 r9 v0 D10 hw) [3, 0] rfl
/-! X2_find -/
def X2_find_wp (G : Shp) (D : Dat) (v0 : Nat) (v1 : Nat) (v2 : Int32) (post : Int32 → Dat → Prop) : Prop := isO G v0 2 ∧ isO G v1 3 ∧ X2_weigh_wp G D v0 v1 v2 (fun r1 D2 => ((¬ r1 = 0 → X2_findTops_wp G D2 v0 (fun D4 => X2_findPlaceTops_wp G D4 v0 (fun D6 => (isB 1 ∧ post 1 D6)))) ∧ (r1 = 0 → (isB 0 ∧ post 0 D2))))
set_option maxRecDepth 100000 in
set_option maxHeartbeats 4000000 in
theorem X2_find_ok (l : Launch) (G : Shp) (D : Dat) (v0 : Nat) (v1 : Nat) (v2 : Int32) (post : Int32 → Dat → Prop) (hw : X2_find_wp G D v0 v1 v2 post) : CtI l yX2_find cX2_find 3 .boolean (rmN 5) [.ref v0, .ref v1, .int v2] G D post := by
  obtain ⟨ho_v0, ho_v1, hw⟩ := hw
  refine ctI_of (by decide) rfl (Nat.le_of_ble_eq_true rfl) ?_
  intro κ hκ C K
  subst hκ
  have C : Cx κ cX2_find RX2 (rmN 5) 3 := C
  refine j_aload_n C dX2_find_0 rfl 0 rfl ?_
  refine j_aload_n C dX2_find_1 rfl 1 rfl ?_
  refine j_iload_n C dX2_find_2 rfl 2 rfl ?_
  refine j_cVI (As := [.ref v1, .int v2]) (st := []) C (X2_weigh_ok κ.2.1 G D v0 v1 v2 _ hw) ho_v0 rfl k_424 mv_X2_weigh ⟨by decide, by decide⟩ ⟨rfl, rfl⟩ rfl rfl (Nat.le_of_ble_eq_true rfl) ⟨Nat.zero_le _, Nat.zero_le _⟩ dX2_find_3 (fun r1 D2 hw => ?_)
  refine j_if_ne (tgt := 11) C dX2_find_6 (by decide) (fun hc => ?_) (fun hc => ?_)
  · have hw := hw.1 hc
    refine j_aload_n C dX2_find_11 rfl 0 rfl ?_
    refine j_cVV (As := []) (st := []) C (X2_findTops_ok κ.2.1 G D2 v0 _ hw) ho_v0 rfl k_526 mv_X2_findTops ⟨by decide, by decide⟩ ⟨rfl, rfl⟩ rfl rfl (Nat.le_of_ble_eq_true rfl) ⟨Nat.zero_le _, Nat.zero_le _⟩ dX2_find_12 (fun D4 hw => ?_)
    refine j_aload_n C dX2_find_15 rfl 0 rfl ?_
    refine j_cVV (As := []) (st := []) C (X2_findPlaceTops_ok κ.2.1 G D4 v0 _ hw) ho_v0 rfl k_530 mv_X2_findPlaceTops ⟨by decide, by decide⟩ ⟨rfl, rfl⟩ rfl rfl (Nat.le_of_ble_eq_true rfl) ⟨Nat.zero_le _, Nat.zero_le _⟩ dX2_find_16 (fun D6 hw => ?_)
    refine j_iconst (v := 1) C dX2_find_19 (by decide) ?_
    obtain ⟨hb7, hw⟩ := hw
    exact K _ _ _ _ dX2_find_20 (isB_n hb7) hw
  · have hw := hw.2 hc
    refine j_iconst (v := 0) C dX2_find_9 (by decide) ?_
    obtain ⟨hb8, hw⟩ := hw
    exact K _ _ _ _ dX2_find_10 (isB_n hb8) hw
/-! X5_measure -/
def X5_measure_j40 (G : Shp) (post : Dat → Prop) (v0 : Nat) (v1 : Nat) (g1 : Nat) (g2 : Nat) (k2 : Int32 → Dat → Prop) (v2 : Int32) (D : Dat) : Prop := k2 (v2 + 1) D
set_option maxRecDepth 100000 in
set_option maxHeartbeats 4000000 in
theorem X5_measure_j40_ok {κ : Ctx} {G : Shp} {post : Dat → Prop} {v0 : Nat} {v1 : Nat} {g1 : Nat} {g2 : Nat} (C : Cx κ cX5_measure RX5 (rmN 5) 3) (K : RtV κ cX5_measure G post) (ho_v0 : isO G v0 5) (ho_v1 : isO G v1 3) (hr_g1 : G.2.2.2 v0 0 = some g1) (ho_g1 : isO G g1 2) (hr_g2 : G.2.2.2 v0 2 = some g2) (ho_g2 : isO G g2 14) {k2 : Int32 → Dat → Prop} (hk2 : ∀ (v2 : Int32) (D : Dat), k2 v2 D → J κ 0 0 G D 2 [(0, .ref v0), (1, .ref v1), (2, .int v2)] []) (v2 : Int32) (D : Dat) (hw : X5_measure_j40 G post v0 v1 g1 g2 k2 v2 D) : J κ 0 0 G D 40 [(0, .ref v0), (1, .ref v1), (2, .int v2)] [] := by
  unfold X5_measure_j40 at hw
  refine j_iinc (v := v2 + 1) C dX5_measure_40 2 rfl rfl (by decide) rfl ?_
  refine j_goto (tgt := 2) C dX5_measure_43 (by decide) ?_
  exact J.sub (hk2 (v2 + 1) D hw) [1, 2, 0] rfl
def X5_measure_l2_b (G : Shp) (post : Dat → Prop) (v0 : Nat) (v1 : Nat) (g1 : Nat) (g2 : Nat) (rec : Int32 → Dat → Prop) (v2 : Int32) (D : Dat) : Prop := ((40 ≤ v2 → post D) ∧ (¬ (40 ≤ v2) → X3_counts_wp G D v1 v2 (fun r1 D2 => ((r1 = 0 → X5_measure_j40 G post v0 v1 g1 g2 rec v2 D2) ∧ (¬ (r1 = 0) → (vp_in v2 (G.2.2.1 g2) ∧ ∃ y4, G.2.2.2 g2 v2.toNatClampNeg = some y4 ∧ isO G y4 0 ∧ X2_leftOver_wp G D2 g1 v2 y4 (fun D8 => (vp_in v2 (G.2.2.1 g2) ∧ ∃ y10, G.2.2.2 g2 v2.toNatClampNeg = some y10 ∧ isO G y10 0 ∧ isB 0 ∧ X5_measure_j40 G post v0 v1 g1 g2 rec v2 (dI D8 y10 2 0)))))))))
def X5_measure_l2 (G : Shp) (post : Dat → Prop) (v0 : Nat) (v1 : Nat) (g1 : Nat) (g2 : Nat) : Nat → Int32 → Dat → Prop
  | 0 => fun _ _ => False
  | n + 1 => X5_measure_l2_b G post v0 v1 g1 g2 (X5_measure_l2 G post v0 v1 g1 g2 n)
set_option maxRecDepth 100000 in
set_option maxHeartbeats 4000000 in
theorem X5_measure_l2_ok {κ : Ctx} {G : Shp} {post : Dat → Prop} {v0 : Nat} {v1 : Nat} {g1 : Nat} {g2 : Nat} (C : Cx κ cX5_measure RX5 (rmN 5) 3) (K : RtV κ cX5_measure G post) (ho_v0 : isO G v0 5) (ho_v1 : isO G v1 3) (hr_g1 : G.2.2.2 v0 0 = some g1) (ho_g1 : isO G g1 2) (hr_g2 : G.2.2.2 v0 2 = some g2) (ho_g2 : isO G g2 14) : ∀ (n : Nat) (v2 : Int32) (D : Dat), X5_measure_l2 G post v0 v1 g1 g2 n v2 D → J κ 0 0 G D 2 [(0, .ref v0), (1, .ref v1), (2, .int v2)] [] := by
  intro n
  induction n with
  | zero => intro v2 D hw; exact hw.elim
  | succ n ih =>
    intro v2 D hw
    have hw : X5_measure_l2_b G post v0 v1 g1 g2 (X5_measure_l2 G post v0 v1 g1 g2 n) v2 D := hw
    unfold X5_measure_l2_b at hw
    refine j_iload_n C dX5_measure_2 rfl 2 rfl ?_
    refine j_bipush (v := 40) C dX5_measure_3 (by decide) ?_
    refine j_icmp_ge (tgt := 46) C dX5_measure_5 (by decide) (fun hc => ?_) (fun hc => ?_)
    · have hw := hw.1 hc
      exact K _ _ _ dX5_measure_46 hw
    · have hw := hw.2 hc
      refine j_aload_n C dX5_measure_8 rfl 1 rfl ?_
      refine j_iload_n C dX5_measure_9 rfl 2 rfl ?_
      refine j_cVI (As := [.int v2]) (st := []) C (X3_counts_ok κ.2.1 G D v1 v2 _ hw) ho_v1 rfl k_712 mv_X3_counts ⟨by decide, by decide⟩ ⟨rfl, rfl⟩ rfl rfl (Nat.le_of_ble_eq_true rfl) ⟨Nat.zero_le _, Nat.zero_le _⟩ dX5_measure_10 (fun r1 D2 hw => ?_)
      refine j_if_eq (tgt := 40) C dX5_measure_13 (by decide) (fun hc => ?_) (fun hc => ?_)
      · have hw := hw.1 hc
        exact J.sub (X5_measure_j40_ok C K ho_v0 ho_v1 hr_g1 ho_g1 hr_g2 ho_g2 ih v2 D2 hw) [0, 1, 2] rfl
      · have hw := hw.2 hc
        refine j_aload_n C dX5_measure_16 rfl 0 rfl ?_
        refine gf_5_0 C ho_v0 hr_g1 k_203 dX5_measure_17 ?_
        refine j_iload_n C dX5_measure_20 rfl 2 rfl ?_
        refine j_aload_n C dX5_measure_21 rfl 0 rfl ?_
        refine gf_5_2 C ho_v0 hr_g2 k_205 dX5_measure_22 ?_
        refine j_iload_n C dX5_measure_25 rfl 2 rfl ?_
        obtain ⟨hi3, hw⟩ := hw
        obtain ⟨y4, hr5, ho6, hw⟩ := hw
        refine j_aaldBig C ho_g2 hi3 hr5 dX5_measure_26 ?_
        refine j_cVV (As := [.int v2, .ref y4]) (st := []) C (X2_leftOver_ok κ.2.1 G D2 g1 v2 y4 _ hw) ho_g1 rfl k_713 mv_X2_leftOver ⟨by decide, by decide⟩ ⟨rfl, rfl⟩ rfl rfl (Nat.le_of_ble_eq_true rfl) ⟨Nat.zero_le _, Nat.zero_le _⟩ dX5_measure_27 (fun D8 hw => ?_)
        refine j_aload_n C dX5_measure_30 rfl 0 rfl ?_
        refine gf_5_2 C ho_v0 hr_g2 k_205 dX5_measure_31 ?_
        refine j_iload_n C dX5_measure_34 rfl 2 rfl ?_
        obtain ⟨hi9, hw⟩ := hw
        obtain ⟨y10, hr11, ho12, hw⟩ := hw
        refine j_aaldBig C ho_g2 hi9 hr11 dX5_measure_35 ?_
        refine j_iconst (v := 0) C dX5_measure_36 (by decide) ?_
        obtain ⟨hb13, hw⟩ := hw
        refine pf_0_2 C ho12 hb13 k_49 dX5_measure_37 ?_
        exact J.sub (X5_measure_j40_ok C K ho_v0 ho_v1 hr_g1 ho_g1 hr_g2 ho_g2 ih v2 (dI D8 y10 2 0) hw) [0, 1, 2] rfl
def X5_measure_wp (G : Shp) (D : Dat) (v0 : Nat) (v1 : Nat) (post : Dat → Prop) : Prop := isO G v0 5 ∧ isO G v1 3 ∧ ∃ g1, G.2.2.2 v0 0 = some g1 ∧ isO G g1 2 ∧ ∃ g2, G.2.2.2 v0 2 = some g2 ∧ isO G g2 14 ∧ ∃ n, X5_measure_l2 G post v0 v1 g1 g2 n 0 D
set_option maxRecDepth 100000 in
set_option maxHeartbeats 4000000 in
theorem X5_measure_ok (l : Launch) (G : Shp) (D : Dat) (v0 : Nat) (v1 : Nat) (post : Dat → Prop) (hw : X5_measure_wp G D v0 v1 post) : CtV l yX5_measure cX5_measure 3 (rmN 5) [.ref v0, .ref v1] G D post := by
  obtain ⟨ho_v0, ho_v1, g1, hr_g1, ho_g1, g2, hr_g2, ho_g2, hw⟩ := hw
  refine ctV_of (by decide) rfl (Nat.le_of_ble_eq_true rfl) ?_
  intro κ hκ C K
  subst hκ
  have C : Cx κ cX5_measure RX5 (rmN 5) 3 := C
  refine j_iconst (v := 0) C dX5_measure_0 (by decide) ?_
  refine j_istore_n C dX5_measure_1 rfl (by decide) rfl ?_
  obtain ⟨n, hw⟩ := hw
  exact J.sub (X5_measure_l2_ok C K ho_v0 ho_v1 hr_g1 ho_g1 hr_g2 ho_g2 n 0 D hw) [1, 2, 0] rfl
/-! X8_cheapestStep -/
def X8_cheapestStep_j109 (G : Shp) (post : Int32 → Dat → Prop) (v0 : Nat) (v1 : Nat) (g1 : Nat) (g2 : Nat) (g3 : Nat) (g4 : Nat) (g5 : Nat) (k4 : Int32 → Int32 → Dat → Prop) (v2 : Int32) (v3 : Int32) (D : Dat) : Prop := k4 v2 (v3 + 1) D
set_option maxRecDepth 100000 in
set_option maxHeartbeats 4000000 in
theorem X8_cheapestStep_j109_ok {κ : Ctx} {G : Shp} {post : Int32 → Dat → Prop} {v0 : Nat} {v1 : Nat} {g1 : Nat} {g2 : Nat} {g3 : Nat} {g4 : Nat} {g5 : Nat} (C : Cx κ cX8_cheapestStep RX8 (rmN 5) 5) (K : RtI κ cX8_cheapestStep .int G post) (ho_v0 : isO G v0 8) (ho_v1 : isO G v1 3) (hr_g1 : G.2.2.2 v1 3 = some g1) (ho_g1 : isO G g1 7) (hr_g2 : G.2.2.2 v0 1 = some g2) (ho_g2 : isO G g2 2) (hr_g3 : G.2.2.2 v0 6 = some g3) (ho_g3 : isO G g3 0) (hr_g4 : G.2.2.2 v0 7 = some g4) (ho_g4 : isO G g4 0) (hr_g5 : G.2.2.2 g2 8 = some g5) (ho_g5 : isO G g5 0) {k4 : Int32 → Int32 → Dat → Prop} (hk4 : ∀ (v2 : Int32) (v3 : Int32) (D : Dat), k4 v2 v3 D → J κ 0 0 G D 4 [(0, .ref v0), (1, .ref v1), (2, .int v2), (3, .int v3)] []) (v2 : Int32) (v3 : Int32) (D : Dat) (hw : X8_cheapestStep_j109 G post v0 v1 g1 g2 g3 g4 g5 k4 v2 v3 D) : J κ 0 0 G D 109 [(0, .ref v0), (1, .ref v1), (2, .int v2), (3, .int v3)] [] := by
  unfold X8_cheapestStep_j109 at hw
  refine j_iinc (v := v3 + 1) C dX8_cheapestStep_109 3 rfl rfl (by decide) rfl ?_
  refine j_goto (tgt := 4) C dX8_cheapestStep_112 (by decide) ?_
  exact J.sub (hk4 v2 (v3 + 1) D hw) [1, 2, 3, 0] rfl
def X8_cheapestStep_j100 (G : Shp) (post : Int32 → Dat → Prop) (v0 : Nat) (v1 : Nat) (g1 : Nat) (g2 : Nat) (g3 : Nat) (g4 : Nat) (g5 : Nat) (k4 : Int32 → Int32 → Dat → Prop) (v2 : Int32) (v3 : Int32) (D : Dat) : Prop := X7_drop_wp G D g1 v3 (fun r1 D2 => X8_cheapestStep_j109 G post v0 v1 g1 g2 g3 g4 g5 k4 v2 v3 D2)
set_option maxRecDepth 100000 in
set_option maxHeartbeats 4000000 in
theorem X8_cheapestStep_j100_ok {κ : Ctx} {G : Shp} {post : Int32 → Dat → Prop} {v0 : Nat} {v1 : Nat} {g1 : Nat} {g2 : Nat} {g3 : Nat} {g4 : Nat} {g5 : Nat} (C : Cx κ cX8_cheapestStep RX8 (rmN 5) 5) (K : RtI κ cX8_cheapestStep .int G post) (ho_v0 : isO G v0 8) (ho_v1 : isO G v1 3) (hr_g1 : G.2.2.2 v1 3 = some g1) (ho_g1 : isO G g1 7) (hr_g2 : G.2.2.2 v0 1 = some g2) (ho_g2 : isO G g2 2) (hr_g3 : G.2.2.2 v0 6 = some g3) (ho_g3 : isO G g3 0) (hr_g4 : G.2.2.2 v0 7 = some g4) (ho_g4 : isO G g4 0) (hr_g5 : G.2.2.2 g2 8 = some g5) (ho_g5 : isO G g5 0) {k4 : Int32 → Int32 → Dat → Prop} (hk4 : ∀ (v2 : Int32) (v3 : Int32) (D : Dat), k4 v2 v3 D → J κ 0 0 G D 4 [(0, .ref v0), (1, .ref v1), (2, .int v2), (3, .int v3)] []) (v2 : Int32) (v3 : Int32) (D : Dat) (hw : X8_cheapestStep_j100 G post v0 v1 g1 g2 g3 g4 g5 k4 v2 v3 D) : J κ 0 0 G D 100 [(0, .ref v0), (1, .ref v1), (2, .int v2), (3, .int v3)] [] := by
  unfold X8_cheapestStep_j100 at hw
  refine j_aload_n C dX8_cheapestStep_100 rfl 1 rfl ?_
  refine gf_3_3 C ho_v1 hr_g1 k_93 dX8_cheapestStep_101 ?_
  refine j_iload_n C dX8_cheapestStep_104 rfl 3 rfl ?_
  refine j_cVI (As := [.int v3]) (st := []) C (X7_drop_ok κ.2.1 G D g1 v3 _ hw) ho_g1 rfl k_337 mv_X7_drop ⟨by decide, by decide⟩ ⟨rfl, rfl⟩ rfl rfl (Nat.le_of_ble_eq_true rfl) ⟨Nat.zero_le _, Nat.zero_le _⟩ dX8_cheapestStep_105 (fun r1 D2 hw => ?_)
  refine j_pop C dX8_cheapestStep_108 rfl ?_
  exact J.sub (X8_cheapestStep_j109_ok C K ho_v0 ho_v1 hr_g1 ho_g1 hr_g2 ho_g2 hr_g3 ho_g3 hr_g4 ho_g4 hr_g5 ho_g5 hk4 v2 v3 D2 hw) [0, 1, 2, 3] rfl
def X8_cheapestStep_j73 (G : Shp) (post : Int32 → Dat → Prop) (v0 : Nat) (v1 : Nat) (g1 : Nat) (g2 : Nat) (g3 : Nat) (g4 : Nat) (g5 : Nat) (k4 : Int32 → Int32 → Dat → Prop) (v3 : Int32) (D : Dat) : Prop := X2_cost_wp G D g2 g3 (fun D2 => X0_copy_wp G D2 g4 g5 (fun D4 => X8_cheapestStep_j100 G post v0 v1 g1 g2 g3 g4 g5 k4 v3 v3 D4))
set_option maxRecDepth 100000 in
set_option maxHeartbeats 4000000 in
theorem X8_cheapestStep_j73_ok {κ : Ctx} {G : Shp} {post : Int32 → Dat → Prop} {v0 : Nat} {v1 : Nat} {g1 : Nat} {g2 : Nat} {g3 : Nat} {g4 : Nat} {g5 : Nat} (C : Cx κ cX8_cheapestStep RX8 (rmN 5) 5) (K : RtI κ cX8_cheapestStep .int G post) (ho_v0 : isO G v0 8) (ho_v1 : isO G v1 3) (hr_g1 : G.2.2.2 v1 3 = some g1) (ho_g1 : isO G g1 7) (hr_g2 : G.2.2.2 v0 1 = some g2) (ho_g2 : isO G g2 2) (hr_g3 : G.2.2.2 v0 6 = some g3) (ho_g3 : isO G g3 0) (hr_g4 : G.2.2.2 v0 7 = some g4) (ho_g4 : isO G g4 0) (hr_g5 : G.2.2.2 g2 8 = some g5) (ho_g5 : isO G g5 0) {k4 : Int32 → Int32 → Dat → Prop} (hk4 : ∀ (v2 : Int32) (v3 : Int32) (D : Dat), k4 v2 v3 D → J κ 0 0 G D 4 [(0, .ref v0), (1, .ref v1), (2, .int v2), (3, .int v3)] []) (v3 : Int32) (D : Dat) (hw : X8_cheapestStep_j73 G post v0 v1 g1 g2 g3 g4 g5 k4 v3 D) : J κ 0 0 G D 73 [(0, .ref v0), (1, .ref v1), (3, .int v3)] [] := by
  unfold X8_cheapestStep_j73 at hw
  refine j_iload_n C dX8_cheapestStep_73 rfl 2 rfl ?_
  refine j_istore_n C dX8_cheapestStep_74 rfl (by decide) rfl ?_
  refine j_aload_n C dX8_cheapestStep_75 rfl 1 rfl ?_
  refine gf_8_1 C ho_v0 hr_g2 k_252 dX8_cheapestStep_76 ?_
  refine j_aload_n C dX8_cheapestStep_79 rfl 1 rfl ?_
  refine gf_8_6 C ho_v0 hr_g3 k_257 dX8_cheapestStep_80 ?_
  refine j_cVV (As := [.ref g3]) (st := []) C (X2_cost_ok κ.2.1 G D g2 g3 _ hw) ho_g2 rfl k_613 mv_X2_cost ⟨by decide, by decide⟩ ⟨rfl, rfl⟩ rfl rfl (Nat.le_of_ble_eq_true rfl) ⟨Nat.zero_le _, Nat.zero_le _⟩ dX8_cheapestStep_83 (fun D2 hw => ?_)
  refine j_aload_n C dX8_cheapestStep_86 rfl 1 rfl ?_
  refine gf_8_7 C ho_v0 hr_g4 k_258 dX8_cheapestStep_87 ?_
  refine j_aload_n C dX8_cheapestStep_90 rfl 1 rfl ?_
  refine gf_8_1 C ho_v0 hr_g2 k_252 dX8_cheapestStep_91 ?_
  refine gf_2_8 C ho_g2 hr_g5 k_155 dX8_cheapestStep_94 ?_
  refine j_cVV (As := [.ref g5]) (st := []) C (X0_copy_ok κ.2.1 G D2 g4 g5 _ hw) ho_g4 rfl k_690 mv_X0_copy ⟨by decide, by decide⟩ ⟨rfl, rfl⟩ rfl rfl (Nat.le_of_ble_eq_true rfl) ⟨Nat.zero_le _, Nat.zero_le _⟩ dX8_cheapestStep_97 (fun D4 hw => ?_)
  exact J.sub (X8_cheapestStep_j100_ok C K ho_v0 ho_v1 hr_g1 ho_g1 hr_g2 ho_g2 hr_g3 ho_g3 hr_g4 ho_g4 hr_g5 ho_g5 hk4 v3 v3 D4 hw) [1, 2, 0, 3] rfl
def X8_cheapestStep_l4_b (G : Shp) (post : Int32 → Dat → Prop) (v0 : Nat) (v1 : Nat) (g1 : Nat) (g2 : Nat) (g3 : Nat) (g4 : Nat) (g5 : Nat) (rec : Int32 → Int32 → Dat → Prop) (v2 : Int32) (v3 : Int32) (D : Dat) : Prop := ((40 ≤ v3 → post v2 D) ∧ (¬ (40 ≤ v3) → X3_counts_wp G D v1 (v3 - 1) (fun r1 D2 => ((r1 = 0 → X8_cheapestStep_j109 G post v0 v1 g1 g2 g3 g4 g5 rec v2 v3 D2) ∧ (¬ (r1 = 0) → X7_add_wp G D2 g1 v3 (fun r3 D4 => ((¬ r3 = 0 → X2_weigh_wp G D4 g2 v1 (-1) (fun r5 D6 => ((r5 = 0 → X8_cheapestStep_j100 G post v0 v1 g1 g2 g3 g4 g5 rec v2 v3 D6) ∧ (¬ (r5 = 0) → ((v2 = (-1) → X8_cheapestStep_j73 G post v0 v1 g1 g2 g3 g4 g5 rec v3 D6) ∧ (¬ (v2 = (-1)) → X2_costsLessThan_wp G D6 g2 g3 g4 (fun r7 D8 => ((r7 = 0 → X8_cheapestStep_j100 G post v0 v1 g1 g2 g3 g4 g5 rec v2 v3 D8) ∧ (¬ (r7 = 0) → X8_cheapestStep_j73 G post v0 v1 g1 g2 g3 g4 g5 rec v3 D8))))))))) ∧ (r3 = 0 → X8_cheapestStep_j109 G post v0 v1 g1 g2 g3 g4 g5 rec v2 v3 D4))))))))
def X8_cheapestStep_l4 (G : Shp) (post : Int32 → Dat → Prop) (v0 : Nat) (v1 : Nat) (g1 : Nat) (g2 : Nat) (g3 : Nat) (g4 : Nat) (g5 : Nat) : Nat → Int32 → Int32 → Dat → Prop
  | 0 => fun _ _ _ => False
  | n + 1 => X8_cheapestStep_l4_b G post v0 v1 g1 g2 g3 g4 g5 (X8_cheapestStep_l4 G post v0 v1 g1 g2 g3 g4 g5 n)
set_option maxRecDepth 100000 in
set_option maxHeartbeats 4000000 in
theorem X8_cheapestStep_l4_ok {κ : Ctx} {G : Shp} {post : Int32 → Dat → Prop} {v0 : Nat} {v1 : Nat} {g1 : Nat} {g2 : Nat} {g3 : Nat} {g4 : Nat} {g5 : Nat} (C : Cx κ cX8_cheapestStep RX8 (rmN 5) 5) (K : RtI κ cX8_cheapestStep .int G post) (ho_v0 : isO G v0 8) (ho_v1 : isO G v1 3) (hr_g1 : G.2.2.2 v1 3 = some g1) (ho_g1 : isO G g1 7) (hr_g2 : G.2.2.2 v0 1 = some g2) (ho_g2 : isO G g2 2) (hr_g3 : G.2.2.2 v0 6 = some g3) (ho_g3 : isO G g3 0) (hr_g4 : G.2.2.2 v0 7 = some g4) (ho_g4 : isO G g4 0) (hr_g5 : G.2.2.2 g2 8 = some g5) (ho_g5 : isO G g5 0) : ∀ (n : Nat) (v2 : Int32) (v3 : Int32) (D : Dat), X8_cheapestStep_l4 G post v0 v1 g1 g2 g3 g4 g5 n v2 v3 D → J κ 0 0 G D 4 [(0, .ref v0), (1, .ref v1), (2, .int v2), (3, .int v3)] [] := by
  intro n
  induction n with
  | zero => intro v2 v3 D hw; exact hw.elim
  | succ n ih =>
    intro v2 v3 D hw
    have hw : X8_cheapestStep_l4_b G post v0 v1 g1 g2 g3 g4 g5 (X8_cheapestStep_l4 G post v0 v1 g1 g2 g3 g4 g5 n) v2 v3 D := hw
    unfold X8_cheapestStep_l4_b at hw
    refine j_iload_n C dX8_cheapestStep_4 rfl 3 rfl ?_
    refine j_bipush (v := 40) C dX8_cheapestStep_5 (by decide) ?_
    refine j_icmp_ge (tgt := 115) C dX8_cheapestStep_7 (by decide) (fun hc => ?_) (fun hc => ?_)
    · have hw := hw.1 hc
      refine j_iload_n C dX8_cheapestStep_115 rfl 2 rfl ?_
      exact K _ _ _ _ dX8_cheapestStep_116 rfl hw
    · have hw := hw.2 hc
      refine j_aload_n C dX8_cheapestStep_10 rfl 1 rfl ?_
      refine j_iload_n C dX8_cheapestStep_11 rfl 3 rfl ?_
      refine j_iconst (v := 1) C dX8_cheapestStep_12 (by decide) ?_
      refine j_isub C dX8_cheapestStep_13 ?_
      refine j_cVI (As := [.int (v3 - 1)]) (st := []) C (X3_counts_ok κ.2.1 G D v1 (v3 - 1) _ hw) ho_v1 rfl k_684 mv_X3_counts ⟨by decide, by decide⟩ ⟨rfl, rfl⟩ rfl rfl (Nat.le_of_ble_eq_true rfl) ⟨Nat.zero_le _, Nat.zero_le _⟩ dX8_cheapestStep_14 (fun r1 D2 hw => ?_)
      refine j_if_eq (tgt := 109) C dX8_cheapestStep_17 (by decide) (fun hc => ?_) (fun hc => ?_)
      · have hw := hw.1 hc
        exact J.sub (X8_cheapestStep_j109_ok C K ho_v0 ho_v1 hr_g1 ho_g1 hr_g2 ho_g2 hr_g3 ho_g3 hr_g4 ho_g4 hr_g5 ho_g5 ih v2 v3 D2 hw) [0, 1, 2, 3] rfl
      · have hw := hw.2 hc
        refine j_aload_n C dX8_cheapestStep_20 rfl 1 rfl ?_
        refine gf_3_3 C ho_v1 hr_g1 k_93 dX8_cheapestStep_21 ?_
        refine j_iload_n C dX8_cheapestStep_24 rfl 3 rfl ?_
        refine j_cVI (As := [.int v3]) (st := []) C (X7_add_ok κ.2.1 G D2 g1 v3 _ hw) ho_g1 rfl k_379 mv_X7_add ⟨by decide, by decide⟩ ⟨rfl, rfl⟩ rfl rfl (Nat.le_of_ble_eq_true rfl) ⟨Nat.zero_le _, Nat.zero_le _⟩ dX8_cheapestStep_25 (fun r3 D4 hw => ?_)
        refine j_if_ne (tgt := 34) C dX8_cheapestStep_28 (by decide) (fun hc => ?_) (fun hc => ?_)
        · have hw := hw.1 hc
          refine j_aload_n C dX8_cheapestStep_34 rfl 0 rfl ?_
          refine gf_8_1 C ho_v0 hr_g2 k_252 dX8_cheapestStep_35 ?_
          refine j_aload_n C dX8_cheapestStep_38 rfl 1 rfl ?_
          refine j_iconst (v := (-1)) C dX8_cheapestStep_39 (by decide) ?_
          refine j_cVI (As := [.ref v1, .int (-1)]) (st := []) C (X2_weigh_ok κ.2.1 G D4 g2 v1 (-1) _ hw) ho_g2 rfl k_685 mv_X2_weigh ⟨by decide, by decide⟩ ⟨rfl, rfl⟩ rfl rfl (Nat.le_of_ble_eq_true rfl) ⟨Nat.zero_le _, Nat.zero_le _⟩ dX8_cheapestStep_40 (fun r5 D6 hw => ?_)
          refine j_istore C dX8_cheapestStep_43 (by decide) rfl ?_
          refine j_iload C dX8_cheapestStep_45 0 rfl ?_
          refine j_if_eq (tgt := 100) C dX8_cheapestStep_47 (by decide) (fun hc => ?_) (fun hc => ?_)
          · have hw := hw.1 hc
            exact J.sub (X8_cheapestStep_j100_ok C K ho_v0 ho_v1 hr_g1 ho_g1 hr_g2 ho_g2 hr_g3 ho_g3 hr_g4 ho_g4 hr_g5 ho_g5 ih v2 v3 D6 hw) [1, 2, 3, 4] rfl
          · have hw := hw.2 hc
            refine j_iload_n C dX8_cheapestStep_50 rfl 3 rfl ?_
            refine j_iconst (v := (-1)) C dX8_cheapestStep_51 (by decide) ?_
            refine j_icmp_eq (tgt := 73) C dX8_cheapestStep_52 (by decide) (fun hc => ?_) (fun hc => ?_)
            · have hw := hw.1 hc
              exact J.sub (X8_cheapestStep_j73_ok C K ho_v0 ho_v1 hr_g1 ho_g1 hr_g2 ho_g2 hr_g3 ho_g3 hr_g4 ho_g4 hr_g5 ho_g5 ih v3 D6 hw) [1, 2, 4] rfl
            · have hw := hw.2 hc
              refine j_aload_n C dX8_cheapestStep_55 rfl 1 rfl ?_
              refine gf_8_1 C ho_v0 hr_g2 k_252 dX8_cheapestStep_56 ?_
              refine j_aload_n C dX8_cheapestStep_59 rfl 1 rfl ?_
              refine gf_8_6 C ho_v0 hr_g3 k_257 dX8_cheapestStep_60 ?_
              refine j_aload_n C dX8_cheapestStep_63 rfl 1 rfl ?_
              refine gf_8_7 C ho_v0 hr_g4 k_258 dX8_cheapestStep_64 ?_
              refine j_cVI (As := [.ref g3, .ref g4]) (st := []) C (X2_costsLessThan_ok κ.2.1 G D6 g2 g3 g4 _ hw) ho_g2 rfl k_686 mv_X2_costsLessThan ⟨by decide, by decide⟩ ⟨rfl, rfl⟩ rfl rfl (Nat.le_of_ble_eq_true rfl) ⟨Nat.zero_le _, Nat.zero_le _⟩ dX8_cheapestStep_67 (fun r7 D8 hw => ?_)
              refine j_if_eq (tgt := 100) C dX8_cheapestStep_70 (by decide) (fun hc => ?_) (fun hc => ?_)
              · have hw := hw.1 hc
                exact J.sub (X8_cheapestStep_j100_ok C K ho_v0 ho_v1 hr_g1 ho_g1 hr_g2 ho_g2 hr_g3 ho_g3 hr_g4 ho_g4 hr_g5 ho_g5 ih v2 v3 D8 hw) [1, 2, 3, 4] rfl
              · have hw := hw.2 hc
                exact J.sub (X8_cheapestStep_j73_ok C K ho_v0 ho_v1 hr_g1 ho_g1 hr_g2 ho_g2 hr_g3 ho_g3 hr_g4 ho_g4 hr_g5 ho_g5 ih v3 D8 hw) [1, 2, 4] rfl
        · have hw := hw.2 hc
          refine j_goto (tgt := 109) C dX8_cheapestStep_31 (by decide) ?_
          exact J.sub (X8_cheapestStep_j109_ok C K ho_v0 ho_v1 hr_g1 ho_g1 hr_g2 ho_g2 hr_g3 ho_g3 hr_g4 ho_g4 hr_g5 ho_g5 ih v2 v3 D4 hw) [0, 1, 2, 3] rfl
def X8_cheapestStep_wp (G : Shp) (D : Dat) (v0 : Nat) (v1 : Nat) (post : Int32 → Dat → Prop) : Prop := isO G v0 8 ∧ isO G v1 3 ∧ ∃ g1, G.2.2.2 v1 3 = some g1 ∧ isO G g1 7 ∧ ∃ g2, G.2.2.2 v0 1 = some g2 ∧ isO G g2 2 ∧ ∃ g3, G.2.2.2 v0 6 = some g3 ∧ isO G g3 0 ∧ ∃ g4, G.2.2.2 v0 7 = some g4 ∧ isO G g4 0 ∧ ∃ g5, G.2.2.2 g2 8 = some g5 ∧ isO G g5 0 ∧ ∃ n, X8_cheapestStep_l4 G post v0 v1 g1 g2 g3 g4 g5 n (-1) 1 D
set_option maxRecDepth 100000 in
set_option maxHeartbeats 4000000 in
theorem X8_cheapestStep_ok (l : Launch) (G : Shp) (D : Dat) (v0 : Nat) (v1 : Nat) (post : Int32 → Dat → Prop) (hw : X8_cheapestStep_wp G D v0 v1 post) : CtI l yX8_cheapestStep cX8_cheapestStep 5 .int (rmN 5) [.ref v0, .ref v1] G D post := by
  obtain ⟨ho_v0, ho_v1, g1, hr_g1, ho_g1, g2, hr_g2, ho_g2, g3, hr_g3, ho_g3, g4, hr_g4, ho_g4, g5, hr_g5, ho_g5, hw⟩ := hw
  refine ctI_of (by decide) rfl (Nat.le_of_ble_eq_true rfl) ?_
  intro κ hκ C K
  subst hκ
  have C : Cx κ cX8_cheapestStep RX8 (rmN 5) 5 := C
  refine j_iconst (v := (-1)) C dX8_cheapestStep_0 (by decide) ?_
  refine j_istore_n C dX8_cheapestStep_1 rfl (by decide) rfl ?_
  refine j_iconst (v := 1) C dX8_cheapestStep_2 (by decide) ?_
  refine j_istore_n C dX8_cheapestStep_3 rfl (by decide) rfl ?_
  obtain ⟨n, hw⟩ := hw
  exact J.sub (X8_cheapestStep_l4_ok C K ho_v0 ho_v1 hr_g1 ho_g1 hr_g2 ho_g2 hr_g3 ho_g3 hr_g4 ho_g4 hr_g5 ho_g5 n (-1) 1 D hw) [2, 3, 1, 0] rfl
/-! X8_tellAnswer -/
def X8_tellAnswer_wp (G : Shp) (D : Dat) (v0 : Nat) (post : Int32 → Dat → Prop) : Prop := isO G v0 8 ∧ ∃ g1, G.2.2.2 v0 3 = some g1 ∧ isO G g1 1 ∧ ∃ g2, G.2.2.2 v0 4 = some g2 ∧ isO G g2 4 ∧ X1_reduce_wp G D g1 (fun D2 => X4_write_wp G D2 g2 g1 (fun D4 => X4_length_wp G D4 g2 (fun r5 D6 => X8_give_wp G D6 v0 r5 (fun r7 D8 => post r7 D8))))
set_option maxRecDepth 100000 in
set_option maxHeartbeats 4000000 in
theorem X8_tellAnswer_ok (l : Launch) (G : Shp) (D : Dat) (v0 : Nat) (post : Int32 → Dat → Prop) (hw : X8_tellAnswer_wp G D v0 post) : CtI l yX8_tellAnswer cX8_tellAnswer 1 .int (rmN 5) [.ref v0] G D post := by
  obtain ⟨ho_v0, g1, hr_g1, ho_g1, g2, hr_g2, ho_g2, hw⟩ := hw
  refine ctI_of (by decide) rfl (Nat.le_of_ble_eq_true rfl) ?_
  intro κ hκ C K
  subst hκ
  have C : Cx κ cX8_tellAnswer RX8 (rmN 5) 1 := C
  refine j_aload_n C dX8_tellAnswer_0 rfl 0 rfl ?_
  refine gf_8_3 C ho_v0 hr_g1 k_254 dX8_tellAnswer_1 ?_
  refine j_cVV (As := []) (st := []) C (X1_reduce_ok κ.2.1 G D g1 _ hw) ho_g1 rfl k_576 mv_X1_reduce ⟨by decide, by decide⟩ ⟨rfl, rfl⟩ rfl rfl (Nat.le_of_ble_eq_true rfl) ⟨Nat.zero_le _, Nat.zero_le _⟩ dX8_tellAnswer_4 (fun D2 hw => ?_)
  refine j_aload_n C dX8_tellAnswer_7 rfl 0 rfl ?_
  refine gf_8_4 C ho_v0 hr_g2 k_255 dX8_tellAnswer_8 ?_
  refine j_aload_n C dX8_tellAnswer_11 rfl 0 rfl ?_
  refine gf_8_3 C ho_v0 hr_g1 k_254 dX8_tellAnswer_12 ?_
  refine j_cVV (As := [.ref g1]) (st := []) C (X4_write_ok κ.2.1 G D2 g2 g1 _ hw) ho_g2 rfl k_588 mv_X4_write ⟨by decide, by decide⟩ ⟨rfl, rfl⟩ rfl rfl (Nat.le_of_ble_eq_true rfl) ⟨Nat.zero_le _, Nat.zero_le _⟩ dX8_tellAnswer_15 (fun D4 hw => ?_)
  refine j_aload_n C dX8_tellAnswer_18 rfl 0 rfl ?_
  refine j_aload_n C dX8_tellAnswer_19 rfl 0 rfl ?_
  refine gf_8_4 C ho_v0 hr_g2 k_255 dX8_tellAnswer_20 ?_
  refine j_cVI (As := []) (st := [.ref v0]) C (X4_length_ok κ.2.1 G D4 g2 _ hw) ho_g2 rfl k_607 mv_X4_length ⟨by decide, by decide⟩ ⟨rfl, rfl⟩ rfl rfl (Nat.le_of_ble_eq_true rfl) ⟨Nat.zero_le _, Nat.zero_le _⟩ dX8_tellAnswer_23 (fun r5 D6 hw => ?_)
  refine j_cVI (As := [.int r5]) (st := []) C (X8_give_ok κ.2.1 G D6 v0 r5 _ hw) ho_v0 rfl k_354 mv_X8_give ⟨by decide, by decide⟩ ⟨rfl, rfl⟩ rfl rfl (Nat.le_of_ble_eq_true rfl) ⟨Nat.zero_le _, Nat.zero_le _⟩ dX8_tellAnswer_26 (fun r7 D8 hw => ?_)
  exact K _ _ _ _ dX8_tellAnswer_29 rfl hw
/-! X9_middle -/
def X9_middle_j187 (G : Shp) (post : Int32 → Dat → Prop) (v0 : Nat) (v1 : Int32) (g1 : Nat) (k70 : Int32 → Int32 → Int32 → Dat → Prop) (v2 : Int32) (v3 : Int32) (v4 : Int32) (D : Dat) : Prop := k70 v2 v3 (v4 + 1) D
set_option maxRecDepth 100000 in
set_option maxHeartbeats 4000000 in
theorem X9_middle_j187_ok {κ : Ctx} {G : Shp} {post : Int32 → Dat → Prop} {v0 : Nat} {v1 : Int32} {g1 : Nat} (C : Cx κ cX9_middle RX9 (rmN 5) 7) (K : RtI κ cX9_middle .int G post) (ho_v0 : isO G v0 9) (hr_g1 : G.2.2.2 v0 29 = some g1) (ho_g1 : isO G g1 11) {k70 : Int32 → Int32 → Int32 → Dat → Prop} (hk70 : ∀ (v2 : Int32) (v3 : Int32) (v4 : Int32) (D : Dat), k70 v2 v3 v4 D → J κ 0 0 G D 70 [(0, .ref v0), (1, .int v1), (2, .int v2), (3, .int v3), (4, .int v4)] []) (v2 : Int32) (v3 : Int32) (v4 : Int32) (D : Dat) (hw : X9_middle_j187 G post v0 v1 g1 k70 v2 v3 v4 D) : J κ 0 0 G D 187 [(0, .ref v0), (1, .int v1), (2, .int v2), (3, .int v3), (4, .int v4)] [] := by
  unfold X9_middle_j187 at hw
  refine j_iinc (v := v4 + 1) C dX9_middle_187 4 rfl rfl (by decide) rfl ?_
  refine j_goto (tgt := 70) C dX9_middle_190 (by decide) ?_
  exact J.sub (hk70 v2 v3 (v4 + 1) D hw) [1, 2, 3, 4, 0] rfl
def X9_middle_j179 (G : Shp) (post : Int32 → Dat → Prop) (v0 : Nat) (v1 : Int32) (g1 : Nat) (k70 : Int32 → Int32 → Int32 → Dat → Prop) (v2 : Int32) (v4 : Int32) (D : Dat) : Prop := (vp_in v4 (G.2.2.1 g1) ∧ X9_middle_j187 G post v0 v1 g1 k70 v2 (D.1 g1 v4.toNatClampNeg) v4 D)
set_option maxRecDepth 100000 in
set_option maxHeartbeats 4000000 in
theorem X9_middle_j179_ok {κ : Ctx} {G : Shp} {post : Int32 → Dat → Prop} {v0 : Nat} {v1 : Int32} {g1 : Nat} (C : Cx κ cX9_middle RX9 (rmN 5) 7) (K : RtI κ cX9_middle .int G post) (ho_v0 : isO G v0 9) (hr_g1 : G.2.2.2 v0 29 = some g1) (ho_g1 : isO G g1 11) {k70 : Int32 → Int32 → Int32 → Dat → Prop} (hk70 : ∀ (v2 : Int32) (v3 : Int32) (v4 : Int32) (D : Dat), k70 v2 v3 v4 D → J κ 0 0 G D 70 [(0, .ref v0), (1, .int v1), (2, .int v2), (3, .int v3), (4, .int v4)] []) (v2 : Int32) (v4 : Int32) (D : Dat) (hw : X9_middle_j179 G post v0 v1 g1 k70 v2 v4 D) : J κ 0 0 G D 179 [(0, .ref v0), (1, .int v1), (2, .int v2), (4, .int v4)] [] := by
  unfold X9_middle_j179 at hw
  refine j_aload_n C dX9_middle_179 rfl 0 rfl ?_
  refine gf_9_29 C ho_v0 hr_g1 k_793 dX9_middle_180 ?_
  refine j_iload C dX9_middle_183 3 rfl ?_
  obtain ⟨hi1, hw⟩ := hw
  refine j_iald C ho_g1 hi1 dX9_middle_185 ?_
  refine j_istore_n C dX9_middle_186 rfl (by decide) rfl ?_
  exact J.sub (X9_middle_j187_ok C K ho_v0 hr_g1 ho_g1 hk70 v2 (D.1 g1 v4.toNatClampNeg) v4 D hw) [1, 2, 3, 0, 4] rfl
def X9_middle_j141 (G : Shp) (post : Int32 → Dat → Prop) (v0 : Nat) (v1 : Int32) (g1 : Nat) (k70 : Int32 → Int32 → Int32 → Dat → Prop) (k96 : Int32 → Int32 → Int32 → Int32 → Int32 → Dat → Prop) (v2 : Int32) (v3 : Int32) (v4 : Int32) (v5 : Int32) (v6 : Int32) (D : Dat) : Prop := k96 v2 v3 v4 v5 (v6 + 1) D
set_option maxRecDepth 100000 in
set_option maxHeartbeats 4000000 in
theorem X9_middle_j141_ok {κ : Ctx} {G : Shp} {post : Int32 → Dat → Prop} {v0 : Nat} {v1 : Int32} {g1 : Nat} (C : Cx κ cX9_middle RX9 (rmN 5) 7) (K : RtI κ cX9_middle .int G post) (ho_v0 : isO G v0 9) (hr_g1 : G.2.2.2 v0 29 = some g1) (ho_g1 : isO G g1 11) {k70 : Int32 → Int32 → Int32 → Dat → Prop} (hk70 : ∀ (v2 : Int32) (v3 : Int32) (v4 : Int32) (D : Dat), k70 v2 v3 v4 D → J κ 0 0 G D 70 [(0, .ref v0), (1, .int v1), (2, .int v2), (3, .int v3), (4, .int v4)] []) {k96 : Int32 → Int32 → Int32 → Int32 → Int32 → Dat → Prop} (hk96 : ∀ (v2 : Int32) (v3 : Int32) (v4 : Int32) (v5 : Int32) (v6 : Int32) (D : Dat), k96 v2 v3 v4 v5 v6 D → J κ 0 0 G D 96 [(0, .ref v0), (1, .int v1), (2, .int v2), (3, .int v3), (4, .int v4), (5, .int v5), (6, .int v6)] []) (v2 : Int32) (v3 : Int32) (v4 : Int32) (v5 : Int32) (v6 : Int32) (D : Dat) (hw : X9_middle_j141 G post v0 v1 g1 k70 k96 v2 v3 v4 v5 v6 D) : J κ 0 0 G D 141 [(0, .ref v0), (1, .int v1), (2, .int v2), (3, .int v3), (4, .int v4), (5, .int v5), (6, .int v6)] [] := by
  unfold X9_middle_j141 at hw
  refine j_iinc (v := v6 + 1) C dX9_middle_141 6 rfl rfl (by decide) rfl ?_
  refine j_goto (tgt := 96) C dX9_middle_144 (by decide) ?_
  exact J.sub (hk96 v2 v3 v4 v5 (v6 + 1) D hw) [1, 2, 3, 4, 5, 6, 0] rfl
def X9_middle_l96_b (G : Shp) (post : Int32 → Dat → Prop) (v0 : Nat) (v1 : Int32) (g1 : Nat) (k70 : Int32 → Int32 → Int32 → Dat → Prop) (rec : Int32 → Int32 → Int32 → Int32 → Int32 → Dat → Prop) (v2 : Int32) (v3 : Int32) (v4 : Int32) (v5 : Int32) (v6 : Int32) (D : Dat) : Prop := ((40 ≤ v6 → (((2 * v5) < v2 → X9_middle_j187 G post v0 v1 g1 k70 v2 v3 v4 D) ∧ (¬ ((2 * v5) < v2) → ((v3 = (-1) → X9_middle_j179 G post v0 v1 g1 k70 v2 v4 D) ∧ (¬ (v3 = (-1)) → (vp_in v4 (G.2.2.1 g1) ∧ X9_less_wp G D v0 (D.1 g1 v4.toNatClampNeg) v3 (fun r2 D3 => X9_sign_wp G D3 v0 r2 (fun r4 D5 => ((r4 ≤ 0 → X9_middle_j187 G post v0 v1 g1 k70 v2 v3 v4 D5) ∧ (¬ (r4 ≤ 0) → X9_middle_j179 G post v0 v1 g1 k70 v2 v4 D5)))))))))) ∧ (¬ (40 ≤ v6) → X9_counts_wp G D v0 v1 v6 (fun r6 D7 => ((r6 = 0 → X9_middle_j141 G post v0 v1 g1 k70 rec v2 v3 v4 v5 v6 D7) ∧ (¬ (r6 = 0) → (vp_in v6 (G.2.2.1 g1) ∧ vp_in v4 (G.2.2.1 g1) ∧ X9_less_wp G D7 v0 (D7.1 g1 v6.toNatClampNeg) (D7.1 g1 v4.toNatClampNeg) (fun r10 D11 => X9_sign_wp G D11 v0 r10 (fun r12 D13 => ((r12 < 0 → X9_middle_j141 G post v0 v1 g1 k70 rec v2 v3 v4 v5 v6 D13) ∧ (¬ (r12 < 0) → X9_middle_j141 G post v0 v1 g1 k70 rec v2 v3 v4 (v5 + 1) v6 D13))))))))))
def X9_middle_l96 (G : Shp) (post : Int32 → Dat → Prop) (v0 : Nat) (v1 : Int32) (g1 : Nat) (k70 : Int32 → Int32 → Int32 → Dat → Prop) : Nat → Int32 → Int32 → Int32 → Int32 → Int32 → Dat → Prop
  | 0 => fun _ _ _ _ _ _ => False
  | n + 1 => X9_middle_l96_b G post v0 v1 g1 k70 (X9_middle_l96 G post v0 v1 g1 k70 n)
set_option maxRecDepth 100000 in
set_option maxHeartbeats 4000000 in
theorem X9_middle_l96_ok {κ : Ctx} {G : Shp} {post : Int32 → Dat → Prop} {v0 : Nat} {v1 : Int32} {g1 : Nat} (C : Cx κ cX9_middle RX9 (rmN 5) 7) (K : RtI κ cX9_middle .int G post) (ho_v0 : isO G v0 9) (hr_g1 : G.2.2.2 v0 29 = some g1) (ho_g1 : isO G g1 11) {k70 : Int32 → Int32 → Int32 → Dat → Prop} (hk70 : ∀ (v2 : Int32) (v3 : Int32) (v4 : Int32) (D : Dat), k70 v2 v3 v4 D → J κ 0 0 G D 70 [(0, .ref v0), (1, .int v1), (2, .int v2), (3, .int v3), (4, .int v4)] []) : ∀ (n : Nat) (v2 : Int32) (v3 : Int32) (v4 : Int32) (v5 : Int32) (v6 : Int32) (D : Dat), X9_middle_l96 G post v0 v1 g1 k70 n v2 v3 v4 v5 v6 D → J κ 0 0 G D 96 [(0, .ref v0), (1, .int v1), (2, .int v2), (3, .int v3), (4, .int v4), (5, .int v5), (6, .int v6)] [] := by
  intro n
  induction n with
  | zero => intro v2 v3 v4 v5 v6 D hw; exact hw.elim
  | succ n ih =>
    intro v2 v3 v4 v5 v6 D hw
    have hw : X9_middle_l96_b G post v0 v1 g1 k70 (X9_middle_l96 G post v0 v1 g1 k70 n) v2 v3 v4 v5 v6 D := hw
    unfold X9_middle_l96_b at hw
    refine j_iload C dX9_middle_96 6 rfl ?_
    refine j_bipush (v := 40) C dX9_middle_98 (by decide) ?_
    refine j_icmp_ge (tgt := 147) C dX9_middle_100 (by decide) (fun hc => ?_) (fun hc => ?_)
    · have hw := hw.1 hc
      refine j_iconst (v := 2) C dX9_middle_147 (by decide) ?_
      refine j_iload C dX9_middle_148 5 rfl ?_
      refine j_imul C dX9_middle_150 ?_
      refine j_iload_n C dX9_middle_151 rfl 2 rfl ?_
      refine j_icmp_lt (tgt := 187) C dX9_middle_152 (by decide) (fun hc => ?_) (fun hc => ?_)
      · have hw := hw.1 hc
        exact J.sub (X9_middle_j187_ok C K ho_v0 hr_g1 ho_g1 hk70 v2 v3 v4 D hw) [0, 1, 2, 3, 4] rfl
      · have hw := hw.2 hc
        refine j_iload_n C dX9_middle_155 rfl 3 rfl ?_
        refine j_iconst (v := (-1)) C dX9_middle_156 (by decide) ?_
        refine j_icmp_eq (tgt := 179) C dX9_middle_157 (by decide) (fun hc => ?_) (fun hc => ?_)
        · have hw := hw.1 hc
          exact J.sub (X9_middle_j179_ok C K ho_v0 hr_g1 ho_g1 hk70 v2 v4 D hw) [0, 1, 2, 4] rfl
        · have hw := hw.2 hc
          refine j_aload_n C dX9_middle_160 rfl 0 rfl ?_
          refine j_aload_n C dX9_middle_161 rfl 0 rfl ?_
          refine j_aload_n C dX9_middle_162 rfl 0 rfl ?_
          refine gf_9_29 C ho_v0 hr_g1 k_793 dX9_middle_163 ?_
          refine j_iload C dX9_middle_166 4 rfl ?_
          obtain ⟨hi1, hw⟩ := hw
          refine j_iald C ho_g1 hi1 dX9_middle_168 ?_
          refine j_iload_n C dX9_middle_169 rfl 3 rfl ?_
          refine j_cVI (As := [.int (D.1 g1 v4.toNatClampNeg), .int v3]) (st := [.ref v0]) C (X9_less_ok κ.2.1 G D v0 (D.1 g1 v4.toNatClampNeg) v3 _ hw) ho_v0 rfl k_1002 mv_X9_less ⟨by decide, by decide⟩ ⟨rfl, rfl⟩ rfl rfl (Nat.le_of_ble_eq_true rfl) ⟨Nat.zero_le _, Nat.zero_le _⟩ dX9_middle_170 (fun r2 D3 hw => ?_)
          refine j_cVI (As := [.int r2]) (st := []) C (X9_sign_ok κ.2.1 G D3 v0 r2 _ hw) ho_v0 rfl k_990 mv_X9_sign ⟨by decide, by decide⟩ ⟨rfl, rfl⟩ rfl rfl (Nat.le_of_ble_eq_true rfl) ⟨Nat.zero_le _, Nat.zero_le _⟩ dX9_middle_173 (fun r4 D5 hw => ?_)
          refine j_if_le (tgt := 187) C dX9_middle_176 (by decide) (fun hc => ?_) (fun hc => ?_)
          · have hw := hw.1 hc
            exact J.sub (X9_middle_j187_ok C K ho_v0 hr_g1 ho_g1 hk70 v2 v3 v4 D5 hw) [0, 1, 2, 3, 4] rfl
          · have hw := hw.2 hc
            exact J.sub (X9_middle_j179_ok C K ho_v0 hr_g1 ho_g1 hk70 v2 v4 D5 hw) [0, 1, 2, 4] rfl
    · have hw := hw.2 hc
      refine j_aload_n C dX9_middle_103 rfl 0 rfl ?_
      refine j_iload_n C dX9_middle_104 rfl 1 rfl ?_
      refine j_iload C dX9_middle_105 6 rfl ?_
      refine j_cVI (As := [.int v1, .int v6]) (st := []) C (X9_counts_ok κ.2.1 G D v0 v1 v6 _ hw) ho_v0 rfl k_905 mv_X9_counts ⟨by decide, by decide⟩ ⟨rfl, rfl⟩ rfl rfl (Nat.le_of_ble_eq_true rfl) ⟨Nat.zero_le _, Nat.zero_le _⟩ dX9_middle_107 (fun r6 D7 hw => ?_)
      refine j_if_eq (tgt := 141) C dX9_middle_110 (by decide) (fun hc => ?_) (fun hc => ?_)
      · have hw := hw.1 hc
        exact J.sub (X9_middle_j141_ok C K ho_v0 hr_g1 ho_g1 hk70 ih v2 v3 v4 v5 v6 D7 hw) [0, 1, 2, 3, 4, 5, 6] rfl
      · have hw := hw.2 hc
        refine j_aload_n C dX9_middle_113 rfl 0 rfl ?_
        refine j_aload_n C dX9_middle_114 rfl 0 rfl ?_
        refine j_aload_n C dX9_middle_115 rfl 0 rfl ?_
        refine gf_9_29 C ho_v0 hr_g1 k_793 dX9_middle_116 ?_
        refine j_iload C dX9_middle_119 6 rfl ?_
        obtain ⟨hi8, hw⟩ := hw
        refine j_iald C ho_g1 hi8 dX9_middle_121 ?_
        refine j_aload_n C dX9_middle_122 rfl 0 rfl ?_
        refine gf_9_29 C ho_v0 hr_g1 k_793 dX9_middle_123 ?_
        refine j_iload C dX9_middle_126 4 rfl ?_
        obtain ⟨hi9, hw⟩ := hw
        refine j_iald C ho_g1 hi9 dX9_middle_128 ?_
        refine j_cVI (As := [.int (D7.1 g1 v6.toNatClampNeg), .int (D7.1 g1 v4.toNatClampNeg)]) (st := [.ref v0]) C (X9_less_ok κ.2.1 G D7 v0 (D7.1 g1 v6.toNatClampNeg) (D7.1 g1 v4.toNatClampNeg) _ hw) ho_v0 rfl k_1002 mv_X9_less ⟨by decide, by decide⟩ ⟨rfl, rfl⟩ rfl rfl (Nat.le_of_ble_eq_true rfl) ⟨Nat.zero_le _, Nat.zero_le _⟩ dX9_middle_129 (fun r10 D11 hw => ?_)
        refine j_cVI (As := [.int r10]) (st := []) C (X9_sign_ok κ.2.1 G D11 v0 r10 _ hw) ho_v0 rfl k_990 mv_X9_sign ⟨by decide, by decide⟩ ⟨rfl, rfl⟩ rfl rfl (Nat.le_of_ble_eq_true rfl) ⟨Nat.zero_le _, Nat.zero_le _⟩ dX9_middle_132 (fun r12 D13 hw => ?_)
        refine j_if_lt (tgt := 141) C dX9_middle_135 (by decide) (fun hc => ?_) (fun hc => ?_)
        · have hw := hw.1 hc
          exact J.sub (X9_middle_j141_ok C K ho_v0 hr_g1 ho_g1 hk70 ih v2 v3 v4 v5 v6 D13 hw) [0, 1, 2, 3, 4, 5, 6] rfl
        · have hw := hw.2 hc
          refine j_iinc (v := v5 + 1) C dX9_middle_138 5 rfl rfl (by decide) rfl ?_
          exact J.sub (X9_middle_j141_ok C K ho_v0 hr_g1 ho_g1 hk70 ih v2 v3 v4 (v5 + 1) v6 D13 hw) [1, 2, 3, 4, 5, 0, 6] rfl
def X9_middle_l70_b (G : Shp) (post : Int32 → Dat → Prop) (v0 : Nat) (v1 : Int32) (g1 : Nat) (rec : Int32 → Int32 → Int32 → Dat → Prop) (v2 : Int32) (v3 : Int32) (v4 : Int32) (D : Dat) : Prop := ((40 ≤ v4 → post v3 D) ∧ (¬ (40 ≤ v4) → X9_counts_wp G D v0 v1 v4 (fun r1 D2 => ((¬ r1 = 0 → ∃ n, X9_middle_l96 G post v0 v1 g1 rec n v2 v3 v4 0 0 D2) ∧ (r1 = 0 → X9_middle_j187 G post v0 v1 g1 rec v2 v3 v4 D2)))))
def X9_middle_l70 (G : Shp) (post : Int32 → Dat → Prop) (v0 : Nat) (v1 : Int32) (g1 : Nat) : Nat → Int32 → Int32 → Int32 → Dat → Prop
  | 0 => fun _ _ _ _ => False
  | n + 1 => X9_middle_l70_b G post v0 v1 g1 (X9_middle_l70 G post v0 v1 g1 n)
set_option maxRecDepth 100000 in
set_option maxHeartbeats 4000000 in
theorem X9_middle_l70_ok {κ : Ctx} {G : Shp} {post : Int32 → Dat → Prop} {v0 : Nat} {v1 : Int32} {g1 : Nat} (C : Cx κ cX9_middle RX9 (rmN 5) 7) (K : RtI κ cX9_middle .int G post) (ho_v0 : isO G v0 9) (hr_g1 : G.2.2.2 v0 29 = some g1) (ho_g1 : isO G g1 11) : ∀ (n : Nat) (v2 : Int32) (v3 : Int32) (v4 : Int32) (D : Dat), X9_middle_l70 G post v0 v1 g1 n v2 v3 v4 D → J κ 0 0 G D 70 [(0, .ref v0), (1, .int v1), (2, .int v2), (3, .int v3), (4, .int v4)] [] := by
  intro n
  induction n with
  | zero => intro v2 v3 v4 D hw; exact hw.elim
  | succ n ih =>
    intro v2 v3 v4 D hw
    have hw : X9_middle_l70_b G post v0 v1 g1 (X9_middle_l70 G post v0 v1 g1 n) v2 v3 v4 D := hw
    unfold X9_middle_l70_b at hw
    refine j_iload C dX9_middle_70 4 rfl ?_
    refine j_bipush (v := 40) C dX9_middle_72 (by decide) ?_
    refine j_icmp_ge (tgt := 193) C dX9_middle_74 (by decide) (fun hc => ?_) (fun hc => ?_)
    · have hw := hw.1 hc
      refine j_iload_n C dX9_middle_193 rfl 3 rfl ?_
      exact K _ _ _ _ dX9_middle_194 rfl hw
    · have hw := hw.2 hc
      refine j_aload_n C dX9_middle_77 rfl 0 rfl ?_
      refine j_iload_n C dX9_middle_78 rfl 1 rfl ?_
      refine j_iload C dX9_middle_79 4 rfl ?_
      refine j_cVI (As := [.int v1, .int v4]) (st := []) C (X9_counts_ok κ.2.1 G D v0 v1 v4 _ hw) ho_v0 rfl k_905 mv_X9_counts ⟨by decide, by decide⟩ ⟨rfl, rfl⟩ rfl rfl (Nat.le_of_ble_eq_true rfl) ⟨Nat.zero_le _, Nat.zero_le _⟩ dX9_middle_81 (fun r1 D2 hw => ?_)
      refine j_if_ne (tgt := 90) C dX9_middle_84 (by decide) (fun hc => ?_) (fun hc => ?_)
      · have hw := hw.1 hc
        refine j_iconst (v := 0) C dX9_middle_90 (by decide) ?_
        refine j_istore C dX9_middle_91 (by decide) rfl ?_
        refine j_iconst (v := 0) C dX9_middle_93 (by decide) ?_
        refine j_istore C dX9_middle_94 (by decide) rfl ?_
        obtain ⟨n, hw⟩ := hw
        exact J.sub (X9_middle_l96_ok C K ho_v0 hr_g1 ho_g1 ih n v2 v3 v4 0 0 D2 hw) [2, 3, 4, 5, 6, 1, 0] rfl
      · have hw := hw.2 hc
        refine j_goto (tgt := 187) C dX9_middle_87 (by decide) ?_
        exact J.sub (X9_middle_j187_ok C K ho_v0 hr_g1 ho_g1 ih v2 v3 v4 D2 hw) [0, 1, 2, 3, 4] rfl
def X9_middle_j59 (G : Shp) (post : Int32 → Dat → Prop) (v0 : Nat) (v1 : Int32) (g1 : Nat) (k4 : Int32 → Int32 → Dat → Prop) (v2 : Int32) (v3 : Int32) (D : Dat) : Prop := k4 v2 (v3 + 1) D
set_option maxRecDepth 100000 in
set_option maxHeartbeats 4000000 in
theorem X9_middle_j59_ok {κ : Ctx} {G : Shp} {post : Int32 → Dat → Prop} {v0 : Nat} {v1 : Int32} {g1 : Nat} (C : Cx κ cX9_middle RX9 (rmN 5) 7) (K : RtI κ cX9_middle .int G post) (ho_v0 : isO G v0 9) (hr_g1 : G.2.2.2 v0 29 = some g1) (ho_g1 : isO G g1 11) {k4 : Int32 → Int32 → Dat → Prop} (hk4 : ∀ (v2 : Int32) (v3 : Int32) (D : Dat), k4 v2 v3 D → J κ 0 0 G D 4 [(0, .ref v0), (1, .int v1), (2, .int v2), (3, .int v3)] []) (v2 : Int32) (v3 : Int32) (D : Dat) (hw : X9_middle_j59 G post v0 v1 g1 k4 v2 v3 D) : J κ 0 0 G D 59 [(0, .ref v0), (1, .int v1), (2, .int v2), (3, .int v3)] [] := by
  unfold X9_middle_j59 at hw
  refine j_iinc (v := v3 + 1) C dX9_middle_59 3 rfl rfl (by decide) rfl ?_
  refine j_goto (tgt := 4) C dX9_middle_62 (by decide) ?_
  exact J.sub (hk4 v2 (v3 + 1) D hw) [1, 2, 3, 0] rfl
def X9_middle_j55 (G : Shp) (post : Int32 → Dat → Prop) (v0 : Nat) (v1 : Int32) (g1 : Nat) (k4 : Int32 → Int32 → Dat → Prop) (v2 : Int32) (v3 : Int32) (s0 : Int32) (s1 : Int32) (s2 : Nat) (D : Dat) : Prop := (isO G s2 11 ∧ vp_in s1 (G.2.2.1 s2) ∧ X9_middle_j59 G post v0 v1 g1 k4 (v2 + 1) v3 (dI D s2 s1.toNatClampNeg s0))
set_option maxRecDepth 100000 in
set_option maxHeartbeats 4000000 in
theorem X9_middle_j55_ok {κ : Ctx} {G : Shp} {post : Int32 → Dat → Prop} {v0 : Nat} {v1 : Int32} {g1 : Nat} (C : Cx κ cX9_middle RX9 (rmN 5) 7) (K : RtI κ cX9_middle .int G post) (ho_v0 : isO G v0 9) (hr_g1 : G.2.2.2 v0 29 = some g1) (ho_g1 : isO G g1 11) {k4 : Int32 → Int32 → Dat → Prop} (hk4 : ∀ (v2 : Int32) (v3 : Int32) (D : Dat), k4 v2 v3 D → J κ 0 0 G D 4 [(0, .ref v0), (1, .int v1), (2, .int v2), (3, .int v3)] []) (v2 : Int32) (v3 : Int32) (s0 : Int32) (s1 : Int32) (s2 : Nat) (D : Dat) (hw : X9_middle_j55 G post v0 v1 g1 k4 v2 v3 s0 s1 s2 D) : J κ 0 0 G D 55 [(0, .ref v0), (1, .int v1), (2, .int v2), (3, .int v3)] [.int s0, .int s1, .ref s2] := by
  unfold X9_middle_j55 at hw
  obtain ⟨ho1, hw⟩ := hw
  obtain ⟨hi2, hw⟩ := hw
  refine j_iast C ho1 hi2 dX9_middle_55 ?_
  refine j_iinc (v := v2 + 1) C dX9_middle_56 2 rfl rfl (by decide) rfl ?_
  exact J.sub (X9_middle_j59_ok C K ho_v0 hr_g1 ho_g1 hk4 (v2 + 1) v3 (dI D s2 s1.toNatClampNeg s0) hw) [1, 2, 0, 3] rfl
def X9_middle_l4_b (G : Shp) (post : Int32 → Dat → Prop) (v0 : Nat) (v1 : Int32) (g1 : Nat) (rec : Int32 → Int32 → Dat → Prop) (v2 : Int32) (v3 : Int32) (D : Dat) : Prop := ((40 ≤ v3 → ∃ n, X9_middle_l70 G post v0 v1 g1 n v2 (-1) 0 D) ∧ (¬ (40 ≤ v3) → X9_counts_wp G D v0 v1 v3 (fun r1 D2 => ((¬ r1 = 0 → X9_restOf_wp G D2 v0 v1 v3 (fun r3 D4 => X9_sign_wp G D4 v0 r3 (fun r5 D6 => ((0 ≤ r5 → X9_middle_j55 G post v0 v1 g1 rec v2 v3 r3 v3 g1 D6) ∧ (¬ (0 ≤ r5) → X9_turned_wp G D6 v0 r3 (fun r7 D8 => X9_middle_j55 G post v0 v1 g1 rec v2 v3 r7 v3 g1 D8)))))) ∧ (r1 = 0 → X9_middle_j59 G post v0 v1 g1 rec v2 v3 D2)))))
def X9_middle_l4 (G : Shp) (post : Int32 → Dat → Prop) (v0 : Nat) (v1 : Int32) (g1 : Nat) : Nat → Int32 → Int32 → Dat → Prop
  | 0 => fun _ _ _ => False
  | n + 1 => X9_middle_l4_b G post v0 v1 g1 (X9_middle_l4 G post v0 v1 g1 n)
set_option maxRecDepth 100000 in
set_option maxHeartbeats 4000000 in
theorem X9_middle_l4_ok {κ : Ctx} {G : Shp} {post : Int32 → Dat → Prop} {v0 : Nat} {v1 : Int32} {g1 : Nat} (C : Cx κ cX9_middle RX9 (rmN 5) 7) (K : RtI κ cX9_middle .int G post) (ho_v0 : isO G v0 9) (hr_g1 : G.2.2.2 v0 29 = some g1) (ho_g1 : isO G g1 11) : ∀ (n : Nat) (v2 : Int32) (v3 : Int32) (D : Dat), X9_middle_l4 G post v0 v1 g1 n v2 v3 D → J κ 0 0 G D 4 [(0, .ref v0), (1, .int v1), (2, .int v2), (3, .int v3)] [] := by
  intro n
  induction n with
  | zero => intro v2 v3 D hw; exact hw.elim
  | succ n ih =>
    intro v2 v3 D hw
    have hw : X9_middle_l4_b G post v0 v1 g1 (X9_middle_l4 G post v0 v1 g1 n) v2 v3 D := hw
    unfold X9_middle_l4_b at hw
    refine j_iload_n C dX9_middle_4 rfl 3 rfl ?_
    refine j_bipush (v := 40) C dX9_middle_5 (by decide) ?_
    refine j_icmp_ge (tgt := 65) C dX9_middle_7 (by decide) (fun hc => ?_) (fun hc => ?_)
    · have hw := hw.1 hc
      refine j_iconst (v := (-1)) C dX9_middle_65 (by decide) ?_
      refine j_istore_n C dX9_middle_66 rfl (by decide) rfl ?_
      refine j_iconst (v := 0) C dX9_middle_67 (by decide) ?_
      refine j_istore C dX9_middle_68 (by decide) rfl ?_
      obtain ⟨n, hw⟩ := hw
      exact J.sub (X9_middle_l70_ok C K ho_v0 hr_g1 ho_g1 n v2 (-1) 0 D hw) [2, 3, 4, 1, 0] rfl
    · have hw := hw.2 hc
      refine j_aload_n C dX9_middle_10 rfl 0 rfl ?_
      refine j_iload_n C dX9_middle_11 rfl 1 rfl ?_
      refine j_iload_n C dX9_middle_12 rfl 3 rfl ?_
      refine j_cVI (As := [.int v1, .int v3]) (st := []) C (X9_counts_ok κ.2.1 G D v0 v1 v3 _ hw) ho_v0 rfl k_905 mv_X9_counts ⟨by decide, by decide⟩ ⟨rfl, rfl⟩ rfl rfl (Nat.le_of_ble_eq_true rfl) ⟨Nat.zero_le _, Nat.zero_le _⟩ dX9_middle_13 (fun r1 D2 hw => ?_)
      refine j_if_ne (tgt := 22) C dX9_middle_16 (by decide) (fun hc => ?_) (fun hc => ?_)
      · have hw := hw.1 hc
        refine j_aload_n C dX9_middle_22 rfl 0 rfl ?_
        refine j_iload_n C dX9_middle_23 rfl 1 rfl ?_
        refine j_iload_n C dX9_middle_24 rfl 3 rfl ?_
        refine j_cVI (As := [.int v1, .int v3]) (st := []) C (X9_restOf_ok κ.2.1 G D2 v0 v1 v3 _ hw) ho_v0 rfl k_1104 mv_X9_restOf ⟨by decide, by decide⟩ ⟨rfl, rfl⟩ rfl rfl (Nat.le_of_ble_eq_true rfl) ⟨Nat.zero_le _, Nat.zero_le _⟩ dX9_middle_25 (fun r3 D4 hw => ?_)
        refine j_istore C dX9_middle_28 (by decide) rfl ?_
        refine j_aload_n C dX9_middle_30 rfl 1 rfl ?_
        refine gf_9_29 C ho_v0 hr_g1 k_793 dX9_middle_31 ?_
        refine j_iload_n C dX9_middle_34 rfl 4 rfl ?_
        refine j_aload_n C dX9_middle_35 rfl 1 rfl ?_
        refine j_iload C dX9_middle_36 0 rfl ?_
        refine j_cVI (As := [.int r3]) (st := [.int v3, .ref g1]) C (X9_sign_ok κ.2.1 G D4 v0 r3 _ hw) ho_v0 rfl k_990 mv_X9_sign ⟨by decide, by decide⟩ ⟨rfl, rfl⟩ rfl rfl (Nat.le_of_ble_eq_true rfl) ⟨Nat.zero_le _, Nat.zero_le _⟩ dX9_middle_38 (fun r5 D6 hw => ?_)
        refine j_if_ge (tgt := 53) C dX9_middle_41 (by decide) (fun hc => ?_) (fun hc => ?_)
        · have hw := hw.1 hc
          refine j_iload C dX9_middle_53 0 rfl ?_
          exact J.sub (X9_middle_j55_ok C K ho_v0 hr_g1 ho_g1 ih v2 v3 r3 v3 g1 D6 hw) [1, 2, 3, 4] rfl
        · have hw := hw.2 hc
          refine j_aload_n C dX9_middle_44 rfl 1 rfl ?_
          refine j_iload C dX9_middle_45 0 rfl ?_
          refine j_cVI (As := [.int r3]) (st := [.int v3, .ref g1]) C (X9_turned_ok κ.2.1 G D6 v0 r3 _ hw) ho_v0 rfl k_1006 mv_X9_turned ⟨by decide, by decide⟩ ⟨rfl, rfl⟩ rfl rfl (Nat.le_of_ble_eq_true rfl) ⟨Nat.zero_le _, Nat.zero_le _⟩ dX9_middle_47 (fun r7 D8 hw => ?_)
          refine j_goto (tgt := 55) C dX9_middle_50 (by decide) ?_
          exact J.sub (X9_middle_j55_ok C K ho_v0 hr_g1 ho_g1 ih v2 v3 r7 v3 g1 D8 hw) [1, 2, 3, 4] rfl
      · have hw := hw.2 hc
        refine j_goto (tgt := 59) C dX9_middle_19 (by decide) ?_
        exact J.sub (X9_middle_j59_ok C K ho_v0 hr_g1 ho_g1 ih v2 v3 D2 hw) [0, 1, 2, 3] rfl
def X9_middle_wp (G : Shp) (D : Dat) (v0 : Nat) (v1 : Int32) (post : Int32 → Dat → Prop) : Prop := isO G v0 9 ∧ ∃ g1, G.2.2.2 v0 29 = some g1 ∧ isO G g1 11 ∧ ∃ n, X9_middle_l4 G post v0 v1 g1 n 0 0 D
set_option maxRecDepth 100000 in
set_option maxHeartbeats 4000000 in
theorem X9_middle_ok (l : Launch) (G : Shp) (D : Dat) (v0 : Nat) (v1 : Int32) (post : Int32 → Dat → Prop) (hw : X9_middle_wp G D v0 v1 post) : CtI l yX9_middle cX9_middle 7 .int (rmN 5) [.ref v0, .int v1] G D post := by
  obtain ⟨ho_v0, g1, hr_g1, ho_g1, hw⟩ := hw
  refine ctI_of (by decide) rfl (Nat.le_of_ble_eq_true rfl) ?_
  intro κ hκ C K
  subst hκ
  have C : Cx κ cX9_middle RX9 (rmN 5) 7 := C
  refine j_iconst (v := 0) C dX9_middle_0 (by decide) ?_
  refine j_istore_n C dX9_middle_1 rfl (by decide) rfl ?_
  refine j_iconst (v := 0) C dX9_middle_2 (by decide) ?_
  refine j_istore_n C dX9_middle_3 rfl (by decide) rfl ?_
  obtain ⟨n, hw⟩ := hw
  exact J.sub (X9_middle_l4_ok C K ho_v0 hr_g1 ho_g1 n 0 0 D hw) [2, 3, 1, 0] rfl
/-! X9_pull -/
def X9_pull_l57_b (G : Shp) (post : Int32 → Dat → Prop) (v0 : Nat) (v1 : Int32) (v2 : Int32) (v3 : Int32) (g1 : Nat) (g2 : Nat) (rec : Int32 → Dat → Prop) (v4 : Int32) (D : Dat) : Prop := (((D.1 v0 21) ≤ v4 → X9_clear_wp G D v0 (fun r1 D2 => ((¬ r1 = 0 → X9_given_wp G D2 v0 v1 v3 3 (fun r3 D4 => X9_held_wp G D4 v0 19 (fun r5 D6 => X9_tells_wp G D6 v0 r3 r5 (fun r7 D8 => post r7 D8)))) ∧ (r1 = 0 → X9_refuse_wp G D2 v0 6 (fun r9 D10 => post r9 D10))))) ∧ (¬ ((D.1 v0 21) ≤ v4) → (vp_in v4 (G.2.2.1 g2) ∧ vp_in v4 (G.2.2.1 g1) ∧ rec (v4 + 1) (dJ D g1 v4.toNatClampNeg ((D.1 g2 v4.toNatClampNeg).toInt64)))))
def X9_pull_l57 (G : Shp) (post : Int32 → Dat → Prop) (v0 : Nat) (v1 : Int32) (v2 : Int32) (v3 : Int32) (g1 : Nat) (g2 : Nat) : Nat → Int32 → Dat → Prop
  | 0 => fun _ _ => False
  | n + 1 => X9_pull_l57_b G post v0 v1 v2 v3 g1 g2 (X9_pull_l57 G post v0 v1 v2 v3 g1 g2 n)
set_option maxRecDepth 100000 in
set_option maxHeartbeats 4000000 in
theorem X9_pull_l57_ok {κ : Ctx} {G : Shp} {post : Int32 → Dat → Prop} {v0 : Nat} {v1 : Int32} {v2 : Int32} {v3 : Int32} {g1 : Nat} {g2 : Nat} (C : Cx κ cX9_pull RX9 (rmN 5) 5) (K : RtI κ cX9_pull .int G post) (ho_v0 : isO G v0 9) (hr_g1 : G.2.2.2 v0 23 = some g1) (ho_g1 : isO G g1 12) (hr_g2 : G.2.2.2 v0 19 = some g2) (ho_g2 : isO G g2 11) : ∀ (n : Nat) (v4 : Int32) (D : Dat), X9_pull_l57 G post v0 v1 v2 v3 g1 g2 n v4 D → J κ 0 0 G D 57 [(0, .ref v0), (1, .int v1), (3, .int v3), (4, .int v4)] [] := by
  intro n
  induction n with
  | zero => intro v4 D hw; exact hw.elim
  | succ n ih =>
    intro v4 D hw
    have hw : X9_pull_l57_b G post v0 v1 v2 v3 g1 g2 (X9_pull_l57 G post v0 v1 v2 v3 g1 g2 n) v4 D := hw
    unfold X9_pull_l57_b at hw
    refine j_iload C dX9_pull_57 3 rfl ?_
    refine j_aload_n C dX9_pull_59 rfl 0 rfl ?_
    refine gf_9_21 C ho_v0 k_785 dX9_pull_60 ?_
    refine j_icmp_ge (tgt := 87) C dX9_pull_63 (by decide) (fun hc => ?_) (fun hc => ?_)
    · have hw := hw.1 hc
      refine j_aload_n C dX9_pull_87 rfl 0 rfl ?_
      refine j_cVI (As := []) (st := []) C (X9_clear_ok κ.2.1 G D v0 _ hw) ho_v0 rfl k_973 mv_X9_clear ⟨by decide, by decide⟩ ⟨rfl, rfl⟩ rfl rfl (Nat.le_of_ble_eq_true rfl) ⟨Nat.zero_le _, Nat.zero_le _⟩ dX9_pull_88 (fun r1 D2 hw => ?_)
      refine j_if_ne (tgt := 101) C dX9_pull_91 (by decide) (fun hc => ?_) (fun hc => ?_)
      · have hw := hw.1 hc
        refine j_aload_n C dX9_pull_101 rfl 0 rfl ?_
        refine j_aload_n C dX9_pull_102 rfl 0 rfl ?_
        refine j_iload_n C dX9_pull_103 rfl 1 rfl ?_
        refine j_iload_n C dX9_pull_104 rfl 2 rfl ?_
        refine j_iconst (v := 3) C dX9_pull_105 (by decide) ?_
        refine j_cVI (As := [.int v1, .int v3, .int 3]) (st := [.ref v0]) C (X9_given_ok κ.2.1 G D2 v0 v1 v3 3 _ hw) ho_v0 rfl k_1089 mv_X9_given ⟨by decide, by decide⟩ ⟨rfl, rfl⟩ rfl rfl (Nat.le_of_ble_eq_true rfl) ⟨Nat.zero_le _, Nat.zero_le _⟩ dX9_pull_106 (fun r3 D4 hw => ?_)
        refine j_aload_n C dX9_pull_109 rfl 0 rfl ?_
        refine j_bipush (v := 19) C dX9_pull_110 (by decide) ?_
        refine j_cVI (As := [.int 19]) (st := [.int r3, .ref v0]) C (X9_held_ok κ.2.1 G D4 v0 19 _ hw) ho_v0 rfl k_1052 mv_X9_held ⟨by decide, by decide⟩ ⟨rfl, rfl⟩ rfl rfl (Nat.le_of_ble_eq_true rfl) ⟨Nat.zero_le _, Nat.zero_le _⟩ dX9_pull_112 (fun r5 D6 hw => ?_)
        refine j_cVI (As := [.int r3, .int r5]) (st := []) C (X9_tells_ok κ.2.1 G D6 v0 r3 r5 _ hw) ho_v0 rfl k_1056 mv_X9_tells ⟨by decide, by decide⟩ ⟨rfl, rfl⟩ rfl rfl (Nat.le_of_ble_eq_true rfl) ⟨Nat.zero_le _, Nat.zero_le _⟩ dX9_pull_115 (fun r7 D8 hw => ?_)
        exact K _ _ _ _ dX9_pull_118 rfl hw
      · have hw := hw.2 hc
        refine j_aload_n C dX9_pull_94 rfl 0 rfl ?_
        refine j_bipush (v := 6) C dX9_pull_95 (by decide) ?_
        refine j_cVI (As := [.int 6]) (st := []) C (X9_refuse_ok κ.2.1 G D2 v0 6 _ hw) ho_v0 rfl k_897 mv_X9_refuse ⟨by decide, by decide⟩ ⟨rfl, rfl⟩ rfl rfl (Nat.le_of_ble_eq_true rfl) ⟨Nat.zero_le _, Nat.zero_le _⟩ dX9_pull_97 (fun r9 D10 hw => ?_)
        exact K _ _ _ _ dX9_pull_100 rfl hw
    · have hw := hw.2 hc
      refine j_aload_n C dX9_pull_66 rfl 0 rfl ?_
      refine gf_9_23 C ho_v0 hr_g1 k_787 dX9_pull_67 ?_
      refine j_iload C dX9_pull_70 3 rfl ?_
      refine j_aload_n C dX9_pull_72 rfl 0 rfl ?_
      refine gf_9_19 C ho_v0 hr_g2 k_783 dX9_pull_73 ?_
      refine j_iload C dX9_pull_76 3 rfl ?_
      obtain ⟨hi11, hw⟩ := hw
      refine j_iald C ho_g2 hi11 dX9_pull_78 ?_
      refine j_i2l C dX9_pull_79 ?_
      obtain ⟨hi12, hw⟩ := hw
      refine j_last C ho_g1 hi12 dX9_pull_80 ?_
      refine j_iinc (v := v4 + 1) C dX9_pull_81 3 rfl rfl (by decide) rfl ?_
      refine j_goto (tgt := 57) C dX9_pull_84 (by decide) ?_
      exact J.sub (ih (v4 + 1) (dJ D g1 v4.toNatClampNeg ((D.1 g2 v4.toNatClampNeg).toInt64)) hw) [1, 2, 3, 0] rfl
def X9_pull_j21 (G : Shp) (post : Int32 → Dat → Prop) (v0 : Nat) (v1 : Int32) (v2 : Int32) (v3 : Int32) (g1 : Nat) (g2 : Nat) (D : Dat) : Prop := X9_refuse_wp G D v0 1 (fun r1 D2 => post r1 D2)
set_option maxRecDepth 100000 in
set_option maxHeartbeats 4000000 in
theorem X9_pull_j21_ok {κ : Ctx} {G : Shp} {post : Int32 → Dat → Prop} {v0 : Nat} {v1 : Int32} {v2 : Int32} {v3 : Int32} {g1 : Nat} {g2 : Nat} (C : Cx κ cX9_pull RX9 (rmN 5) 5) (K : RtI κ cX9_pull .int G post) (ho_v0 : isO G v0 9) (hr_g1 : G.2.2.2 v0 23 = some g1) (ho_g1 : isO G g1 12) (hr_g2 : G.2.2.2 v0 19 = some g2) (ho_g2 : isO G g2 11) (D : Dat) (hw : X9_pull_j21 G post v0 v1 v2 v3 g1 g2 D) : J κ 0 0 G D 21 [(0, .ref v0)] [] := by
  unfold X9_pull_j21 at hw
  refine j_aload_n C dX9_pull_21 rfl 0 rfl ?_
  refine j_iconst (v := 1) C dX9_pull_22 (by decide) ?_
  refine j_cVI (As := [.int 1]) (st := []) C (X9_refuse_ok κ.2.1 G D v0 1 _ hw) ho_v0 rfl k_897 mv_X9_refuse ⟨by decide, by decide⟩ ⟨rfl, rfl⟩ rfl rfl (Nat.le_of_ble_eq_true rfl) ⟨Nat.zero_le _, Nat.zero_le _⟩ dX9_pull_23 (fun r1 D2 hw => ?_)
  exact K _ _ _ _ dX9_pull_26 rfl hw
def X9_pull_wp (G : Shp) (D : Dat) (v0 : Nat) (v1 : Int32) (v2 : Int32) (v3 : Int32) (post : Int32 → Dat → Prop) : Prop := isO G v0 9 ∧ ∃ g1, G.2.2.2 v0 23 = some g1 ∧ isO G g1 12 ∧ ∃ g2, G.2.2.2 v0 19 = some g2 ∧ isO G g2 11 ∧ X9_isRow_wp G D v1 (fun r1 D2 => ((r1 = 0 → X9_pull_j21 G post v0 v1 v2 v3 g1 g2 D2) ∧ (¬ (r1 = 0) → X9_isTick_wp G D2 v2 (fun r3 D4 => ((r3 = 0 → X9_pull_j21 G post v0 v1 v2 v3 g1 g2 D4) ∧ (¬ (r3 = 0) → X9_isFar_wp G D4 v3 (fun r5 D6 => ((¬ r5 = 0 → X9_counts_wp G D6 v0 v1 v2 (fun r7 D8 => ((¬ r7 = 0 → X9_gather_wp G D8 v0 v1 (fun D10 => X9_look_wp G D10 v0 v1 v2 (fun D12 => ∃ n, X9_pull_l57 G post v0 v1 v2 v3 g1 g2 n 0 D12))) ∧ (r7 = 0 → X9_refuse_wp G D8 v0 7 (fun r13 D14 => post r13 D14))))) ∧ (r5 = 0 → X9_pull_j21 G post v0 v1 v2 v3 g1 g2 D6)))))))))
set_option maxRecDepth 100000 in
set_option maxHeartbeats 4000000 in
theorem X9_pull_ok (l : Launch) (G : Shp) (D : Dat) (v0 : Nat) (v1 : Int32) (v2 : Int32) (v3 : Int32) (post : Int32 → Dat → Prop) (hw : X9_pull_wp G D v0 v1 v2 v3 post) : CtI l yX9_pull cX9_pull 5 .int (rmN 5) [.ref v0, .int v1, .int v2, .int v3] G D post := by
  obtain ⟨ho_v0, g1, hr_g1, ho_g1, g2, hr_g2, ho_g2, hw⟩ := hw
  refine ctI_of (by decide) rfl (Nat.le_of_ble_eq_true rfl) ?_
  intro κ hκ C K
  subst hκ
  have C : Cx κ cX9_pull RX9 (rmN 5) 5 := C
  refine j_iload_n C dX9_pull_0 rfl 1 rfl ?_
  refine j_cSI (As := [.int v1]) (st := []) C (X9_isRow_ok κ.2.1 G D v1 _ hw) k_867 ms_X9_isRow ⟨by decide, by decide⟩ ⟨rfl, rfl⟩ rfl rfl (Nat.le_of_ble_eq_true rfl) ⟨Nat.zero_le _, Nat.zero_le _⟩ dX9_pull_1 (fun r1 D2 hw => ?_)
  refine j_if_eq (tgt := 21) C dX9_pull_4 (by decide) (fun hc => ?_) (fun hc => ?_)
  · have hw := hw.1 hc
    exact J.sub (X9_pull_j21_ok C K ho_v0 hr_g1 ho_g1 hr_g2 ho_g2 D2 hw) [0] rfl
  · have hw := hw.2 hc
    refine j_iload_n C dX9_pull_7 rfl 2 rfl ?_
    refine j_cSI (As := [.int v2]) (st := []) C (X9_isTick_ok κ.2.1 G D2 v2 _ hw) k_870 ms_X9_isTick ⟨by decide, by decide⟩ ⟨rfl, rfl⟩ rfl rfl (Nat.le_of_ble_eq_true rfl) ⟨Nat.zero_le _, Nat.zero_le _⟩ dX9_pull_8 (fun r3 D4 hw => ?_)
    refine j_if_eq (tgt := 21) C dX9_pull_11 (by decide) (fun hc => ?_) (fun hc => ?_)
    · have hw := hw.1 hc
      exact J.sub (X9_pull_j21_ok C K ho_v0 hr_g1 ho_g1 hr_g2 ho_g2 D4 hw) [0] rfl
    · have hw := hw.2 hc
      refine j_iload_n C dX9_pull_14 rfl 3 rfl ?_
      refine j_cSI (As := [.int v3]) (st := []) C (X9_isFar_ok κ.2.1 G D4 v3 _ hw) k_1097 ms_X9_isFar ⟨by decide, by decide⟩ ⟨rfl, rfl⟩ rfl rfl (Nat.le_of_ble_eq_true rfl) ⟨Nat.zero_le _, Nat.zero_le _⟩ dX9_pull_15 (fun r5 D6 hw => ?_)
      refine j_if_ne (tgt := 27) C dX9_pull_18 (by decide) (fun hc => ?_) (fun hc => ?_)
      · have hw := hw.1 hc
        refine j_aload_n C dX9_pull_27 rfl 0 rfl ?_
        refine j_iload_n C dX9_pull_28 rfl 1 rfl ?_
        refine j_iload_n C dX9_pull_29 rfl 2 rfl ?_
        refine j_cVI (As := [.int v1, .int v2]) (st := []) C (X9_counts_ok κ.2.1 G D6 v0 v1 v2 _ hw) ho_v0 rfl k_905 mv_X9_counts ⟨by decide, by decide⟩ ⟨rfl, rfl⟩ rfl rfl (Nat.le_of_ble_eq_true rfl) ⟨Nat.zero_le _, Nat.zero_le _⟩ dX9_pull_30 (fun r7 D8 hw => ?_)
        refine j_if_ne (tgt := 43) C dX9_pull_33 (by decide) (fun hc => ?_) (fun hc => ?_)
        · have hw := hw.1 hc
          refine j_aload_n C dX9_pull_43 rfl 0 rfl ?_
          refine j_iload_n C dX9_pull_44 rfl 1 rfl ?_
          refine j_cVV (As := [.int v1]) (st := []) C (X9_gather_ok κ.2.1 G D8 v0 v1 _ hw) ho_v0 rfl k_961 mv_X9_gather ⟨by decide, by decide⟩ ⟨rfl, rfl⟩ rfl rfl (Nat.le_of_ble_eq_true rfl) ⟨Nat.zero_le _, Nat.zero_le _⟩ dX9_pull_45 (fun D10 hw => ?_)
          refine j_aload_n C dX9_pull_48 rfl 0 rfl ?_
          refine j_iload_n C dX9_pull_49 rfl 1 rfl ?_
          refine j_iload_n C dX9_pull_50 rfl 2 rfl ?_
          refine j_cVV (As := [.int v1, .int v2]) (st := []) C (X9_look_ok κ.2.1 G D10 v0 v1 v2 _ hw) ho_v0 rfl k_965 mv_X9_look ⟨by decide, by decide⟩ ⟨rfl, rfl⟩ rfl rfl (Nat.le_of_ble_eq_true rfl) ⟨Nat.zero_le _, Nat.zero_le _⟩ dX9_pull_51 (fun D12 hw => ?_)
          refine j_iconst (v := 0) C dX9_pull_54 (by decide) ?_
          refine j_istore C dX9_pull_55 (by decide) rfl ?_
          obtain ⟨n, hw⟩ := hw
          exact J.sub (X9_pull_l57_ok C K ho_v0 hr_g1 ho_g1 hr_g2 ho_g2 n 0 D12 hw) [1, 2, 4, 0] rfl
        · have hw := hw.2 hc
          refine j_aload_n C dX9_pull_36 rfl 0 rfl ?_
          refine j_bipush (v := 7) C dX9_pull_37 (by decide) ?_
          refine j_cVI (As := [.int 7]) (st := []) C (X9_refuse_ok κ.2.1 G D8 v0 7 _ hw) ho_v0 rfl k_897 mv_X9_refuse ⟨by decide, by decide⟩ ⟨rfl, rfl⟩ rfl rfl (Nat.le_of_ble_eq_true rfl) ⟨Nat.zero_le _, Nat.zero_le _⟩ dX9_pull_39 (fun r13 D14 hw => ?_)
          exact K _ _ _ _ dX9_pull_42 rfl hw
      · have hw := hw.2 hc
        exact J.sub (X9_pull_j21_ok C K ho_v0 hr_g1 ho_g1 hr_g2 ho_g2 D6 hw) [0] rfl
/-! X9_solve -/
def X9_solve_wp (G : Shp) (D : Dat) (v0 : Nat) (v1 : Int32) (post : Int32 → Dat → Prop) : Prop := isO G v0 9 ∧ X9_gather_wp G D v0 v1 (fun D2 => X9_clear_wp G D2 v0 (fun r3 D4 => (isB r3 ∧ post r3 D4)))
set_option maxRecDepth 100000 in
set_option maxHeartbeats 4000000 in
theorem X9_solve_ok (l : Launch) (G : Shp) (D : Dat) (v0 : Nat) (v1 : Int32) (post : Int32 → Dat → Prop) (hw : X9_solve_wp G D v0 v1 post) : CtI l yX9_solve cX9_solve 2 .boolean (rmN 5) [.ref v0, .int v1] G D post := by
  obtain ⟨ho_v0, hw⟩ := hw
  refine ctI_of (by decide) rfl (Nat.le_of_ble_eq_true rfl) ?_
  intro κ hκ C K
  subst hκ
  have C : Cx κ cX9_solve RX9 (rmN 5) 2 := C
  refine j_aload_n C dX9_solve_0 rfl 0 rfl ?_
  refine j_iload_n C dX9_solve_1 rfl 1 rfl ?_
  refine j_cVV (As := [.int v1]) (st := []) C (X9_gather_ok κ.2.1 G D v0 v1 _ hw) ho_v0 rfl k_961 mv_X9_gather ⟨by decide, by decide⟩ ⟨rfl, rfl⟩ rfl rfl (Nat.le_of_ble_eq_true rfl) ⟨Nat.zero_le _, Nat.zero_le _⟩ dX9_solve_2 (fun D2 hw => ?_)
  refine j_aload_n C dX9_solve_5 rfl 0 rfl ?_
  refine j_cVI (As := []) (st := []) C (X9_clear_ok κ.2.1 G D2 v0 _ hw) ho_v0 rfl k_973 mv_X9_clear ⟨by decide, by decide⟩ ⟨rfl, rfl⟩ rfl rfl (Nat.le_of_ble_eq_true rfl) ⟨Nat.zero_le _, Nat.zero_le _⟩ dX9_solve_6 (fun r3 D4 hw => ?_)
  obtain ⟨hb5, hw⟩ := hw
  exact K _ _ _ _ dX9_solve_9 (isB_n hb5) hw
/-! X5_run -/
def X5_run_j85 (G : Shp) (post : Int32 → Dat → Prop) (v0 : Nat) (v1 : Nat) (v2 : Int32) (v3 : Int32) (g1 : Nat) (g2 : Nat) (g3 : Nat) (D : Dat) : Prop := (isB 1 ∧ post 1 D)
set_option maxRecDepth 100000 in
set_option maxHeartbeats 4000000 in
theorem X5_run_j85_ok {κ : Ctx} {G : Shp} {post : Int32 → Dat → Prop} {v0 : Nat} {v1 : Nat} {v2 : Int32} {v3 : Int32} {g1 : Nat} {g2 : Nat} {g3 : Nat} (C : Cx κ cX5_run RX5 (rmN 6) 6) (K : RtI κ cX5_run .boolean G post) (ho_v0 : isO G v0 5) (ho_v1 : isO G v1 3) (hr_g1 : G.2.2.2 v0 3 = some g1) (ho_g1 : isO G g1 7) (hr_g2 : G.2.2.2 v1 2 = some g2) (ho_g2 : isO G g2 7) (hr_g3 : G.2.2.2 v0 0 = some g3) (ho_g3 : isO G g3 2) (D : Dat) (hw : X5_run_j85 G post v0 v1 v2 v3 g1 g2 g3 D) : J κ 0 0 G D 85 [] [] := by
  unfold X5_run_j85 at hw
  refine j_iconst (v := 1) C dX5_run_85 (by decide) ?_
  obtain ⟨hb1, hw⟩ := hw
  exact K _ _ _ _ dX5_run_86 (isB_n hb1) hw
def X5_run_l24_b (G : Shp) (post : Int32 → Dat → Prop) (v0 : Nat) (v1 : Nat) (v2 : Int32) (v3 : Int32) (g1 : Nat) (g2 : Nat) (g3 : Nat) (rec : Int32 → Int32 → Dat → Prop) (v4 : Int32) (v5 : Int32) (D : Dat) : Prop := ((5 ≤ v5 → X5_run_j85 G post v0 v1 v2 v3 g1 g2 g3 D) ∧ (¬ (5 ≤ v5) → ((v4 = 0 → X5_run_j85 G post v0 v1 v2 v3 g1 g2 g3 D) ∧ (¬ (v4 = 0) → X2_find_wp G D g3 v1 (-1) (fun r1 D2 => ((¬ r1 = 0 → X5_measure_wp G D2 v0 v1 (fun D4 => X5_findMiddle_wp G D4 v0 v1 (fun D6 => X5_leaveOut_wp G D6 v0 v1 v2 v3 (fun r7 D8 => rec r7 (v5 + 1) D8)))) ∧ (r1 = 0 → X7_copy_wp G D2 g2 g1 (fun D10 => (isB 0 ∧ post 0 D10)))))))))
def X5_run_l24 (G : Shp) (post : Int32 → Dat → Prop) (v0 : Nat) (v1 : Nat) (v2 : Int32) (v3 : Int32) (g1 : Nat) (g2 : Nat) (g3 : Nat) : Nat → Int32 → Int32 → Dat → Prop
  | 0 => fun _ _ _ => False
  | n + 1 => X5_run_l24_b G post v0 v1 v2 v3 g1 g2 g3 (X5_run_l24 G post v0 v1 v2 v3 g1 g2 g3 n)
set_option maxRecDepth 100000 in
set_option maxHeartbeats 4000000 in
theorem X5_run_l24_ok {κ : Ctx} {G : Shp} {post : Int32 → Dat → Prop} {v0 : Nat} {v1 : Nat} {v2 : Int32} {v3 : Int32} {g1 : Nat} {g2 : Nat} {g3 : Nat} (C : Cx κ cX5_run RX5 (rmN 6) 6) (K : RtI κ cX5_run .boolean G post) (ho_v0 : isO G v0 5) (ho_v1 : isO G v1 3) (hr_g1 : G.2.2.2 v0 3 = some g1) (ho_g1 : isO G g1 7) (hr_g2 : G.2.2.2 v1 2 = some g2) (ho_g2 : isO G g2 7) (hr_g3 : G.2.2.2 v0 0 = some g3) (ho_g3 : isO G g3 2) : ∀ (n : Nat) (v4 : Int32) (v5 : Int32) (D : Dat), X5_run_l24 G post v0 v1 v2 v3 g1 g2 g3 n v4 v5 D → J κ 0 0 G D 24 [(0, .ref v0), (1, .ref v1), (2, .int v2), (3, .int v3), (4, .int v4), (5, .int v5)] [] := by
  intro n
  induction n with
  | zero => intro v4 v5 D hw; exact hw.elim
  | succ n ih =>
    intro v4 v5 D hw
    have hw : X5_run_l24_b G post v0 v1 v2 v3 g1 g2 g3 (X5_run_l24 G post v0 v1 v2 v3 g1 g2 g3 n) v4 v5 D := hw
    unfold X5_run_l24_b at hw
    refine j_iload C dX5_run_24 5 rfl ?_
    refine j_iconst (v := 5) C dX5_run_26 (by decide) ?_
    refine j_icmp_ge (tgt := 85) C dX5_run_27 (by decide) (fun hc => ?_) (fun hc => ?_)
    · have hw := hw.1 hc
      exact J.sub (X5_run_j85_ok C K ho_v0 ho_v1 hr_g1 ho_g1 hr_g2 ho_g2 hr_g3 ho_g3 D hw) [] rfl
    · have hw := hw.2 hc
      refine j_iload C dX5_run_30 4 rfl ?_
      refine j_if_eq (tgt := 85) C dX5_run_32 (by decide) (fun hc => ?_) (fun hc => ?_)
      · have hw := hw.1 hc
        exact J.sub (X5_run_j85_ok C K ho_v0 ho_v1 hr_g1 ho_g1 hr_g2 ho_g2 hr_g3 ho_g3 D hw) [] rfl
      · have hw := hw.2 hc
        refine j_aload_n C dX5_run_35 rfl 0 rfl ?_
        refine gf_5_0 C ho_v0 hr_g3 k_203 dX5_run_36 ?_
        refine j_aload_n C dX5_run_39 rfl 1 rfl ?_
        refine j_iconst (v := (-1)) C dX5_run_40 (by decide) ?_
        refine j_cVI (As := [.ref v1, .int (-1)]) (st := []) C (X2_find_ok κ.2.1 G D g3 v1 (-1) _ hw) ho_g3 rfl k_707 mv_X2_find ⟨by decide, by decide⟩ ⟨rfl, rfl⟩ rfl rfl (Nat.le_of_ble_eq_true rfl) ⟨Nat.zero_le _, Nat.zero_le _⟩ dX5_run_41 (fun r1 D2 hw => ?_)
        refine j_if_ne (tgt := 60) C dX5_run_44 (by decide) (fun hc => ?_) (fun hc => ?_)
        · have hw := hw.1 hc
          refine j_aload_n C dX5_run_60 rfl 0 rfl ?_
          refine j_aload_n C dX5_run_61 rfl 1 rfl ?_
          refine j_cVV (As := [.ref v1]) (st := []) C (X5_measure_ok κ.2.1 G D2 v0 v1 _ hw) ho_v0 rfl k_708 mv_X5_measure ⟨by decide, by decide⟩ ⟨rfl, rfl⟩ rfl rfl (Nat.le_of_ble_eq_true rfl) ⟨Nat.zero_le _, Nat.zero_le _⟩ dX5_run_62 (fun D4 hw => ?_)
          refine j_aload_n C dX5_run_65 rfl 0 rfl ?_
          refine j_aload_n C dX5_run_66 rfl 1 rfl ?_
          refine j_cVV (As := [.ref v1]) (st := []) C (X5_findMiddle_ok κ.2.1 G D4 v0 v1 _ hw) ho_v0 rfl k_714 mv_X5_findMiddle ⟨by decide, by decide⟩ ⟨rfl, rfl⟩ rfl rfl (Nat.le_of_ble_eq_true rfl) ⟨Nat.zero_le _, Nat.zero_le _⟩ dX5_run_67 (fun D6 hw => ?_)
          refine j_aload_n C dX5_run_70 rfl 0 rfl ?_
          refine j_aload_n C dX5_run_71 rfl 1 rfl ?_
          refine j_iload_n C dX5_run_72 rfl 2 rfl ?_
          refine j_iload_n C dX5_run_73 rfl 3 rfl ?_
          refine j_cVI (As := [.ref v1, .int v2, .int v3]) (st := []) C (X5_leaveOut_ok κ.2.1 G D6 v0 v1 v2 v3 _ hw) ho_v0 rfl k_729 mv_X5_leaveOut ⟨by decide, by decide⟩ ⟨rfl, rfl⟩ rfl rfl (Nat.le_of_ble_eq_true rfl) ⟨Nat.zero_le _, Nat.zero_le _⟩ dX5_run_74 (fun r7 D8 hw => ?_)
          refine j_istore C dX5_run_77 (by decide) rfl ?_
          refine j_iinc (v := v5 + 1) C dX5_run_79 5 rfl rfl (by decide) rfl ?_
          refine j_goto (tgt := 24) C dX5_run_82 (by decide) ?_
          exact J.sub (ih r7 (v5 + 1) D8 hw) [2, 3, 4, 5, 1, 0] rfl
        · have hw := hw.2 hc
          refine j_aload_n C dX5_run_47 rfl 1 rfl ?_
          refine gf_3_2 C ho_v1 hr_g2 k_89 dX5_run_48 ?_
          refine j_aload_n C dX5_run_51 rfl 0 rfl ?_
          refine gf_5_3 C ho_v0 hr_g1 k_206 dX5_run_52 ?_
          refine j_cVV (As := [.ref g1]) (st := []) C (X7_copy_ok κ.2.1 G D2 g2 g1 _ hw) ho_g2 rfl k_702 mv_X7_copy ⟨by decide, by decide⟩ ⟨rfl, rfl⟩ rfl rfl (Nat.le_of_ble_eq_true rfl) ⟨Nat.zero_le _, Nat.zero_le _⟩ dX5_run_55 (fun D10 hw => ?_)
          refine j_iconst (v := 0) C dX5_run_58 (by decide) ?_
          obtain ⟨hb11, hw⟩ := hw
          exact K _ _ _ _ dX5_run_59 (isB_n hb11) hw
def X5_run_wp (G : Shp) (D : Dat) (v0 : Nat) (v1 : Nat) (v2 : Int32) (v3 : Int32) (post : Int32 → Dat → Prop) : Prop := isO G v0 5 ∧ isO G v1 3 ∧ ∃ g1, G.2.2.2 v0 3 = some g1 ∧ isO G g1 7 ∧ ∃ g2, G.2.2.2 v1 2 = some g2 ∧ isO G g2 7 ∧ ∃ g3, G.2.2.2 v0 0 = some g3 ∧ isO G g3 2 ∧ X7_copy_wp G D g1 g2 (fun D2 => X7_clear_wp G D2 g2 (fun D4 => ∃ n, X5_run_l24 G post v0 v1 v2 v3 g1 g2 g3 n 1 0 D4))
set_option maxRecDepth 100000 in
set_option maxHeartbeats 4000000 in
theorem X5_run_ok (l : Launch) (G : Shp) (D : Dat) (v0 : Nat) (v1 : Nat) (v2 : Int32) (v3 : Int32) (post : Int32 → Dat → Prop) (hw : X5_run_wp G D v0 v1 v2 v3 post) : CtI l yX5_run cX5_run 6 .boolean (rmN 6) [.ref v0, .ref v1, .int v2, .int v3] G D post := by
  obtain ⟨ho_v0, ho_v1, g1, hr_g1, ho_g1, g2, hr_g2, ho_g2, g3, hr_g3, ho_g3, hw⟩ := hw
  refine ctI_of (by decide) rfl (Nat.le_of_ble_eq_true rfl) ?_
  intro κ hκ C K
  subst hκ
  have C : Cx κ cX5_run RX5 (rmN 6) 6 := C
  refine j_aload_n C dX5_run_0 rfl 0 rfl ?_
  refine gf_5_3 C ho_v0 hr_g1 k_206 dX5_run_1 ?_
  refine j_aload_n C dX5_run_4 rfl 1 rfl ?_
  refine gf_3_2 C ho_v1 hr_g2 k_89 dX5_run_5 ?_
  refine j_cVV (As := [.ref g2]) (st := []) C (X7_copy_ok κ.2.1 G D g1 g2 _ hw) ho_g1 rfl k_702 mv_X7_copy ⟨by decide, by decide⟩ ⟨rfl, rfl⟩ rfl rfl (Nat.le_of_ble_eq_true rfl) ⟨Nat.zero_le _, Nat.zero_le _⟩ dX5_run_8 (fun D2 hw => ?_)
  refine j_aload_n C dX5_run_11 rfl 1 rfl ?_
  refine gf_3_2 C ho_v1 hr_g2 k_89 dX5_run_12 ?_
  refine j_cVV (As := []) (st := []) C (X7_clear_ok κ.2.1 G D2 g2 _ hw) ho_g2 rfl k_706 mv_X7_clear ⟨by decide, by decide⟩ ⟨rfl, rfl⟩ rfl rfl (Nat.le_of_ble_eq_true rfl) ⟨Nat.zero_le _, Nat.zero_le _⟩ dX5_run_15 (fun D4 hw => ?_)
  refine j_iconst (v := 1) C dX5_run_18 (by decide) ?_
  refine j_istore C dX5_run_19 (by decide) rfl ?_
  refine j_iconst (v := 0) C dX5_run_21 (by decide) ?_
  refine j_istore C dX5_run_22 (by decide) rfl ?_
  obtain ⟨n, hw⟩ := hw
  exact J.sub (X5_run_l24_ok C K ho_v0 ho_v1 hr_g1 ho_g1 hr_g2 ho_g2 hr_g3 ho_g3 n 1 0 D4 hw) [2, 3, 4, 5, 1, 0] rfl
/-! X8_addForetold -/
def X8_addForetold_j25 (G : Shp) (post : Int32 → Dat → Prop) (v0 : Nat) (v1 : Int32) (v2 : Int32) (v3 : Int32) (g1 : Nat) (g2 : Nat) (g3 : Nat) (g4 : Nat) (D : Dat) : Prop := (isB 0 ∧ post 0 D)
set_option maxRecDepth 100000 in
set_option maxHeartbeats 4000000 in
theorem X8_addForetold_j25_ok {κ : Ctx} {G : Shp} {post : Int32 → Dat → Prop} {v0 : Nat} {v1 : Int32} {v2 : Int32} {v3 : Int32} {g1 : Nat} {g2 : Nat} {g3 : Nat} {g4 : Nat} (C : Cx κ cX8_addForetold RX8 (rmN 6) 5) (K : RtI κ cX8_addForetold .boolean G post) (ho_v0 : isO G v0 8) (hr_g1 : G.2.2.2 v0 1 = some g1) (ho_g1 : isO G g1 2) (hr_g2 : G.2.2.2 v0 5 = some g2) (ho_g2 : isO G g2 0) (hr_g3 : G.2.2.2 v0 3 = some g3) (ho_g3 : isO G g3 1) (hr_g4 : G.2.2.2 g1 8 = some g4) (ho_g4 : isO G g4 0) (D : Dat) (hw : X8_addForetold_j25 G post v0 v1 v2 v3 g1 g2 g3 g4 D) : J κ 0 0 G D 25 [] [] := by
  unfold X8_addForetold_j25 at hw
  refine j_iconst (v := 0) C dX8_addForetold_25 (by decide) ?_
  obtain ⟨hb1, hw⟩ := hw
  exact K _ _ _ _ dX8_addForetold_26 (isB_n hb1) hw
def X8_addForetold_wp (G : Shp) (D : Dat) (v0 : Nat) (v1 : Int32) (v2 : Int32) (v3 : Int32) (post : Int32 → Dat → Prop) : Prop := isO G v0 8 ∧ ∃ g1, G.2.2.2 v0 1 = some g1 ∧ isO G g1 2 ∧ ∃ g2, G.2.2.2 v0 5 = some g2 ∧ isO G g2 0 ∧ ∃ g3, G.2.2.2 v0 3 = some g3 ∧ isO G g3 1 ∧ ∃ g4, G.2.2.2 g1 8 = some g4 ∧ isO G g4 0 ∧ X8_rowOf_wp G D v0 v1 (fun r1 D2 => (r1 = none → X8_addForetold_j25 G post v0 v1 v2 v3 g1 g2 g3 g4 D2) ∧ (∀ y3, r1 = some y3 → X2_find_wp G D2 g1 y3 (-1) (fun r4 D5 => ((¬ r4 = 0 → X2_foretold_wp G D5 g1 v3 g2 (fun D7 => X1_add_wp G D7 g3 g2 g4 v2 (fun D9 => (isB 1 ∧ post 1 D9)))) ∧ (r4 = 0 → X8_addForetold_j25 G post v0 v1 v2 v3 g1 g2 g3 g4 D5)))))
set_option maxRecDepth 100000 in
set_option maxHeartbeats 4000000 in
theorem X8_addForetold_ok (l : Launch) (G : Shp) (D : Dat) (v0 : Nat) (v1 : Int32) (v2 : Int32) (v3 : Int32) (post : Int32 → Dat → Prop) (hw : X8_addForetold_wp G D v0 v1 v2 v3 post) : CtI l yX8_addForetold cX8_addForetold 5 .boolean (rmN 6) [.ref v0, .int v1, .int v2, .int v3] G D post := by
  obtain ⟨ho_v0, g1, hr_g1, ho_g1, g2, hr_g2, ho_g2, g3, hr_g3, ho_g3, g4, hr_g4, ho_g4, hw⟩ := hw
  refine ctI_of (by decide) rfl (Nat.le_of_ble_eq_true rfl) ?_
  intro κ hκ C K
  subst hκ
  have C : Cx κ cX8_addForetold RX8 (rmN 6) 5 := C
  refine j_aload_n C dX8_addForetold_0 rfl 0 rfl ?_
  refine j_iload_n C dX8_addForetold_1 rfl 1 rfl ?_
  refine j_cVQ (As := [.int v1]) (st := []) C (X8_rowOf_ok κ.2.1 G D v0 v1 _ hw) ho_v0 rfl k_299 mv_X8_rowOf ⟨by decide, by decide⟩ ⟨rfl, rfl⟩ rfl rfl (Nat.le_of_ble_eq_true rfl) ⟨Nat.zero_le _, Nat.zero_le _⟩ dX8_addForetold_2 (fun r1 D2 hw => ?_)
  refine j_astoreO C dX8_addForetold_5 (by decide) rfl ?_
  refine j_aloadO C dX8_addForetold_7 0 rfl ?_
  refine j_ifnull (tgt := 25) C dX8_addForetold_9 (by decide) (fun hc => ?_) (fun y3 hc => ?_)
  · have hw := hw.1 hc
    exact J.sub (X8_addForetold_j25_ok C K ho_v0 hr_g1 ho_g1 hr_g2 ho_g2 hr_g3 ho_g3 hr_g4 ho_g4 D2 hw) [] rfl
  · replace hw := hw.2 y3 hc
    subst hc
    show J κ 0 0 G D2 12 [(4, .ref y3), (0, .ref v0), (1, .int v1), (2, .int v2), (3, .int v3)] []
    refine j_aload_n C dX8_addForetold_12 rfl 1 rfl ?_
    refine gf_8_1 C ho_v0 hr_g1 k_252 dX8_addForetold_13 ?_
    refine j_aload C dX8_addForetold_16 0 rfl ?_
    refine j_iconst (v := (-1)) C dX8_addForetold_18 (by decide) ?_
    refine j_cVI (As := [.ref y3, .int (-1)]) (st := []) C (X2_find_ok κ.2.1 G D2 g1 y3 (-1) _ hw) ho_g1 rfl k_420 mv_X2_find ⟨by decide, by decide⟩ ⟨rfl, rfl⟩ rfl rfl (Nat.le_of_ble_eq_true rfl) ⟨Nat.zero_le _, Nat.zero_le _⟩ dX8_addForetold_19 (fun r4 D5 hw => ?_)
    refine j_if_ne (tgt := 27) C dX8_addForetold_22 (by decide) (fun hc => ?_) (fun hc => ?_)
    · have hw := hw.1 hc
      refine j_aload_n C dX8_addForetold_27 rfl 1 rfl ?_
      refine gf_8_1 C ho_v0 hr_g1 k_252 dX8_addForetold_28 ?_
      refine j_iload_n C dX8_addForetold_31 rfl 4 rfl ?_
      refine j_aload_n C dX8_addForetold_32 rfl 1 rfl ?_
      refine gf_8_5 C ho_v0 hr_g2 k_256 dX8_addForetold_33 ?_
      refine j_cVV (As := [.int v3, .ref g2]) (st := []) C (X2_foretold_ok κ.2.1 G D5 g1 v3 g2 _ hw) ho_g1 rfl k_659 mv_X2_foretold ⟨by decide, by decide⟩ ⟨rfl, rfl⟩ rfl rfl (Nat.le_of_ble_eq_true rfl) ⟨Nat.zero_le _, Nat.zero_le _⟩ dX8_addForetold_36 (fun D7 hw => ?_)
      refine j_aload_n C dX8_addForetold_39 rfl 1 rfl ?_
      refine gf_8_3 C ho_v0 hr_g3 k_254 dX8_addForetold_40 ?_
      refine j_aload_n C dX8_addForetold_43 rfl 1 rfl ?_
      refine gf_8_5 C ho_v0 hr_g2 k_256 dX8_addForetold_44 ?_
      refine j_aload_n C dX8_addForetold_47 rfl 1 rfl ?_
      refine gf_8_1 C ho_v0 hr_g1 k_252 dX8_addForetold_48 ?_
      refine gf_2_8 C ho_g1 hr_g4 k_155 dX8_addForetold_51 ?_
      refine j_iload_n C dX8_addForetold_54 rfl 3 rfl ?_
      refine j_cVV (As := [.ref g2, .ref g4, .int v2]) (st := []) C (X1_add_ok κ.2.1 G D7 g3 g2 g4 v2 _ hw) ho_g3 rfl k_555 mv_X1_add ⟨by decide, by decide⟩ ⟨rfl, rfl⟩ rfl rfl (Nat.le_of_ble_eq_true rfl) ⟨Nat.zero_le _, Nat.zero_le _⟩ dX8_addForetold_55 (fun D9 hw => ?_)
      refine j_iconst (v := 1) C dX8_addForetold_58 (by decide) ?_
      obtain ⟨hb10, hw⟩ := hw
      exact K _ _ _ _ dX8_addForetold_59 (isB_n hb10) hw
    · have hw := hw.2 hc
      exact J.sub (X8_addForetold_j25_ok C K ho_v0 hr_g1 ho_g1 hr_g2 ho_g2 hr_g3 ho_g3 hr_g4 ho_g4 D5 hw) [] rfl
/-! X8_tell -/
def X8_tell_wp (G : Shp) (D : Dat) (v0 : Nat) (v1 : Int32) (post : Int32 → Dat → Prop) : Prop := isO G v0 8 ∧ ∃ g1, G.2.2.2 v0 3 = some g1 ∧ isO G g1 1 ∧ ∃ g2, G.2.2.2 v0 5 = some g2 ∧ isO G g2 0 ∧ ∃ g3, G.2.2.2 v0 1 = some g3 ∧ isO G g3 2 ∧ ∃ g4, G.2.2.2 g3 8 = some g4 ∧ isO G g4 0 ∧ X1_start_wp G D g1 (fun D2 => X1_add_wp G D2 g1 g2 g4 1 (fun D4 => X1_divideBy_wp G D4 g1 v1 (fun D6 => X8_tellAnswer_wp G D6 v0 (fun r7 D8 => post r7 D8))))
set_option maxRecDepth 100000 in
set_option maxHeartbeats 4000000 in
theorem X8_tell_ok (l : Launch) (G : Shp) (D : Dat) (v0 : Nat) (v1 : Int32) (post : Int32 → Dat → Prop) (hw : X8_tell_wp G D v0 v1 post) : CtI l yX8_tell cX8_tell 2 .int (rmN 6) [.ref v0, .int v1] G D post := by
  obtain ⟨ho_v0, g1, hr_g1, ho_g1, g2, hr_g2, ho_g2, g3, hr_g3, ho_g3, g4, hr_g4, ho_g4, hw⟩ := hw
  refine ctI_of (by decide) rfl (Nat.le_of_ble_eq_true rfl) ?_
  intro κ hκ C K
  subst hκ
  have C : Cx κ cX8_tell RX8 (rmN 6) 2 := C
  refine j_aload_n C dX8_tell_0 rfl 0 rfl ?_
  refine gf_8_3 C ho_v0 hr_g1 k_254 dX8_tell_1 ?_
  refine j_cVV (As := []) (st := []) C (X1_start_ok κ.2.1 G D g1 _ hw) ho_g1 rfl k_550 mv_X1_start ⟨by decide, by decide⟩ ⟨rfl, rfl⟩ rfl rfl (Nat.le_of_ble_eq_true rfl) ⟨Nat.zero_le _, Nat.zero_le _⟩ dX8_tell_4 (fun D2 hw => ?_)
  refine j_aload_n C dX8_tell_7 rfl 0 rfl ?_
  refine gf_8_3 C ho_v0 hr_g1 k_254 dX8_tell_8 ?_
  refine j_aload_n C dX8_tell_11 rfl 0 rfl ?_
  refine gf_8_5 C ho_v0 hr_g2 k_256 dX8_tell_12 ?_
  refine j_aload_n C dX8_tell_15 rfl 0 rfl ?_
  refine gf_8_1 C ho_v0 hr_g3 k_252 dX8_tell_16 ?_
  refine gf_2_8 C ho_g3 hr_g4 k_155 dX8_tell_19 ?_
  refine j_iconst (v := 1) C dX8_tell_22 (by decide) ?_
  refine j_cVV (As := [.ref g2, .ref g4, .int 1]) (st := []) C (X1_add_ok κ.2.1 G D2 g1 g2 g4 1 _ hw) ho_g1 rfl k_555 mv_X1_add ⟨by decide, by decide⟩ ⟨rfl, rfl⟩ rfl rfl (Nat.le_of_ble_eq_true rfl) ⟨Nat.zero_le _, Nat.zero_le _⟩ dX8_tell_23 (fun D4 hw => ?_)
  refine j_aload_n C dX8_tell_26 rfl 0 rfl ?_
  refine gf_8_3 C ho_v0 hr_g1 k_254 dX8_tell_27 ?_
  refine j_iload_n C dX8_tell_30 rfl 1 rfl ?_
  refine j_cVV (As := [.int v1]) (st := []) C (X1_divideBy_ok κ.2.1 G D4 g1 v1 _ hw) ho_g1 rfl k_568 mv_X1_divideBy ⟨by decide, by decide⟩ ⟨rfl, rfl⟩ rfl rfl (Nat.le_of_ble_eq_true rfl) ⟨Nat.zero_le _, Nat.zero_le _⟩ dX8_tell_31 (fun D6 hw => ?_)
  refine j_aload_n C dX8_tell_34 rfl 0 rfl ?_
  refine j_cVI (As := []) (st := []) C (X8_tellAnswer_ok κ.2.1 G D6 v0 _ hw) ho_v0 rfl k_572 mv_X8_tellAnswer ⟨by decide, by decide⟩ ⟨rfl, rfl⟩ rfl rfl (Nat.le_of_ble_eq_true rfl) ⟨Nat.zero_le _, Nat.zero_le _⟩ dX8_tell_35 (fun r7 D8 hw => ?_)
  exact K _ _ _ _ dX8_tell_38 rfl hw
/-! X8_where -/
def X8_where_j56 (G : Shp) (post : Int32 → Dat → Prop) (v0 : Nat) (v1 : Int32) (s0 : Int32) (D : Dat) : Prop := post s0 D
set_option maxRecDepth 100000 in
set_option maxHeartbeats 4000000 in
theorem X8_where_j56_ok {κ : Ctx} {G : Shp} {post : Int32 → Dat → Prop} {v0 : Nat} {v1 : Int32} (C : Cx κ cX8_where RX8 (rmN 6) 4) (K : RtI κ cX8_where .int G post) (ho_v0 : isO G v0 8) (s0 : Int32) (D : Dat) (hw : X8_where_j56 G post v0 v1 s0 D) : J κ 0 0 G D 56 [] [.int s0] := by
  unfold X8_where_j56 at hw
  exact K _ _ _ _ dX8_where_56 rfl hw
def X8_where_j36 (G : Shp) (post : Int32 → Dat → Prop) (v0 : Nat) (v1 : Int32) (s0 : Int32) (D : Dat) : Prop := ((¬ s0 = (-1) → X8_give_wp G D v0 s0 (fun r1 D2 => X8_where_j56 G post v0 v1 r1 D2)) ∧ (s0 = (-1) → X8_giveNone_wp G D v0 8 (fun r3 D4 => X8_where_j56 G post v0 v1 r3 D4)))
set_option maxRecDepth 100000 in
set_option maxHeartbeats 4000000 in
theorem X8_where_j36_ok {κ : Ctx} {G : Shp} {post : Int32 → Dat → Prop} {v0 : Nat} {v1 : Int32} (C : Cx κ cX8_where RX8 (rmN 6) 4) (K : RtI κ cX8_where .int G post) (ho_v0 : isO G v0 8) (s0 : Int32) (D : Dat) (hw : X8_where_j36 G post v0 v1 s0 D) : J κ 0 0 G D 36 [(0, .ref v0)] [.int s0] := by
  unfold X8_where_j36 at hw
  refine j_istore_n C dX8_where_36 rfl (by decide) rfl ?_
  refine j_iload_n C dX8_where_37 rfl 0 rfl ?_
  refine j_iconst (v := (-1)) C dX8_where_38 (by decide) ?_
  refine j_icmp_ne (tgt := 51) C dX8_where_39 (by decide) (fun hc => ?_) (fun hc => ?_)
  · have hw := hw.1 hc
    refine j_aload_n C dX8_where_51 rfl 1 rfl ?_
    refine j_iload_n C dX8_where_52 rfl 0 rfl ?_
    refine j_cVI (As := [.int s0]) (st := []) C (X8_give_ok κ.2.1 G D v0 s0 _ hw) ho_v0 rfl k_354 mv_X8_give ⟨by decide, by decide⟩ ⟨rfl, rfl⟩ rfl rfl (Nat.le_of_ble_eq_true rfl) ⟨Nat.zero_le _, Nat.zero_le _⟩ dX8_where_53 (fun r1 D2 hw => ?_)
    exact J.sub (X8_where_j56_ok C K ho_v0 r1 D2 hw) [] rfl
  · have hw := hw.2 hc
    refine j_aload_n C dX8_where_42 rfl 1 rfl ?_
    refine j_bipush (v := 8) C dX8_where_43 (by decide) ?_
    refine j_cVI (As := [.int 8]) (st := []) C (X8_giveNone_ok κ.2.1 G D v0 8 _ hw) ho_v0 rfl k_349 mv_X8_giveNone ⟨by decide, by decide⟩ ⟨rfl, rfl⟩ rfl rfl (Nat.le_of_ble_eq_true rfl) ⟨Nat.zero_le _, Nat.zero_le _⟩ dX8_where_45 (fun r3 D4 hw => ?_)
    refine j_goto (tgt := 56) C dX8_where_48 (by decide) ?_
    exact J.sub (X8_where_j56_ok C K ho_v0 r3 D4 hw) [] rfl
def X8_where_wp (G : Shp) (D : Dat) (v0 : Nat) (v1 : Int32) (post : Int32 → Dat → Prop) : Prop := isO G v0 8 ∧ X8_rowOf_wp G D v0 v1 (fun r1 D2 => (r1 = none → X8_giveNone_wp G D2 v0 1 (fun r4 D5 => post r4 D5)) ∧ (∀ y3, r1 = some y3 → (isO G y3 3 ∧ ∃ y7, G.2.2.2 y3 3 = some y7 ∧ isO G y7 7 ∧ ((3 ≤ (D2.1 y7 1) → X8_where_j36 G post v0 v1 (-1) D2) ∧ (¬ (3 ≤ (D2.1 y7 1)) → X8_cheapestStep_wp G D2 v0 y3 (fun r10 D11 => X8_where_j36 G post v0 v1 r10 D11))))))
set_option maxRecDepth 100000 in
set_option maxHeartbeats 4000000 in
theorem X8_where_ok (l : Launch) (G : Shp) (D : Dat) (v0 : Nat) (v1 : Int32) (post : Int32 → Dat → Prop) (hw : X8_where_wp G D v0 v1 post) : CtI l yX8_where cX8_where 4 .int (rmN 6) [.ref v0, .int v1] G D post := by
  obtain ⟨ho_v0, hw⟩ := hw
  refine ctI_of (by decide) rfl (Nat.le_of_ble_eq_true rfl) ?_
  intro κ hκ C K
  subst hκ
  have C : Cx κ cX8_where RX8 (rmN 6) 4 := C
  refine j_aload_n C dX8_where_0 rfl 0 rfl ?_
  refine j_iload_n C dX8_where_1 rfl 1 rfl ?_
  refine j_cVQ (As := [.int v1]) (st := []) C (X8_rowOf_ok κ.2.1 G D v0 v1 _ hw) ho_v0 rfl k_299 mv_X8_rowOf ⟨by decide, by decide⟩ ⟨rfl, rfl⟩ rfl rfl (Nat.le_of_ble_eq_true rfl) ⟨Nat.zero_le _, Nat.zero_le _⟩ dX8_where_2 (fun r1 D2 hw => ?_)
  refine j_astore_nO C dX8_where_5 rfl (by decide) rfl ?_
  refine j_aload_nO C dX8_where_6 rfl 0 rfl ?_
  refine j_ifnonnull (tgt := 16) C dX8_where_7 (by decide) (fun y3 hc => ?_) (fun hc => ?_)
  · replace hw := hw.2 y3 hc
    subst hc
    show J κ 0 0 G D2 16 [(2, .ref y3), (0, .ref v0), (1, .int v1)] []
    refine j_aload_n C dX8_where_16 rfl 0 rfl ?_
    obtain ⟨ho6, hw⟩ := hw
    obtain ⟨y7, hr8, ho9, hw⟩ := hw
    refine gf_3_3 C ho6 hr8 k_93 dX8_where_17 ?_
    refine gf_7_1 C ho9 k_74 dX8_where_20 ?_
    refine j_iconst (v := 3) C dX8_where_23 (by decide) ?_
    refine j_icmp_ge (tgt := 35) C dX8_where_24 (by decide) (fun hc => ?_) (fun hc => ?_)
    · have hw := hw.1 hc
      refine j_iconst (v := (-1)) C dX8_where_35 (by decide) ?_
      exact J.sub (X8_where_j36_ok C K ho_v0 (-1) D2 hw) [1] rfl
    · have hw := hw.2 hc
      refine j_aload_n C dX8_where_27 rfl 1 rfl ?_
      refine j_aload_n C dX8_where_28 rfl 0 rfl ?_
      refine j_cVI (As := [.ref y3]) (st := []) C (X8_cheapestStep_ok κ.2.1 G D2 v0 y3 _ hw) ho_v0 rfl k_680 mv_X8_cheapestStep ⟨by decide, by decide⟩ ⟨rfl, rfl⟩ rfl rfl (Nat.le_of_ble_eq_true rfl) ⟨Nat.zero_le _, Nat.zero_le _⟩ dX8_where_29 (fun r10 D11 hw => ?_)
      refine j_goto (tgt := 36) C dX8_where_32 (by decide) ?_
      exact J.sub (X8_where_j36_ok C K ho_v0 r10 D11 hw) [1] rfl
  · have hw := hw.1 hc
    refine j_aload_n C dX8_where_10 rfl 1 rfl ?_
    refine j_iconst (v := 1) C dX8_where_11 (by decide) ?_
    refine j_cVI (As := [.int 1]) (st := []) C (X8_giveNone_ok κ.2.1 G D2 v0 1 _ hw) ho_v0 rfl k_349 mv_X8_giveNone ⟨by decide, by decide⟩ ⟨rfl, rfl⟩ rfl rfl (Nat.le_of_ble_eq_true rfl) ⟨Nat.zero_le _, Nat.zero_le _⟩ dX8_where_12 (fun r4 D5 hw => ?_)
    exact K _ _ _ _ dX8_where_15 rfl hw
