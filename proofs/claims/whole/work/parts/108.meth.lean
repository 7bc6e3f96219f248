/-! X9_turned -/
def X9_turned_wp (G : Shp) (D : Dat) (v0 : Nat) (v1 : Int32) (post : Int32 → Dat → Prop) : Prop := isO G v0 9 ∧ ∃ g1, G.2.2.2 v0 1 = some g1 ∧ isO G g1 11 ∧ X9_copy_wp G D v0 v1 (fun r1 D2 => (vp_in r1 (G.2.2.1 g1) ∧ vp_in r1 (G.2.2.1 g1) ∧ post r1 (dI D2 g1 r1.toNatClampNeg (-(D2.1 g1 r1.toNatClampNeg)))))
set_option maxRecDepth 100000 in
set_option maxHeartbeats 4000000 in
theorem X9_turned_ok (l : Launch) (G : Shp) (D : Dat) (v0 : Nat) (v1 : Int32) (post : Int32 → Dat → Prop) (hw : X9_turned_wp G D v0 v1 post) : CtI l yX9_turned cX9_turned 3 .int (rmN 2) [.ref v0, .int v1] G D post := by
  obtain ⟨ho_v0, g1, hr_g1, ho_g1, hw⟩ := hw
  refine ctI_of (by decide) rfl (Nat.le_of_ble_eq_true rfl) ?_
  intro κ hκ C K
  subst hκ
  have C : Cx κ cX9_turned RX9 (rmN 2) 3 := C
  refine j_aload_n C dX9_turned_0 rfl 0 rfl ?_
  refine j_iload_n C dX9_turned_1 rfl 1 rfl ?_
  refine j_cVI (As := [.int v1]) (st := []) C (X9_copy_ok κ.2.1 G D v0 v1 _ hw) ho_v0 rfl k_1010 mv_X9_copy ⟨by decide, by decide⟩ ⟨rfl, rfl⟩ rfl rfl (Nat.le_of_ble_eq_true rfl) ⟨Nat.zero_le _, Nat.zero_le _⟩ dX9_turned_2 (fun r1 D2 hw => ?_)
  refine j_istore_n C dX9_turned_5 rfl (by decide) rfl ?_
  refine j_aload_n C dX9_turned_6 rfl 1 rfl ?_
  refine gf_9_1 C ho_v0 hr_g1 k_765 dX9_turned_7 ?_
  refine j_iload_n C dX9_turned_10 rfl 0 rfl ?_
  refine j_aload_n C dX9_turned_11 rfl 1 rfl ?_
  refine gf_9_1 C ho_v0 hr_g1 k_765 dX9_turned_12 ?_
  refine j_iload_n C dX9_turned_15 rfl 0 rfl ?_
  obtain ⟨hi3, hw⟩ := hw
  refine j_iald C ho_g1 hi3 dX9_turned_16 ?_
  refine j_ineg C dX9_turned_17 ?_
  obtain ⟨hi4, hw⟩ := hw
  refine j_iast C ho_g1 hi4 dX9_turned_18 ?_
  refine j_iload_n C dX9_turned_19 rfl 0 rfl ?_
  exact K _ _ _ _ dX9_turned_20 rfl hw
/-! X1_add -/
def X1_add_wp (G : Shp) (D : Dat) (v0 : Nat) (v1 : Nat) (v2 : Nat) (v3 : Int32) (post : Dat → Prop) : Prop := isO G v0 1 ∧ isO G v1 0 ∧ isO G v2 0 ∧ ∃ g1, G.2.2.2 v0 0 = some g1 ∧ isO G g1 6 ∧ ∃ g2, G.2.2.2 v0 3 = some g2 ∧ isO G g2 0 ∧ ∃ g3, G.2.2.2 v0 1 = some g3 ∧ isO G g3 0 ∧ ∃ g4, G.2.2.2 v0 2 = some g4 ∧ isO G g4 0 ∧ X6_clear_wp G D g1 (fun D2 => X6_addTimes_wp G D2 g1 v1 v3.toInt64 (fun D4 => X6_settle_wp G D4 g1 g2 (fun D6 => X6_clear_wp G D6 g1 (fun D8 => X6_addProduct_wp G D8 g1 g3 v2 0 (fun D10 => X6_addProduct_wp G D10 g1 g2 g4 0 (fun D12 => X6_settle_wp G D12 g1 g3 (fun D14 => X6_clear_wp G D14 g1 (fun D16 => X6_addProduct_wp G D16 g1 g4 v2 0 (fun D18 => X6_settle_wp G D18 g1 g4 (fun D20 => X0_toLong_wp G D20 v2 (fun r21 D22 => X1_keepDivisor_wp G D22 v0 r21 (fun D24 => post D24))))))))))))
set_option maxRecDepth 100000 in
set_option maxHeartbeats 4000000 in
theorem X1_add_ok (l : Launch) (G : Shp) (D : Dat) (v0 : Nat) (v1 : Nat) (v2 : Nat) (v3 : Int32) (post : Dat → Prop) (hw : X1_add_wp G D v0 v1 v2 v3 post) : CtV l yX1_add cX1_add 4 (rmN 3) [.ref v0, .ref v1, .ref v2, .int v3] G D post := by
  obtain ⟨ho_v0, ho_v1, ho_v2, g1, hr_g1, ho_g1, g2, hr_g2, ho_g2, g3, hr_g3, ho_g3, g4, hr_g4, ho_g4, hw⟩ := hw
  refine ctV_of (by decide) rfl (Nat.le_of_ble_eq_true rfl) ?_
  intro κ hκ C K
  subst hκ
  have C : Cx κ cX1_add RX1 (rmN 3) 4 := C
  refine j_aload_n C dX1_add_0 rfl 0 rfl ?_
  refine gf_1_0 C ho_v0 hr_g1 k_230 dX1_add_1 ?_
  refine j_cVV (As := []) (st := []) C (X6_clear_ok κ.2.1 G D g1 _ hw) ho_g1 rfl k_559 mv_X6_clear ⟨by decide, by decide⟩ ⟨rfl, rfl⟩ rfl rfl (Nat.le_of_ble_eq_true rfl) ⟨Nat.zero_le _, Nat.zero_le _⟩ dX1_add_4 (fun D2 hw => ?_)
  refine j_aload_n C dX1_add_7 rfl 0 rfl ?_
  refine gf_1_0 C ho_v0 hr_g1 k_230 dX1_add_8 ?_
  refine j_aload_n C dX1_add_11 rfl 1 rfl ?_
  refine j_iload_n C dX1_add_12 rfl 3 rfl ?_
  refine j_i2l C dX1_add_13 ?_
  refine j_cVV (As := [.ref v1, .long v3.toInt64]) (st := []) C (X6_addTimes_ok κ.2.1 G D2 g1 v1 v3.toInt64 _ hw) ho_g1 rfl k_560 mv_X6_addTimes ⟨by decide, by decide⟩ ⟨rfl, rfl⟩ rfl rfl (Nat.le_of_ble_eq_true rfl) ⟨Nat.zero_le _, Nat.zero_le _⟩ dX1_add_14 (fun D4 hw => ?_)
  refine j_aload_n C dX1_add_17 rfl 0 rfl ?_
  refine gf_1_0 C ho_v0 hr_g1 k_230 dX1_add_18 ?_
  refine j_aload_n C dX1_add_21 rfl 0 rfl ?_
  refine gf_1_3 C ho_v0 hr_g2 k_235 dX1_add_22 ?_
  refine j_cVV (As := [.ref g2]) (st := []) C (X6_settle_ok κ.2.1 G D4 g1 g2 _ hw) ho_g1 rfl k_561 mv_X6_settle ⟨by decide, by decide⟩ ⟨rfl, rfl⟩ rfl rfl (Nat.le_of_ble_eq_true rfl) ⟨Nat.zero_le _, Nat.zero_le _⟩ dX1_add_25 (fun D6 hw => ?_)
  refine j_aload_n C dX1_add_28 rfl 0 rfl ?_
  refine gf_1_0 C ho_v0 hr_g1 k_230 dX1_add_29 ?_
  refine j_cVV (As := []) (st := []) C (X6_clear_ok κ.2.1 G D6 g1 _ hw) ho_g1 rfl k_559 mv_X6_clear ⟨by decide, by decide⟩ ⟨rfl, rfl⟩ rfl rfl (Nat.le_of_ble_eq_true rfl) ⟨Nat.zero_le _, Nat.zero_le _⟩ dX1_add_32 (fun D8 hw => ?_)
  refine j_aload_n C dX1_add_35 rfl 0 rfl ?_
  refine gf_1_0 C ho_v0 hr_g1 k_230 dX1_add_36 ?_
  refine j_aload_n C dX1_add_39 rfl 0 rfl ?_
  refine gf_1_1 C ho_v0 hr_g3 k_231 dX1_add_40 ?_
  refine j_aload_n C dX1_add_43 rfl 2 rfl ?_
  refine j_iconst (v := 0) C dX1_add_44 (by decide) ?_
  refine j_cVV (As := [.ref g3, .ref v2, .int 0]) (st := []) C (X6_addProduct_ok κ.2.1 G D8 g1 g3 v2 0 _ hw) ho_g1 rfl k_562 mv_X6_addProduct ⟨by decide, by decide⟩ ⟨rfl, rfl⟩ rfl rfl (Nat.le_of_ble_eq_true rfl) ⟨Nat.zero_le _, Nat.zero_le _⟩ dX1_add_45 (fun D10 hw => ?_)
  refine j_aload_n C dX1_add_48 rfl 0 rfl ?_
  refine gf_1_0 C ho_v0 hr_g1 k_230 dX1_add_49 ?_
  refine j_aload_n C dX1_add_52 rfl 0 rfl ?_
  refine gf_1_3 C ho_v0 hr_g2 k_235 dX1_add_53 ?_
  refine j_aload_n C dX1_add_56 rfl 0 rfl ?_
  refine gf_1_2 C ho_v0 hr_g4 k_233 dX1_add_57 ?_
  refine j_iconst (v := 0) C dX1_add_60 (by decide) ?_
  refine j_cVV (As := [.ref g2, .ref g4, .int 0]) (st := []) C (X6_addProduct_ok κ.2.1 G D10 g1 g2 g4 0 _ hw) ho_g1 rfl k_562 mv_X6_addProduct ⟨by decide, by decide⟩ ⟨rfl, rfl⟩ rfl rfl (Nat.le_of_ble_eq_true rfl) ⟨Nat.zero_le _, Nat.zero_le _⟩ dX1_add_61 (fun D12 hw => ?_)
  refine j_aload_n C dX1_add_64 rfl 0 rfl ?_
  refine gf_1_0 C ho_v0 hr_g1 k_230 dX1_add_65 ?_
  refine j_aload_n C dX1_add_68 rfl 0 rfl ?_
  refine gf_1_1 C ho_v0 hr_g3 k_231 dX1_add_69 ?_
  refine j_cVV (As := [.ref g3]) (st := []) C (X6_settle_ok κ.2.1 G D12 g1 g3 _ hw) ho_g1 rfl k_561 mv_X6_settle ⟨by decide, by decide⟩ ⟨rfl, rfl⟩ rfl rfl (Nat.le_of_ble_eq_true rfl) ⟨Nat.zero_le _, Nat.zero_le _⟩ dX1_add_72 (fun D14 hw => ?_)
  refine j_aload_n C dX1_add_75 rfl 0 rfl ?_
  refine gf_1_0 C ho_v0 hr_g1 k_230 dX1_add_76 ?_
  refine j_cVV (As := []) (st := []) C (X6_clear_ok κ.2.1 G D14 g1 _ hw) ho_g1 rfl k_559 mv_X6_clear ⟨by decide, by decide⟩ ⟨rfl, rfl⟩ rfl rfl (Nat.le_of_ble_eq_true rfl) ⟨Nat.zero_le _, Nat.zero_le _⟩ dX1_add_79 (fun D16 hw => ?_)
  refine j_aload_n C dX1_add_82 rfl 0 rfl ?_
  refine gf_1_0 C ho_v0 hr_g1 k_230 dX1_add_83 ?_
  refine j_aload_n C dX1_add_86 rfl 0 rfl ?_
  refine gf_1_2 C ho_v0 hr_g4 k_233 dX1_add_87 ?_
  refine j_aload_n C dX1_add_90 rfl 2 rfl ?_
  refine j_iconst (v := 0) C dX1_add_91 (by decide) ?_
  refine j_cVV (As := [.ref g4, .ref v2, .int 0]) (st := []) C (X6_addProduct_ok κ.2.1 G D16 g1 g4 v2 0 _ hw) ho_g1 rfl k_562 mv_X6_addProduct ⟨by decide, by decide⟩ ⟨rfl, rfl⟩ rfl rfl (Nat.le_of_ble_eq_true rfl) ⟨Nat.zero_le _, Nat.zero_le _⟩ dX1_add_92 (fun D18 hw => ?_)
  refine j_aload_n C dX1_add_95 rfl 0 rfl ?_
  refine gf_1_0 C ho_v0 hr_g1 k_230 dX1_add_96 ?_
  refine j_aload_n C dX1_add_99 rfl 0 rfl ?_
  refine gf_1_2 C ho_v0 hr_g4 k_233 dX1_add_100 ?_
  refine j_cVV (As := [.ref g4]) (st := []) C (X6_settle_ok κ.2.1 G D18 g1 g4 _ hw) ho_g1 rfl k_561 mv_X6_settle ⟨by decide, by decide⟩ ⟨rfl, rfl⟩ rfl rfl (Nat.le_of_ble_eq_true rfl) ⟨Nat.zero_le _, Nat.zero_le _⟩ dX1_add_103 (fun D20 hw => ?_)
  refine j_aload_n C dX1_add_106 rfl 0 rfl ?_
  refine j_aload_n C dX1_add_107 rfl 2 rfl ?_
  refine j_cVL (As := []) (st := [.ref v0]) C (X0_toLong_ok κ.2.1 G D20 v2 _ hw) ho_v2 rfl k_563 mv_X0_toLong ⟨by decide, by decide⟩ ⟨rfl, rfl⟩ rfl rfl (Nat.le_of_ble_eq_true rfl) ⟨Nat.zero_le _, Nat.zero_le _⟩ dX1_add_108 (fun r21 D22 hw => ?_)
  refine j_cVV (As := [.long r21]) (st := []) C (X1_keepDivisor_ok κ.2.1 G D22 v0 r21 _ hw) ho_v0 rfl k_564 mv_X1_keepDivisor ⟨by decide, by decide⟩ ⟨rfl, rfl⟩ rfl rfl (Nat.le_of_ble_eq_true rfl) ⟨Nat.zero_le _, Nat.zero_le _⟩ dX1_add_111 (fun D24 hw => ?_)
  exact K _ _ _ dX1_add_114 hw
/-! X1_divideBy -/
def X1_divideBy_wp (G : Shp) (D : Dat) (v0 : Nat) (v1 : Int32) (post : Dat → Prop) : Prop := isO G v0 1 ∧ ∃ g1, G.2.2.2 v0 0 = some g1 ∧ isO G g1 6 ∧ ∃ g2, G.2.2.2 v0 2 = some g2 ∧ isO G g2 0 ∧ X6_clear_wp G D g1 (fun D2 => X6_addTimes_wp G D2 g1 g2 v1.toInt64 (fun D4 => X6_settle_wp G D4 g1 g2 (fun D6 => X1_keepDivisor_wp G D6 v0 v1.toInt64 (fun D8 => post D8))))
set_option maxRecDepth 100000 in
set_option maxHeartbeats 4000000 in
theorem X1_divideBy_ok (l : Launch) (G : Shp) (D : Dat) (v0 : Nat) (v1 : Int32) (post : Dat → Prop) (hw : X1_divideBy_wp G D v0 v1 post) : CtV l yX1_divideBy cX1_divideBy 2 (rmN 3) [.ref v0, .int v1] G D post := by
  obtain ⟨ho_v0, g1, hr_g1, ho_g1, g2, hr_g2, ho_g2, hw⟩ := hw
  refine ctV_of (by decide) rfl (Nat.le_of_ble_eq_true rfl) ?_
  intro κ hκ C K
  subst hκ
  have C : Cx κ cX1_divideBy RX1 (rmN 3) 2 := C
  refine j_aload_n C dX1_divideBy_0 rfl 0 rfl ?_
  refine gf_1_0 C ho_v0 hr_g1 k_230 dX1_divideBy_1 ?_
  refine j_cVV (As := []) (st := []) C (X6_clear_ok κ.2.1 G D g1 _ hw) ho_g1 rfl k_559 mv_X6_clear ⟨by decide, by decide⟩ ⟨rfl, rfl⟩ rfl rfl (Nat.le_of_ble_eq_true rfl) ⟨Nat.zero_le _, Nat.zero_le _⟩ dX1_divideBy_4 (fun D2 hw => ?_)
  refine j_aload_n C dX1_divideBy_7 rfl 0 rfl ?_
  refine gf_1_0 C ho_v0 hr_g1 k_230 dX1_divideBy_8 ?_
  refine j_aload_n C dX1_divideBy_11 rfl 0 rfl ?_
  refine gf_1_2 C ho_v0 hr_g2 k_233 dX1_divideBy_12 ?_
  refine j_iload_n C dX1_divideBy_15 rfl 1 rfl ?_
  refine j_i2l C dX1_divideBy_16 ?_
  refine j_cVV (As := [.ref g2, .long v1.toInt64]) (st := []) C (X6_addTimes_ok κ.2.1 G D2 g1 g2 v1.toInt64 _ hw) ho_g1 rfl k_560 mv_X6_addTimes ⟨by decide, by decide⟩ ⟨rfl, rfl⟩ rfl rfl (Nat.le_of_ble_eq_true rfl) ⟨Nat.zero_le _, Nat.zero_le _⟩ dX1_divideBy_17 (fun D4 hw => ?_)
  refine j_aload_n C dX1_divideBy_20 rfl 0 rfl ?_
  refine gf_1_0 C ho_v0 hr_g1 k_230 dX1_divideBy_21 ?_
  refine j_aload_n C dX1_divideBy_24 rfl 0 rfl ?_
  refine gf_1_2 C ho_v0 hr_g2 k_233 dX1_divideBy_25 ?_
  refine j_cVV (As := [.ref g2]) (st := []) C (X6_settle_ok κ.2.1 G D4 g1 g2 _ hw) ho_g1 rfl k_561 mv_X6_settle ⟨by decide, by decide⟩ ⟨rfl, rfl⟩ rfl rfl (Nat.le_of_ble_eq_true rfl) ⟨Nat.zero_le _, Nat.zero_le _⟩ dX1_divideBy_28 (fun D6 hw => ?_)
  refine j_aload_n C dX1_divideBy_31 rfl 0 rfl ?_
  refine j_iload_n C dX1_divideBy_32 rfl 1 rfl ?_
  refine j_i2l C dX1_divideBy_33 ?_
  refine j_cVV (As := [.long v1.toInt64]) (st := []) C (X1_keepDivisor_ok κ.2.1 G D6 v0 v1.toInt64 _ hw) ho_v0 rfl k_564 mv_X1_keepDivisor ⟨by decide, by decide⟩ ⟨rfl, rfl⟩ rfl rfl (Nat.le_of_ble_eq_true rfl) ⟨Nat.zero_le _, Nat.zero_le _⟩ dX1_divideBy_34 (fun D8 hw => ?_)
  exact K _ _ _ dX1_divideBy_37 hw
/-! X1_reduce -/
def X1_reduce_j73 (G : Shp) (post : Dat → Prop) (v0 : Nat) (g1 : Nat) (g2 : Nat) (g3 : Nat) (g4 : Nat) (D : Dat) : Prop := post D
set_option maxRecDepth 100000 in
set_option maxHeartbeats 4000000 in
theorem X1_reduce_j73_ok {κ : Ctx} {G : Shp} {post : Dat → Prop} {v0 : Nat} {g1 : Nat} {g2 : Nat} {g3 : Nat} {g4 : Nat} (C : Cx κ cX1_reduce RX1 (rmN 3) 4) (K : RtV κ cX1_reduce G post) (ho_v0 : isO G v0 1) (hr_g1 : G.2.2.2 v0 3 = some g1) (ho_g1 : isO G g1 0) (hr_g2 : G.2.2.2 v0 1 = some g2) (ho_g2 : isO G g2 0) (hr_g3 : G.2.2.2 v0 4 = some g3) (ho_g3 : isO G g3 12) (hr_g4 : G.2.2.2 v0 2 = some g4) (ho_g4 : isO G g4 0) (D : Dat) (hw : X1_reduce_j73 G post v0 g1 g2 g3 g4 D) : J κ 0 0 G D 73 [] [] := by
  unfold X1_reduce_j73 at hw
  exact K _ _ _ dX1_reduce_73 hw
def X1_reduce_l2_b (G : Shp) (post : Dat → Prop) (v0 : Nat) (g1 : Nat) (g2 : Nat) (g3 : Nat) (g4 : Nat) (rec : Int32 → Dat → Prop) (v1 : Int32) (D : Dat) : Prop := (((D.1 v0 5) ≤ v1 → X1_reduce_j73 G post v0 g1 g2 g3 g4 D) ∧ (¬ ((D.1 v0 5) ≤ v1) → ((5 ≤ v1 → X1_reduce_j73 G post v0 g1 g2 g3 g4 D) ∧ (¬ (5 ≤ v1) → X0_copy_wp G D g1 g2 (fun D2 => (vp_in v1 (G.2.2.1 g3) ∧ vp_in v1 (G.2.2.1 g3) ∧ X0_divide_wp G D2 g1 (D2.2 g3 v1.toNatClampNeg) (fun r5 D6 => X1_commonDivisor_wp G D6 (D2.2 g3 v1.toNatClampNeg) r5 (fun r7 D8 => X0_divide_wp G D8 g2 r7 (fun r9 D10 => X0_divide_wp G D10 g4 r7 (fun r11 D12 => rec (v1 + 1) D12))))))))))
def X1_reduce_l2 (G : Shp) (post : Dat → Prop) (v0 : Nat) (g1 : Nat) (g2 : Nat) (g3 : Nat) (g4 : Nat) : Nat → Int32 → Dat → Prop
  | 0 => fun _ _ => False
  | n + 1 => X1_reduce_l2_b G post v0 g1 g2 g3 g4 (X1_reduce_l2 G post v0 g1 g2 g3 g4 n)
set_option maxRecDepth 100000 in
set_option maxHeartbeats 4000000 in
theorem X1_reduce_l2_ok {κ : Ctx} {G : Shp} {post : Dat → Prop} {v0 : Nat} {g1 : Nat} {g2 : Nat} {g3 : Nat} {g4 : Nat} (C : Cx κ cX1_reduce RX1 (rmN 3) 4) (K : RtV κ cX1_reduce G post) (ho_v0 : isO G v0 1) (hr_g1 : G.2.2.2 v0 3 = some g1) (ho_g1 : isO G g1 0) (hr_g2 : G.2.2.2 v0 1 = some g2) (ho_g2 : isO G g2 0) (hr_g3 : G.2.2.2 v0 4 = some g3) (ho_g3 : isO G g3 12) (hr_g4 : G.2.2.2 v0 2 = some g4) (ho_g4 : isO G g4 0) : ∀ (n : Nat) (v1 : Int32) (D : Dat), X1_reduce_l2 G post v0 g1 g2 g3 g4 n v1 D → J κ 0 0 G D 2 [(0, .ref v0), (1, .int v1)] [] := by
  intro n
  induction n with
  | zero => intro v1 D hw; exact hw.elim
  | succ n ih =>
    intro v1 D hw
    have hw : X1_reduce_l2_b G post v0 g1 g2 g3 g4 (X1_reduce_l2 G post v0 g1 g2 g3 g4 n) v1 D := hw
    unfold X1_reduce_l2_b at hw
    refine j_iload_n C dX1_reduce_2 rfl 1 rfl ?_
    refine j_aload_n C dX1_reduce_3 rfl 0 rfl ?_
    refine gf_1_5 C ho_v0 k_237 dX1_reduce_4 ?_
    refine j_icmp_ge (tgt := 73) C dX1_reduce_7 (by decide) (fun hc => ?_) (fun hc => ?_)
    · have hw := hw.1 hc
      exact J.sub (X1_reduce_j73_ok C K ho_v0 hr_g1 ho_g1 hr_g2 ho_g2 hr_g3 ho_g3 hr_g4 ho_g4 D hw) [] rfl
    · have hw := hw.2 hc
      refine j_iload_n C dX1_reduce_10 rfl 1 rfl ?_
      refine j_iconst (v := 5) C dX1_reduce_11 (by decide) ?_
      refine j_icmp_ge (tgt := 73) C dX1_reduce_12 (by decide) (fun hc => ?_) (fun hc => ?_)
      · have hw := hw.1 hc
        exact J.sub (X1_reduce_j73_ok C K ho_v0 hr_g1 ho_g1 hr_g2 ho_g2 hr_g3 ho_g3 hr_g4 ho_g4 D hw) [] rfl
      · have hw := hw.2 hc
        refine j_aload_n C dX1_reduce_15 rfl 0 rfl ?_
        refine gf_1_3 C ho_v0 hr_g1 k_235 dX1_reduce_16 ?_
        refine j_aload_n C dX1_reduce_19 rfl 0 rfl ?_
        refine gf_1_1 C ho_v0 hr_g2 k_231 dX1_reduce_20 ?_
        refine j_cVV (As := [.ref g2]) (st := []) C (X0_copy_ok κ.2.1 G D g1 g2 _ hw) ho_g1 rfl k_580 mv_X0_copy ⟨by decide, by decide⟩ ⟨rfl, rfl⟩ rfl rfl (Nat.le_of_ble_eq_true rfl) ⟨Nat.zero_le _, Nat.zero_le _⟩ dX1_reduce_23 (fun D2 hw => ?_)
        refine j_aload_n C dX1_reduce_26 rfl 0 rfl ?_
        refine gf_1_4 C ho_v0 hr_g3 k_236 dX1_reduce_27 ?_
        refine j_iload_n C dX1_reduce_30 rfl 1 rfl ?_
        obtain ⟨hi3, hw⟩ := hw
        refine j_lald C ho_g3 hi3 dX1_reduce_31 ?_
        refine j_aload_n C dX1_reduce_32 rfl 0 rfl ?_
        refine gf_1_3 C ho_v0 hr_g1 k_235 dX1_reduce_33 ?_
        refine j_aload_n C dX1_reduce_36 rfl 0 rfl ?_
        refine gf_1_4 C ho_v0 hr_g3 k_236 dX1_reduce_37 ?_
        refine j_iload_n C dX1_reduce_40 rfl 1 rfl ?_
        obtain ⟨hi4, hw⟩ := hw
        refine j_lald C ho_g3 hi4 dX1_reduce_41 ?_
        refine j_cVL (As := [.long (D2.2 g3 v1.toNatClampNeg)]) (st := [.long (D2.2 g3 v1.toNatClampNeg)]) C (X0_divide_ok κ.2.1 G D2 g1 (D2.2 g3 v1.toNatClampNeg) _ hw) ho_g1 rfl k_584 mv_X0_divide ⟨by decide, by decide⟩ ⟨rfl, rfl⟩ rfl rfl (Nat.le_of_ble_eq_true rfl) ⟨Nat.zero_le _, Nat.zero_le _⟩ dX1_reduce_42 (fun r5 D6 hw => ?_)
        refine j_cSL (As := [.long (D2.2 g3 v1.toNatClampNeg), .long r5]) (st := []) C (X1_commonDivisor_ok κ.2.1 G D6 (D2.2 g3 v1.toNatClampNeg) r5 _ hw) k_585 ms_X1_commonDivisor ⟨by decide, by decide⟩ ⟨rfl, rfl⟩ rfl rfl (Nat.le_of_ble_eq_true rfl) ⟨Nat.zero_le _, Nat.zero_le _⟩ dX1_reduce_45 (fun r7 D8 hw => ?_)
        refine j_lstore_n C dX1_reduce_48 rfl (by decide) rfl ?_
        refine j_aload_n C dX1_reduce_49 rfl 1 rfl ?_
        refine gf_1_1 C ho_v0 hr_g2 k_231 dX1_reduce_50 ?_
        refine j_lload_n C dX1_reduce_53 rfl 0 rfl ?_
        refine j_cVL (As := [.long r7]) (st := []) C (X0_divide_ok κ.2.1 G D8 g2 r7 _ hw) ho_g2 rfl k_584 mv_X0_divide ⟨by decide, by decide⟩ ⟨rfl, rfl⟩ rfl rfl (Nat.le_of_ble_eq_true rfl) ⟨Nat.zero_le _, Nat.zero_le _⟩ dX1_reduce_54 (fun r9 D10 hw => ?_)
        refine j_pop2L C dX1_reduce_57 rfl ?_
        refine j_aload_n C dX1_reduce_58 rfl 1 rfl ?_
        refine gf_1_2 C ho_v0 hr_g4 k_233 dX1_reduce_59 ?_
        refine j_lload_n C dX1_reduce_62 rfl 0 rfl ?_
        refine j_cVL (As := [.long r7]) (st := []) C (X0_divide_ok κ.2.1 G D10 g4 r7 _ hw) ho_g4 rfl k_584 mv_X0_divide ⟨by decide, by decide⟩ ⟨rfl, rfl⟩ rfl rfl (Nat.le_of_ble_eq_true rfl) ⟨Nat.zero_le _, Nat.zero_le _⟩ dX1_reduce_63 (fun r11 D12 hw => ?_)
        refine j_pop2L C dX1_reduce_66 rfl ?_
        refine j_iinc (v := v1 + 1) C dX1_reduce_67 2 rfl rfl (by decide) rfl ?_
        refine j_goto (tgt := 2) C dX1_reduce_70 (by decide) ?_
        exact J.sub (ih (v1 + 1) D12 hw) [2, 0] rfl
def X1_reduce_wp (G : Shp) (D : Dat) (v0 : Nat) (post : Dat → Prop) : Prop := isO G v0 1 ∧ ∃ g1, G.2.2.2 v0 3 = some g1 ∧ isO G g1 0 ∧ ∃ g2, G.2.2.2 v0 1 = some g2 ∧ isO G g2 0 ∧ ∃ g3, G.2.2.2 v0 4 = some g3 ∧ isO G g3 12 ∧ ∃ g4, G.2.2.2 v0 2 = some g4 ∧ isO G g4 0 ∧ ∃ n, X1_reduce_l2 G post v0 g1 g2 g3 g4 n 0 D
set_option maxRecDepth 100000 in
set_option maxHeartbeats 4000000 in
theorem X1_reduce_ok (l : Launch) (G : Shp) (D : Dat) (v0 : Nat) (post : Dat → Prop) (hw : X1_reduce_wp G D v0 post) : CtV l yX1_reduce cX1_reduce 4 (rmN 3) [.ref v0] G D post := by
  obtain ⟨ho_v0, g1, hr_g1, ho_g1, g2, hr_g2, ho_g2, g3, hr_g3, ho_g3, g4, hr_g4, ho_g4, hw⟩ := hw
  refine ctV_of (by decide) rfl (Nat.le_of_ble_eq_true rfl) ?_
  intro κ hκ C K
  subst hκ
  have C : Cx κ cX1_reduce RX1 (rmN 3) 4 := C
  refine j_iconst (v := 0) C dX1_reduce_0 (by decide) ?_
  refine j_istore_n C dX1_reduce_1 rfl (by decide) rfl ?_
  obtain ⟨n, hw⟩ := hw
  exact J.sub (X1_reduce_l2_ok C K ho_v0 hr_g1 ho_g1 hr_g2 ho_g2 hr_g3 ho_g3 hr_g4 ho_g4 n 0 D hw) [1, 0] rfl
/-! X2_addAllParts -/
def X2_addAllParts_wp (G : Shp) (D : Dat) (v0 : Nat) (v1 : Int32) (v2 : Int64) (post : Dat → Prop) : Prop := isO G v0 2 ∧ ∃ g1, G.2.2.2 v0 0 = some g1 ∧ isO G g1 6 ∧ ∃ g2, G.2.2.2 v0 7 = some g2 ∧ isO G g2 14 ∧ X2_placeOf_wp G D v0 v1 (fun r1 D2 => (vp_in r1 (G.2.2.1 g2) ∧ ∃ y4, G.2.2.2 g2 r1.toNatClampNeg = some y4 ∧ isO G y4 0 ∧ X6_addTimes_wp G D2 g1 y4 v2 (fun D8 => X2_addUnknowns_wp G D8 v0 0 (D8.1 v0 11) v1 v2 (fun D10 => post D10))))
set_option maxRecDepth 100000 in
set_option maxHeartbeats 4000000 in
theorem X2_addAllParts_ok (l : Launch) (G : Shp) (D : Dat) (v0 : Nat) (v1 : Int32) (v2 : Int64) (post : Dat → Prop) (hw : X2_addAllParts_wp G D v0 v1 v2 post) : CtV l yX2_addAllParts cX2_addAllParts 4 (rmN 3) [.ref v0, .int v1, .long v2] G D post := by
  obtain ⟨ho_v0, g1, hr_g1, ho_g1, g2, hr_g2, ho_g2, hw⟩ := hw
  refine ctV_of (by decide) rfl (Nat.le_of_ble_eq_true rfl) ?_
  intro κ hκ C K
  subst hκ
  have C : Cx κ cX2_addAllParts RX2 (rmN 3) 4 := C
  refine j_aload_n C dX2_addAllParts_0 rfl 0 rfl ?_
  refine gf_2_0 C ho_v0 hr_g1 k_146 dX2_addAllParts_1 ?_
  refine j_aload_n C dX2_addAllParts_4 rfl 0 rfl ?_
  refine gf_2_7 C ho_v0 hr_g2 k_153 dX2_addAllParts_5 ?_
  refine j_aload_n C dX2_addAllParts_8 rfl 0 rfl ?_
  refine j_iload_n C dX2_addAllParts_9 rfl 1 rfl ?_
  refine j_cVI (As := [.int v1]) (st := [.ref g2, .ref g1]) C (X2_placeOf_ok κ.2.1 G D v0 v1 _ hw) ho_v0 rfl k_461 mv_X2_placeOf ⟨by decide, by decide⟩ ⟨rfl, rfl⟩ rfl rfl (Nat.le_of_ble_eq_true rfl) ⟨Nat.zero_le _, Nat.zero_le _⟩ dX2_addAllParts_10 (fun r1 D2 hw => ?_)
  obtain ⟨hi3, hw⟩ := hw
  obtain ⟨y4, hr5, ho6, hw⟩ := hw
  refine j_aaldBig C ho_g2 hi3 hr5 dX2_addAllParts_13 ?_
  refine j_lload_n C dX2_addAllParts_14 rfl 2 rfl ?_
  refine j_cVV (As := [.ref y4, .long v2]) (st := []) C (X6_addTimes_ok κ.2.1 G D2 g1 y4 v2 _ hw) ho_g1 rfl k_534 mv_X6_addTimes ⟨by decide, by decide⟩ ⟨rfl, rfl⟩ rfl rfl (Nat.le_of_ble_eq_true rfl) ⟨Nat.zero_le _, Nat.zero_le _⟩ dX2_addAllParts_15 (fun D8 hw => ?_)
  refine j_aload_n C dX2_addAllParts_18 rfl 0 rfl ?_
  refine j_iconst (v := 0) C dX2_addAllParts_19 (by decide) ?_
  refine j_aload_n C dX2_addAllParts_20 rfl 0 rfl ?_
  refine gf_2_11 C ho_v0 k_159 dX2_addAllParts_21 ?_
  refine j_iload_n C dX2_addAllParts_24 rfl 1 rfl ?_
  refine j_lload_n C dX2_addAllParts_25 rfl 2 rfl ?_
  refine j_cVV (As := [.int 0, .int (D8.1 v0 11), .int v1, .long v2]) (st := []) C (X2_addUnknowns_ok κ.2.1 G D8 v0 0 (D8.1 v0 11) v1 v2 _ hw) ho_v0 rfl k_649 mv_X2_addUnknowns ⟨by decide, by decide⟩ ⟨rfl, rfl⟩ rfl rfl (Nat.le_of_ble_eq_true rfl) ⟨Nat.zero_le _, Nat.zero_le _⟩ dX2_addAllParts_26 (fun D10 hw => ?_)
  exact K _ _ _ dX2_addAllParts_29 hw
/-! X2_addUp -/
def X2_addUp_j86 (G : Shp) (post : Dat → Prop) (v0 : Nat) (v1 : Nat) (g1 : Nat) (g2 : Nat) (g3 : Nat) (k62 : Int32 → Dat → Prop) (v2 : Int32) (D : Dat) : Prop := k62 (v2 + 1) D
set_option maxRecDepth 100000 in
set_option maxHeartbeats 4000000 in
theorem X2_addUp_j86_ok {κ : Ctx} {G : Shp} {post : Dat → Prop} {v0 : Nat} {v1 : Nat} {g1 : Nat} {g2 : Nat} {g3 : Nat} (C : Cx κ cX2_addUp RX2 (rmN 3) 3) (K : RtV κ cX2_addUp G post) (ho_v0 : isO G v0 2) (ho_v1 : isO G v1 3) (hr_g1 : G.2.2.2 v0 4 = some g1) (ho_g1 : isO G g1 12) (hr_g2 : G.2.2.2 v0 3 = some g2) (ho_g2 : isO G g2 17) (hr_g3 : G.2.2.2 v0 2 = some g3) (ho_g3 : isO G g3 17) {k62 : Int32 → Dat → Prop} (hk62 : ∀ (v2 : Int32) (D : Dat), k62 v2 D → J κ 0 0 G D 62 [(0, .ref v0), (1, .ref v1), (2, .int v2)] []) (v2 : Int32) (D : Dat) (hw : X2_addUp_j86 G post v0 v1 g1 g2 g3 k62 v2 D) : J κ 0 0 G D 86 [(0, .ref v0), (1, .ref v1), (2, .int v2)] [] := by
  unfold X2_addUp_j86 at hw
  refine j_iinc (v := v2 + 1) C dX2_addUp_86 2 rfl rfl (by decide) rfl ?_
  refine j_goto (tgt := 62) C dX2_addUp_89 (by decide) ?_
  exact J.sub (hk62 (v2 + 1) D hw) [1, 2, 0] rfl
def X2_addUp_l62_b (G : Shp) (post : Dat → Prop) (v0 : Nat) (v1 : Nat) (g1 : Nat) (g2 : Nat) (g3 : Nat) (rec : Int32 → Dat → Prop) (v2 : Int32) (D : Dat) : Prop := ((40 ≤ v2 → post D) ∧ (¬ (40 ≤ v2) → X3_counts_wp G D v1 v2 (fun r1 D2 => ((r1 = 0 → X2_addUp_j86 G post v0 v1 g1 g2 g3 rec v2 D2) ∧ (¬ (r1 = 0) → X2_placeOf_wp G D2 v0 v2 (fun r3 D4 => X2_addTick_wp G D4 v0 v2 r3 (fun D6 => X2_addUp_j86 G post v0 v1 g1 g2 g3 rec v2 D6)))))))
def X2_addUp_l62 (G : Shp) (post : Dat → Prop) (v0 : Nat) (v1 : Nat) (g1 : Nat) (g2 : Nat) (g3 : Nat) : Nat → Int32 → Dat → Prop
  | 0 => fun _ _ => False
  | n + 1 => X2_addUp_l62_b G post v0 v1 g1 g2 g3 (X2_addUp_l62 G post v0 v1 g1 g2 g3 n)
set_option maxRecDepth 100000 in
set_option maxHeartbeats 4000000 in
theorem X2_addUp_l62_ok {κ : Ctx} {G : Shp} {post : Dat → Prop} {v0 : Nat} {v1 : Nat} {g1 : Nat} {g2 : Nat} {g3 : Nat} (C : Cx κ cX2_addUp RX2 (rmN 3) 3) (K : RtV κ cX2_addUp G post) (ho_v0 : isO G v0 2) (ho_v1 : isO G v1 3) (hr_g1 : G.2.2.2 v0 4 = some g1) (ho_g1 : isO G g1 12) (hr_g2 : G.2.2.2 v0 3 = some g2) (ho_g2 : isO G g2 17) (hr_g3 : G.2.2.2 v0 2 = some g3) (ho_g3 : isO G g3 17) : ∀ (n : Nat) (v2 : Int32) (D : Dat), X2_addUp_l62 G post v0 v1 g1 g2 g3 n v2 D → J κ 0 0 G D 62 [(0, .ref v0), (1, .ref v1), (2, .int v2)] [] := by
  intro n
  induction n with
  | zero => intro v2 D hw; exact hw.elim
  | succ n ih =>
    intro v2 D hw
    have hw : X2_addUp_l62_b G post v0 v1 g1 g2 g3 (X2_addUp_l62 G post v0 v1 g1 g2 g3 n) v2 D := hw
    unfold X2_addUp_l62_b at hw
    refine j_iload_n C dX2_addUp_62 rfl 2 rfl ?_
    refine j_bipush (v := 40) C dX2_addUp_63 (by decide) ?_
    refine j_icmp_ge (tgt := 92) C dX2_addUp_65 (by decide) (fun hc => ?_) (fun hc => ?_)
    · have hw := hw.1 hc
      exact K _ _ _ dX2_addUp_92 hw
    · have hw := hw.2 hc
      refine j_aload_n C dX2_addUp_68 rfl 1 rfl ?_
      refine j_iload_n C dX2_addUp_69 rfl 2 rfl ?_
      refine j_cVI (As := [.int v2]) (st := []) C (X3_counts_ok κ.2.1 G D v1 v2 _ hw) ho_v1 rfl k_460 mv_X3_counts ⟨by decide, by decide⟩ ⟨rfl, rfl⟩ rfl rfl (Nat.le_of_ble_eq_true rfl) ⟨Nat.zero_le _, Nat.zero_le _⟩ dX2_addUp_70 (fun r1 D2 hw => ?_)
      refine j_if_eq (tgt := 86) C dX2_addUp_73 (by decide) (fun hc => ?_) (fun hc => ?_)
      · have hw := hw.1 hc
        exact J.sub (X2_addUp_j86_ok C K ho_v0 ho_v1 hr_g1 ho_g1 hr_g2 ho_g2 hr_g3 ho_g3 ih v2 D2 hw) [0, 1, 2] rfl
      · have hw := hw.2 hc
        refine j_aload_n C dX2_addUp_76 rfl 0 rfl ?_
        refine j_iload_n C dX2_addUp_77 rfl 2 rfl ?_
        refine j_aload_n C dX2_addUp_78 rfl 0 rfl ?_
        refine j_iload_n C dX2_addUp_79 rfl 2 rfl ?_
        refine j_cVI (As := [.int v2]) (st := [.int v2, .ref v0]) C (X2_placeOf_ok κ.2.1 G D2 v0 v2 _ hw) ho_v0 rfl k_461 mv_X2_placeOf ⟨by decide, by decide⟩ ⟨rfl, rfl⟩ rfl rfl (Nat.le_of_ble_eq_true rfl) ⟨Nat.zero_le _, Nat.zero_le _⟩ dX2_addUp_80 (fun r3 D4 hw => ?_)
        refine j_cVV (As := [.int v2, .int r3]) (st := []) C (X2_addTick_ok κ.2.1 G D4 v0 v2 r3 _ hw) ho_v0 rfl k_465 mv_X2_addTick ⟨by decide, by decide⟩ ⟨rfl, rfl⟩ rfl rfl (Nat.le_of_ble_eq_true rfl) ⟨Nat.zero_le _, Nat.zero_le _⟩ dX2_addUp_83 (fun D6 hw => ?_)
        exact J.sub (X2_addUp_j86_ok C K ho_v0 ho_v1 hr_g1 ho_g1 hr_g2 ho_g2 hr_g3 ho_g3 ih v2 D6 hw) [0, 1, 2] rfl
def X2_addUp_l36_b (G : Shp) (post : Dat → Prop) (v0 : Nat) (v1 : Nat) (g1 : Nat) (g2 : Nat) (g3 : Nat) (rec : Int32 → Dat → Prop) (v2 : Int32) (D : Dat) : Prop := (((D.1 v0 11) < v2 → ∃ n, X2_addUp_l62 G post v0 v1 g1 g2 g3 n 0 D) ∧ (¬ ((D.1 v0 11) < v2) → (vp_in v2 (G.2.2.1 g3) ∧ ∃ y2, G.2.2.2 g3 v2.toNatClampNeg = some y2 ∧ isO G y2 12 ∧ J7_fill_d0a16_wp G D y2 0 (fun D6 => rec (v2 + 1) D6))))
def X2_addUp_l36 (G : Shp) (post : Dat → Prop) (v0 : Nat) (v1 : Nat) (g1 : Nat) (g2 : Nat) (g3 : Nat) : Nat → Int32 → Dat → Prop
  | 0 => fun _ _ => False
  | n + 1 => X2_addUp_l36_b G post v0 v1 g1 g2 g3 (X2_addUp_l36 G post v0 v1 g1 g2 g3 n)
set_option maxRecDepth 100000 in
set_option maxHeartbeats 4000000 in
theorem X2_addUp_l36_ok {κ : Ctx} {G : Shp} {post : Dat → Prop} {v0 : Nat} {v1 : Nat} {g1 : Nat} {g2 : Nat} {g3 : Nat} (C : Cx κ cX2_addUp RX2 (rmN 3) 3) (K : RtV κ cX2_addUp G post) (ho_v0 : isO G v0 2) (ho_v1 : isO G v1 3) (hr_g1 : G.2.2.2 v0 4 = some g1) (ho_g1 : isO G g1 12) (hr_g2 : G.2.2.2 v0 3 = some g2) (ho_g2 : isO G g2 17) (hr_g3 : G.2.2.2 v0 2 = some g3) (ho_g3 : isO G g3 17) : ∀ (n : Nat) (v2 : Int32) (D : Dat), X2_addUp_l36 G post v0 v1 g1 g2 g3 n v2 D → J κ 0 0 G D 36 [(0, .ref v0), (1, .ref v1), (2, .int v2)] [] := by
  intro n
  induction n with
  | zero => intro v2 D hw; exact hw.elim
  | succ n ih =>
    intro v2 D hw
    have hw : X2_addUp_l36_b G post v0 v1 g1 g2 g3 (X2_addUp_l36 G post v0 v1 g1 g2 g3 n) v2 D := hw
    unfold X2_addUp_l36_b at hw
    refine j_iload_n C dX2_addUp_36 rfl 2 rfl ?_
    refine j_aload_n C dX2_addUp_37 rfl 0 rfl ?_
    refine gf_2_11 C ho_v0 k_159 dX2_addUp_38 ?_
    refine j_icmp_gt (tgt := 60) C dX2_addUp_41 (by decide) (fun hc => ?_) (fun hc => ?_)
    · have hw := hw.1 hc
      refine j_iconst (v := 0) C dX2_addUp_60 (by decide) ?_
      refine j_istore_n C dX2_addUp_61 rfl (by decide) rfl ?_
      obtain ⟨n, hw⟩ := hw
      exact J.sub (X2_addUp_l62_ok C K ho_v0 ho_v1 hr_g1 ho_g1 hr_g2 ho_g2 hr_g3 ho_g3 n 0 D hw) [1, 2, 0] rfl
    · have hw := hw.2 hc
      refine j_aload_n C dX2_addUp_44 rfl 0 rfl ?_
      refine gf_2_2 C ho_v0 hr_g3 k_148 dX2_addUp_45 ?_
      refine j_iload_n C dX2_addUp_48 rfl 2 rfl ?_
      obtain ⟨hi1, hw⟩ := hw
      obtain ⟨y2, hr3, ho4, hw⟩ := hw
      refine j_aaldJ C ho_g3 hi1 hr3 dX2_addUp_49 ?_
      refine j_lconst (v := 0) C dX2_addUp_50 (by decide) ?_
      refine j_cSV (As := [.ref y2, .long 0]) (st := []) C (J7_fill_d0a16_ok κ.2.1 G D y2 0 _ hw) k_457 ms_J7_fill_d0a16 ⟨by decide, by decide⟩ ⟨rfl, rfl⟩ rfl rfl (Nat.le_of_ble_eq_true rfl) ⟨Nat.zero_le _, Nat.zero_le _⟩ dX2_addUp_51 (fun D6 hw => ?_)
      refine j_iinc (v := v2 + 1) C dX2_addUp_54 2 rfl rfl (by decide) rfl ?_
      refine j_goto (tgt := 36) C dX2_addUp_57 (by decide) ?_
      exact J.sub (ih (v2 + 1) D6 hw) [1, 2, 0] rfl
def X2_addUp_l10_b (G : Shp) (post : Dat → Prop) (v0 : Nat) (v1 : Nat) (g1 : Nat) (g2 : Nat) (g3 : Nat) (rec : Int32 → Dat → Prop) (v2 : Int32) (D : Dat) : Prop := (((D.1 v0 10) ≤ v2 → ∃ n, X2_addUp_l36 G post v0 v1 g1 g2 g3 n 0 D) ∧ (¬ ((D.1 v0 10) ≤ v2) → (vp_in v2 (G.2.2.1 g2) ∧ ∃ y2, G.2.2.2 g2 v2.toNatClampNeg = some y2 ∧ isO G y2 12 ∧ J7_fill_d0a16_wp G D y2 0 (fun D6 => rec (v2 + 1) D6))))
def X2_addUp_l10 (G : Shp) (post : Dat → Prop) (v0 : Nat) (v1 : Nat) (g1 : Nat) (g2 : Nat) (g3 : Nat) : Nat → Int32 → Dat → Prop
  | 0 => fun _ _ => False
  | n + 1 => X2_addUp_l10_b G post v0 v1 g1 g2 g3 (X2_addUp_l10 G post v0 v1 g1 g2 g3 n)
set_option maxRecDepth 100000 in
set_option maxHeartbeats 4000000 in
theorem X2_addUp_l10_ok {κ : Ctx} {G : Shp} {post : Dat → Prop} {v0 : Nat} {v1 : Nat} {g1 : Nat} {g2 : Nat} {g3 : Nat} (C : Cx κ cX2_addUp RX2 (rmN 3) 3) (K : RtV κ cX2_addUp G post) (ho_v0 : isO G v0 2) (ho_v1 : isO G v1 3) (hr_g1 : G.2.2.2 v0 4 = some g1) (ho_g1 : isO G g1 12) (hr_g2 : G.2.2.2 v0 3 = some g2) (ho_g2 : isO G g2 17) (hr_g3 : G.2.2.2 v0 2 = some g3) (ho_g3 : isO G g3 17) : ∀ (n : Nat) (v2 : Int32) (D : Dat), X2_addUp_l10 G post v0 v1 g1 g2 g3 n v2 D → J κ 0 0 G D 10 [(0, .ref v0), (1, .ref v1), (2, .int v2)] [] := by
  intro n
  induction n with
  | zero => intro v2 D hw; exact hw.elim
  | succ n ih =>
    intro v2 D hw
    have hw : X2_addUp_l10_b G post v0 v1 g1 g2 g3 (X2_addUp_l10 G post v0 v1 g1 g2 g3 n) v2 D := hw
    unfold X2_addUp_l10_b at hw
    refine j_iload_n C dX2_addUp_10 rfl 2 rfl ?_
    refine j_aload_n C dX2_addUp_11 rfl 0 rfl ?_
    refine gf_2_10 C ho_v0 k_157 dX2_addUp_12 ?_
    refine j_icmp_ge (tgt := 34) C dX2_addUp_15 (by decide) (fun hc => ?_) (fun hc => ?_)
    · have hw := hw.1 hc
      refine j_iconst (v := 0) C dX2_addUp_34 (by decide) ?_
      refine j_istore_n C dX2_addUp_35 rfl (by decide) rfl ?_
      obtain ⟨n, hw⟩ := hw
      exact J.sub (X2_addUp_l36_ok C K ho_v0 ho_v1 hr_g1 ho_g1 hr_g2 ho_g2 hr_g3 ho_g3 n 0 D hw) [1, 2, 0] rfl
    · have hw := hw.2 hc
      refine j_aload_n C dX2_addUp_18 rfl 0 rfl ?_
      refine gf_2_3 C ho_v0 hr_g2 k_149 dX2_addUp_19 ?_
      refine j_iload_n C dX2_addUp_22 rfl 2 rfl ?_
      obtain ⟨hi1, hw⟩ := hw
      obtain ⟨y2, hr3, ho4, hw⟩ := hw
      refine j_aaldJ C ho_g2 hi1 hr3 dX2_addUp_23 ?_
      refine j_lconst (v := 0) C dX2_addUp_24 (by decide) ?_
      refine j_cSV (As := [.ref y2, .long 0]) (st := []) C (J7_fill_d0a16_ok κ.2.1 G D y2 0 _ hw) k_457 ms_J7_fill_d0a16 ⟨by decide, by decide⟩ ⟨rfl, rfl⟩ rfl rfl (Nat.le_of_ble_eq_true rfl) ⟨Nat.zero_le _, Nat.zero_le _⟩ dX2_addUp_25 (fun D6 hw => ?_)
      refine j_iinc (v := v2 + 1) C dX2_addUp_28 2 rfl rfl (by decide) rfl ?_
      refine j_goto (tgt := 10) C dX2_addUp_31 (by decide) ?_
      exact J.sub (ih (v2 + 1) D6 hw) [1, 2, 0] rfl
def X2_addUp_wp (G : Shp) (D : Dat) (v0 : Nat) (v1 : Nat) (post : Dat → Prop) : Prop := isO G v0 2 ∧ isO G v1 3 ∧ ∃ g1, G.2.2.2 v0 4 = some g1 ∧ isO G g1 12 ∧ ∃ g2, G.2.2.2 v0 3 = some g2 ∧ isO G g2 17 ∧ ∃ g3, G.2.2.2 v0 2 = some g3 ∧ isO G g3 17 ∧ J7_fill_d0a16_wp G D g1 0 (fun D2 => ∃ n, X2_addUp_l10 G post v0 v1 g1 g2 g3 n 0 D2)
set_option maxRecDepth 100000 in
set_option maxHeartbeats 4000000 in
theorem X2_addUp_ok (l : Launch) (G : Shp) (D : Dat) (v0 : Nat) (v1 : Nat) (post : Dat → Prop) (hw : X2_addUp_wp G D v0 v1 post) : CtV l yX2_addUp cX2_addUp 3 (rmN 3) [.ref v0, .ref v1] G D post := by
  obtain ⟨ho_v0, ho_v1, g1, hr_g1, ho_g1, g2, hr_g2, ho_g2, g3, hr_g3, ho_g3, hw⟩ := hw
  refine ctV_of (by decide) rfl (Nat.le_of_ble_eq_true rfl) ?_
  intro κ hκ C K
  subst hκ
  have C : Cx κ cX2_addUp RX2 (rmN 3) 3 := C
  refine j_aload_n C dX2_addUp_0 rfl 0 rfl ?_
  refine gf_2_4 C ho_v0 hr_g1 k_150 dX2_addUp_1 ?_
  refine j_lconst (v := 0) C dX2_addUp_4 (by decide) ?_
  refine j_cSV (As := [.ref g1, .long 0]) (st := []) C (J7_fill_d0a16_ok κ.2.1 G D g1 0 _ hw) k_457 ms_J7_fill_d0a16 ⟨by decide, by decide⟩ ⟨rfl, rfl⟩ rfl rfl (Nat.le_of_ble_eq_true rfl) ⟨Nat.zero_le _, Nat.zero_le _⟩ dX2_addUp_5 (fun D2 hw => ?_)
  refine j_iconst (v := 0) C dX2_addUp_8 (by decide) ?_
  refine j_istore_n C dX2_addUp_9 rfl (by decide) rfl ?_
  obtain ⟨n, hw⟩ := hw
  exact J.sub (X2_addUp_l10_ok C K ho_v0 ho_v1 hr_g1 ho_g1 hr_g2 ho_g2 hr_g3 ho_g3 n 0 D2 hw) [1, 2, 0] rfl
/-! X2_costsLessThan -/
def X2_costsLessThan_wp (G : Shp) (D : Dat) (v0 : Nat) (v1 : Nat) (v2 : Nat) (post : Int32 → Dat → Prop) : Prop := isO G v0 2 ∧ isO G v1 0 ∧ isO G v2 0 ∧ ∃ g1, G.2.2.2 v0 0 = some g1 ∧ isO G g1 6 ∧ ∃ g2, G.2.2.2 v0 8 = some g2 ∧ isO G g2 0 ∧ ∃ g3, G.2.2.2 v0 9 = some g3 ∧ isO G g3 0 ∧ X6_clear_wp G D g1 (fun D2 => X2_cell_wp G D2 v0 (D2.1 v0 11) (D2.1 v0 11) (fun r3 D4 => ∃ y5, r3 = some y5 ∧ X6_addProduct_wp G D4 g1 y5 v2 0 (fun D7 => X6_addProduct_wp G D7 g1 v1 g2 1 (fun D9 => X6_settle_wp G D9 g1 g3 (fun D11 => (isB (D11.1 g3 2) ∧ post (D11.1 g3 2) D11))))))
set_option maxRecDepth 100000 in
set_option maxHeartbeats 4000000 in
theorem X2_costsLessThan_ok (l : Launch) (G : Shp) (D : Dat) (v0 : Nat) (v1 : Nat) (v2 : Nat) (post : Int32 → Dat → Prop) (hw : X2_costsLessThan_wp G D v0 v1 v2 post) : CtI l yX2_costsLessThan cX2_costsLessThan 3 .boolean (rmN 3) [.ref v0, .ref v1, .ref v2] G D post := by
  obtain ⟨ho_v0, ho_v1, ho_v2, g1, hr_g1, ho_g1, g2, hr_g2, ho_g2, g3, hr_g3, ho_g3, hw⟩ := hw
  refine ctI_of (by decide) rfl (Nat.le_of_ble_eq_true rfl) ?_
  intro κ hκ C K
  subst hκ
  have C : Cx κ cX2_costsLessThan RX2 (rmN 3) 3 := C
  refine j_aload_n C dX2_costsLessThan_0 rfl 0 rfl ?_
  refine gf_2_0 C ho_v0 hr_g1 k_146 dX2_costsLessThan_1 ?_
  refine j_cVV (As := []) (st := []) C (X6_clear_ok κ.2.1 G D g1 _ hw) ho_g1 rfl k_493 mv_X6_clear ⟨by decide, by decide⟩ ⟨rfl, rfl⟩ rfl rfl (Nat.le_of_ble_eq_true rfl) ⟨Nat.zero_le _, Nat.zero_le _⟩ dX2_costsLessThan_4 (fun D2 hw => ?_)
  refine j_aload_n C dX2_costsLessThan_7 rfl 0 rfl ?_
  refine gf_2_0 C ho_v0 hr_g1 k_146 dX2_costsLessThan_8 ?_
  refine j_aload_n C dX2_costsLessThan_11 rfl 0 rfl ?_
  refine j_aload_n C dX2_costsLessThan_12 rfl 0 rfl ?_
  refine gf_2_11 C ho_v0 k_159 dX2_costsLessThan_13 ?_
  refine j_aload_n C dX2_costsLessThan_16 rfl 0 rfl ?_
  refine gf_2_11 C ho_v0 k_159 dX2_costsLessThan_17 ?_
  refine j_cVQ (As := [.int (D2.1 v0 11), .int (D2.1 v0 11)]) (st := [.ref g1]) C (X2_cell_ok κ.2.1 G D2 v0 (D2.1 v0 11) (D2.1 v0 11) _ hw) ho_v0 rfl k_473 mv_X2_cell ⟨by decide, by decide⟩ ⟨rfl, rfl⟩ rfl rfl (Nat.le_of_ble_eq_true rfl) ⟨Nat.zero_le _, Nat.zero_le _⟩ dX2_costsLessThan_20 (fun r3 D4 hw => ?_)
  obtain ⟨y5, rfl, hw⟩ := hw
  show J κ 0 0 G D4 23 [(0, .ref v0), (1, .ref v1), (2, .ref v2)] [.ref y5, .ref g1]
  refine j_aload_n C dX2_costsLessThan_23 rfl 2 rfl ?_
  refine j_iconst (v := 0) C dX2_costsLessThan_24 (by decide) ?_
  refine j_cVV (As := [.ref y5, .ref v2, .int 0]) (st := []) C (X6_addProduct_ok κ.2.1 G D4 g1 y5 v2 0 _ hw) ho_g1 rfl k_498 mv_X6_addProduct ⟨by decide, by decide⟩ ⟨rfl, rfl⟩ rfl rfl (Nat.le_of_ble_eq_true rfl) ⟨Nat.zero_le _, Nat.zero_le _⟩ dX2_costsLessThan_25 (fun D7 hw => ?_)
  refine j_aload_n C dX2_costsLessThan_28 rfl 0 rfl ?_
  refine gf_2_0 C ho_v0 hr_g1 k_146 dX2_costsLessThan_29 ?_
  refine j_aload_n C dX2_costsLessThan_32 rfl 1 rfl ?_
  refine j_aload_n C dX2_costsLessThan_33 rfl 0 rfl ?_
  refine gf_2_8 C ho_v0 hr_g2 k_154 dX2_costsLessThan_34 ?_
  refine j_iconst (v := 1) C dX2_costsLessThan_37 (by decide) ?_
  refine j_cVV (As := [.ref v1, .ref g2, .int 1]) (st := []) C (X6_addProduct_ok κ.2.1 G D7 g1 v1 g2 1 _ hw) ho_g1 rfl k_498 mv_X6_addProduct ⟨by decide, by decide⟩ ⟨rfl, rfl⟩ rfl rfl (Nat.le_of_ble_eq_true rfl) ⟨Nat.zero_le _, Nat.zero_le _⟩ dX2_costsLessThan_38 (fun D9 hw => ?_)
  refine j_aload_n C dX2_costsLessThan_41 rfl 0 rfl ?_
  refine gf_2_0 C ho_v0 hr_g1 k_146 dX2_costsLessThan_42 ?_
  refine j_aload_n C dX2_costsLessThan_45 rfl 0 rfl ?_
  refine gf_2_9 C ho_v0 hr_g3 k_156 dX2_costsLessThan_46 ?_
  refine j_cVV (As := [.ref g3]) (st := []) C (X6_settle_ok κ.2.1 G D9 g1 g3 _ hw) ho_g1 rfl k_503 mv_X6_settle ⟨by decide, by decide⟩ ⟨rfl, rfl⟩ rfl rfl (Nat.le_of_ble_eq_true rfl) ⟨Nat.zero_le _, Nat.zero_le _⟩ dX2_costsLessThan_49 (fun D11 hw => ?_)
  refine j_aload_n C dX2_costsLessThan_52 rfl 0 rfl ?_
  refine gf_2_9 C ho_v0 hr_g3 k_156 dX2_costsLessThan_53 ?_
  refine gf_0_2 C ho_g3 k_51 dX2_costsLessThan_56 ?_
  obtain ⟨hb12, hw⟩ := hw
  exact K _ _ _ _ dX2_costsLessThan_59 (isB_n hb12) hw
/-! X2_eliminate -/
def X2_eliminate_l18_b (G : Shp) (post : Dat → Prop) (v0 : Nat) (v1 : Int32) (v2 : Int64) (g1 : Nat) (k5 : Int32 → Dat → Prop) (rec : Int32 → Int32 → Dat → Prop) (v4 : Int32) (v5 : Int32) (D : Dat) : Prop := (((D.1 v0 11) < v5 → k5 (v4 + 1) D) ∧ (¬ ((D.1 v0 11) < v5) → X2_cell_wp G D v0 v4 v5 (fun r1 D2 => ∃ y3, r1 = some y3 ∧ X6_clear_wp G D2 g1 (fun D5 => X2_cell_wp G D5 v0 v1 v1 (fun r6 D7 => ∃ y8, r6 = some y8 ∧ X6_addProduct_wp G D7 g1 y8 y3 0 (fun D10 => X2_cell_wp G D10 v0 v1 v4 (fun r11 D12 => ∃ y13, r11 = some y13 ∧ X2_cell_wp G D12 v0 v1 v5 (fun r14 D15 => ∃ y16, r14 = some y16 ∧ X6_addProduct_wp G D15 g1 y13 y16 1 (fun D18 => X6_settle_wp G D18 g1 y3 (fun D20 => (isO G y3 0 ∧ X0_divide_wp G D20 y3 v2 (fun r22 D23 => rec v4 (v5 + 1) D23))))))))))))
def X2_eliminate_l18 (G : Shp) (post : Dat → Prop) (v0 : Nat) (v1 : Int32) (v2 : Int64) (g1 : Nat) (k5 : Int32 → Dat → Prop) : Nat → Int32 → Int32 → Dat → Prop
  | 0 => fun _ _ _ => False
  | n + 1 => X2_eliminate_l18_b G post v0 v1 v2 g1 k5 (X2_eliminate_l18 G post v0 v1 v2 g1 k5 n)
set_option maxRecDepth 100000 in
set_option maxHeartbeats 4000000 in
theorem X2_eliminate_l18_ok {κ : Ctx} {G : Shp} {post : Dat → Prop} {v0 : Nat} {v1 : Int32} {v2 : Int64} {g1 : Nat} (C : Cx κ cX2_eliminate RX2 (rmN 3) 7) (K : RtV κ cX2_eliminate G post) (ho_v0 : isO G v0 2) (hr_g1 : G.2.2.2 v0 0 = some g1) (ho_g1 : isO G g1 6) {k5 : Int32 → Dat → Prop} (hk5 : ∀ (v4 : Int32) (D : Dat), k5 v4 D → J κ 0 0 G D 5 [(0, .ref v0), (1, .int v1), (2, .long v2), (4, .int v4)] []) : ∀ (n : Nat) (v4 : Int32) (v5 : Int32) (D : Dat), X2_eliminate_l18 G post v0 v1 v2 g1 k5 n v4 v5 D → J κ 0 0 G D 18 [(0, .ref v0), (1, .int v1), (2, .long v2), (4, .int v4), (5, .int v5)] [] := by
  intro n
  induction n with
  | zero => intro v4 v5 D hw; exact hw.elim
  | succ n ih =>
    intro v4 v5 D hw
    have hw : X2_eliminate_l18_b G post v0 v1 v2 g1 k5 (X2_eliminate_l18 G post v0 v1 v2 g1 k5 n) v4 v5 D := hw
    unfold X2_eliminate_l18_b at hw
    refine j_iload C dX2_eliminate_18 4 rfl ?_
    refine j_aload_n C dX2_eliminate_20 rfl 0 rfl ?_
    refine gf_2_11 C ho_v0 k_159 dX2_eliminate_21 ?_
    refine j_icmp_gt (tgt := 104) C dX2_eliminate_24 (by decide) (fun hc => ?_) (fun hc => ?_)
    · have hw := hw.1 hc
      refine j_iinc (v := v4 + 1) C dX2_eliminate_104 3 rfl rfl (by decide) rfl ?_
      refine j_goto (tgt := 5) C dX2_eliminate_107 (by decide) ?_
      exact J.sub (hk5 (v4 + 1) D hw) [1, 2, 3, 0] rfl
    · have hw := hw.2 hc
      refine j_aload_n C dX2_eliminate_27 rfl 0 rfl ?_
      refine j_iload C dX2_eliminate_28 3 rfl ?_
      refine j_iload C dX2_eliminate_30 4 rfl ?_
      refine j_cVQ (As := [.int v4, .int v5]) (st := []) C (X2_cell_ok κ.2.1 G D v0 v4 v5 _ hw) ho_v0 rfl k_473 mv_X2_cell ⟨by decide, by decide⟩ ⟨rfl, rfl⟩ rfl rfl (Nat.le_of_ble_eq_true rfl) ⟨Nat.zero_le _, Nat.zero_le _⟩ dX2_eliminate_32 (fun r1 D2 hw => ?_)
      obtain ⟨y3, rfl, hw⟩ := hw
      show J κ 0 0 G D2 35 [(0, .ref v0), (1, .int v1), (2, .long v2), (4, .int v4), (5, .int v5)] [.ref y3]
      refine j_astore C dX2_eliminate_35 (by decide) rfl ?_
      refine j_aload_n C dX2_eliminate_37 rfl 1 rfl ?_
      refine gf_2_0 C ho_v0 hr_g1 k_146 dX2_eliminate_38 ?_
      refine j_cVV (As := []) (st := []) C (X6_clear_ok κ.2.1 G D2 g1 _ hw) ho_g1 rfl k_493 mv_X6_clear ⟨by decide, by decide⟩ ⟨rfl, rfl⟩ rfl rfl (Nat.le_of_ble_eq_true rfl) ⟨Nat.zero_le _, Nat.zero_le _⟩ dX2_eliminate_41 (fun D5 hw => ?_)
      refine j_aload_n C dX2_eliminate_44 rfl 1 rfl ?_
      refine gf_2_0 C ho_v0 hr_g1 k_146 dX2_eliminate_45 ?_
      refine j_aload_n C dX2_eliminate_48 rfl 1 rfl ?_
      refine j_iload_n C dX2_eliminate_49 rfl 2 rfl ?_
      refine j_iload_n C dX2_eliminate_50 rfl 2 rfl ?_
      refine j_cVQ (As := [.int v1, .int v1]) (st := [.ref g1]) C (X2_cell_ok κ.2.1 G D5 v0 v1 v1 _ hw) ho_v0 rfl k_473 mv_X2_cell ⟨by decide, by decide⟩ ⟨rfl, rfl⟩ rfl rfl (Nat.le_of_ble_eq_true rfl) ⟨Nat.zero_le _, Nat.zero_le _⟩ dX2_eliminate_51 (fun r6 D7 hw => ?_)
      obtain ⟨y8, rfl, hw⟩ := hw
      show J κ 0 0 G D7 54 [(6, .ref y3), (0, .ref v0), (1, .int v1), (2, .long v2), (4, .int v4), (5, .int v5)] [.ref y8, .ref g1]
      refine j_aload C dX2_eliminate_54 0 rfl ?_
      refine j_iconst (v := 0) C dX2_eliminate_56 (by decide) ?_
      refine j_cVV (As := [.ref y8, .ref y3, .int 0]) (st := []) C (X6_addProduct_ok κ.2.1 G D7 g1 y8 y3 0 _ hw) ho_g1 rfl k_498 mv_X6_addProduct ⟨by decide, by decide⟩ ⟨rfl, rfl⟩ rfl rfl (Nat.le_of_ble_eq_true rfl) ⟨Nat.zero_le _, Nat.zero_le _⟩ dX2_eliminate_57 (fun D10 hw => ?_)
      refine j_aload_n C dX2_eliminate_60 rfl 1 rfl ?_
      refine gf_2_0 C ho_v0 hr_g1 k_146 dX2_eliminate_61 ?_
      refine j_aload_n C dX2_eliminate_64 rfl 1 rfl ?_
      refine j_iload_n C dX2_eliminate_65 rfl 2 rfl ?_
      refine j_iload C dX2_eliminate_66 4 rfl ?_
      refine j_cVQ (As := [.int v1, .int v4]) (st := [.ref g1]) C (X2_cell_ok κ.2.1 G D10 v0 v1 v4 _ hw) ho_v0 rfl k_473 mv_X2_cell ⟨by decide, by decide⟩ ⟨rfl, rfl⟩ rfl rfl (Nat.le_of_ble_eq_true rfl) ⟨Nat.zero_le _, Nat.zero_le _⟩ dX2_eliminate_68 (fun r11 D12 hw => ?_)
      obtain ⟨y13, rfl, hw⟩ := hw
      show J κ 0 0 G D12 71 [(6, .ref y3), (0, .ref v0), (1, .int v1), (2, .long v2), (4, .int v4), (5, .int v5)] [.ref y13, .ref g1]
      refine j_aload_n C dX2_eliminate_71 rfl 1 rfl ?_
      refine j_iload_n C dX2_eliminate_72 rfl 2 rfl ?_
      refine j_iload C dX2_eliminate_73 5 rfl ?_
      refine j_cVQ (As := [.int v1, .int v5]) (st := [.ref y13, .ref g1]) C (X2_cell_ok κ.2.1 G D12 v0 v1 v5 _ hw) ho_v0 rfl k_473 mv_X2_cell ⟨by decide, by decide⟩ ⟨rfl, rfl⟩ rfl rfl (Nat.le_of_ble_eq_true rfl) ⟨Nat.zero_le _, Nat.zero_le _⟩ dX2_eliminate_75 (fun r14 D15 hw => ?_)
      obtain ⟨y16, rfl, hw⟩ := hw
      show J κ 0 0 G D15 78 [(6, .ref y3), (0, .ref v0), (1, .int v1), (2, .long v2), (4, .int v4), (5, .int v5)] [.ref y16, .ref y13, .ref g1]
      refine j_iconst (v := 1) C dX2_eliminate_78 (by decide) ?_
      refine j_cVV (As := [.ref y13, .ref y16, .int 1]) (st := []) C (X6_addProduct_ok κ.2.1 G D15 g1 y13 y16 1 _ hw) ho_g1 rfl k_498 mv_X6_addProduct ⟨by decide, by decide⟩ ⟨rfl, rfl⟩ rfl rfl (Nat.le_of_ble_eq_true rfl) ⟨Nat.zero_le _, Nat.zero_le _⟩ dX2_eliminate_79 (fun D18 hw => ?_)
      refine j_aload_n C dX2_eliminate_82 rfl 1 rfl ?_
      refine gf_2_0 C ho_v0 hr_g1 k_146 dX2_eliminate_83 ?_
      refine j_aload C dX2_eliminate_86 0 rfl ?_
      refine j_cVV (As := [.ref y3]) (st := []) C (X6_settle_ok κ.2.1 G D18 g1 y3 _ hw) ho_g1 rfl k_503 mv_X6_settle ⟨by decide, by decide⟩ ⟨rfl, rfl⟩ rfl rfl (Nat.le_of_ble_eq_true rfl) ⟨Nat.zero_le _, Nat.zero_le _⟩ dX2_eliminate_88 (fun D20 hw => ?_)
      refine j_aload C dX2_eliminate_91 0 rfl ?_
      refine j_lload_n C dX2_eliminate_93 rfl 3 rfl ?_
      obtain ⟨ho21, hw⟩ := hw
      refine j_cVL (As := [.long v2]) (st := []) C (X0_divide_ok κ.2.1 G D20 y3 v2 _ hw) ho21 rfl k_519 mv_X0_divide ⟨by decide, by decide⟩ ⟨rfl, rfl⟩ rfl rfl (Nat.le_of_ble_eq_true rfl) ⟨Nat.zero_le _, Nat.zero_le _⟩ dX2_eliminate_94 (fun r22 D23 hw => ?_)
      refine j_pop2L C dX2_eliminate_97 rfl ?_
      refine j_iinc (v := v5 + 1) C dX2_eliminate_98 5 rfl rfl (by decide) rfl ?_
      refine j_goto (tgt := 18) C dX2_eliminate_101 (by decide) ?_
      exact J.sub (ih v4 (v5 + 1) D23 hw) [2, 3, 4, 5, 0] rfl
def X2_eliminate_l5_b (G : Shp) (post : Dat → Prop) (v0 : Nat) (v1 : Int32) (v2 : Int64) (g1 : Nat) (rec : Int32 → Dat → Prop) (v4 : Int32) (D : Dat) : Prop := (((D.1 v0 11) < v4 → post D) ∧ (¬ ((D.1 v0 11) < v4) → ∃ n, X2_eliminate_l18 G post v0 v1 v2 g1 rec n v4 v4 D))
def X2_eliminate_l5 (G : Shp) (post : Dat → Prop) (v0 : Nat) (v1 : Int32) (v2 : Int64) (g1 : Nat) : Nat → Int32 → Dat → Prop
  | 0 => fun _ _ => False
  | n + 1 => X2_eliminate_l5_b G post v0 v1 v2 g1 (X2_eliminate_l5 G post v0 v1 v2 g1 n)
set_option maxRecDepth 100000 in
set_option maxHeartbeats 4000000 in
theorem X2_eliminate_l5_ok {κ : Ctx} {G : Shp} {post : Dat → Prop} {v0 : Nat} {v1 : Int32} {v2 : Int64} {g1 : Nat} (C : Cx κ cX2_eliminate RX2 (rmN 3) 7) (K : RtV κ cX2_eliminate G post) (ho_v0 : isO G v0 2) (hr_g1 : G.2.2.2 v0 0 = some g1) (ho_g1 : isO G g1 6) : ∀ (n : Nat) (v4 : Int32) (D : Dat), X2_eliminate_l5 G post v0 v1 v2 g1 n v4 D → J κ 0 0 G D 5 [(0, .ref v0), (1, .int v1), (2, .long v2), (4, .int v4)] [] := by
  intro n
  induction n with
  | zero => intro v4 D hw; exact hw.elim
  | succ n ih =>
    intro v4 D hw
    have hw : X2_eliminate_l5_b G post v0 v1 v2 g1 (X2_eliminate_l5 G post v0 v1 v2 g1 n) v4 D := hw
    unfold X2_eliminate_l5_b at hw
    refine j_iload C dX2_eliminate_5 3 rfl ?_
    refine j_aload_n C dX2_eliminate_7 rfl 0 rfl ?_
    refine gf_2_11 C ho_v0 k_159 dX2_eliminate_8 ?_
    refine j_icmp_gt (tgt := 110) C dX2_eliminate_11 (by decide) (fun hc => ?_) (fun hc => ?_)
    · have hw := hw.1 hc
      exact K _ _ _ dX2_eliminate_110 hw
    · have hw := hw.2 hc
      refine j_iload C dX2_eliminate_14 3 rfl ?_
      refine j_istore C dX2_eliminate_16 (by decide) rfl ?_
      obtain ⟨n, hw⟩ := hw
      exact J.sub (X2_eliminate_l18_ok C K ho_v0 hr_g1 ho_g1 ih n v4 v4 D hw) [1, 2, 3, 4, 0] rfl
def X2_eliminate_wp (G : Shp) (D : Dat) (v0 : Nat) (v1 : Int32) (v2 : Int64) (post : Dat → Prop) : Prop := isO G v0 2 ∧ ∃ g1, G.2.2.2 v0 0 = some g1 ∧ isO G g1 6 ∧ ∃ n, X2_eliminate_l5 G post v0 v1 v2 g1 n (v1 + 1) D
set_option maxRecDepth 100000 in
set_option maxHeartbeats 4000000 in
theorem X2_eliminate_ok (l : Launch) (G : Shp) (D : Dat) (v0 : Nat) (v1 : Int32) (v2 : Int64) (post : Dat → Prop) (hw : X2_eliminate_wp G D v0 v1 v2 post) : CtV l yX2_eliminate cX2_eliminate 7 (rmN 3) [.ref v0, .int v1, .long v2] G D post := by
  obtain ⟨ho_v0, g1, hr_g1, ho_g1, hw⟩ := hw
  refine ctV_of (by decide) rfl (Nat.le_of_ble_eq_true rfl) ?_
  intro κ hκ C K
  subst hκ
  have C : Cx κ cX2_eliminate RX2 (rmN 3) 7 := C
  refine j_iload_n C dX2_eliminate_0 rfl 1 rfl ?_
  refine j_iconst (v := 1) C dX2_eliminate_1 (by decide) ?_
  refine j_iadd C dX2_eliminate_2 ?_
  refine j_istore C dX2_eliminate_3 (by decide) rfl ?_
  obtain ⟨n, hw⟩ := hw
  exact J.sub (X2_eliminate_l5_ok C K ho_v0 hr_g1 ho_g1 n (v1 + 1) D hw) [1, 2, 3, 0] rfl
/-! X2_feastsOn -/
def X2_feastsOn_wp (G : Shp) (D : Dat) (v0 : Nat) (v1 : Int32) (v2 : Nat) (post : Dat → Prop) : Prop := isO G v0 2 ∧ isO G v2 0 ∧ ∃ g1, G.2.2.2 v0 0 = some g1 ∧ isO G g1 6 ∧ X6_clear_wp G D g1 (fun D2 => X2_addUnknowns_wp G D2 v0 (D2.1 v0 13) (D2.1 v0 11) v1 1 (fun D4 => X6_settle_wp G D4 g1 v2 (fun D6 => post D6)))
set_option maxRecDepth 100000 in
set_option maxHeartbeats 4000000 in
theorem X2_feastsOn_ok (l : Launch) (G : Shp) (D : Dat) (v0 : Nat) (v1 : Int32) (v2 : Nat) (post : Dat → Prop) (hw : X2_feastsOn_wp G D v0 v1 v2 post) : CtV l yX2_feastsOn cX2_feastsOn 3 (rmN 3) [.ref v0, .int v1, .ref v2] G D post := by
  obtain ⟨ho_v0, ho_v2, g1, hr_g1, ho_g1, hw⟩ := hw
  refine ctV_of (by decide) rfl (Nat.le_of_ble_eq_true rfl) ?_
  intro κ hκ C K
  subst hκ
  have C : Cx κ cX2_feastsOn RX2 (rmN 3) 3 := C
  refine j_aload_n C dX2_feastsOn_0 rfl 0 rfl ?_
  refine gf_2_0 C ho_v0 hr_g1 k_146 dX2_feastsOn_1 ?_
  refine j_cVV (As := []) (st := []) C (X6_clear_ok κ.2.1 G D g1 _ hw) ho_g1 rfl k_493 mv_X6_clear ⟨by decide, by decide⟩ ⟨rfl, rfl⟩ rfl rfl (Nat.le_of_ble_eq_true rfl) ⟨Nat.zero_le _, Nat.zero_le _⟩ dX2_feastsOn_4 (fun D2 hw => ?_)
  refine j_aload_n C dX2_feastsOn_7 rfl 0 rfl ?_
  refine j_aload_n C dX2_feastsOn_8 rfl 0 rfl ?_
  refine gf_2_13 C ho_v0 k_162 dX2_feastsOn_9 ?_
  refine j_aload_n C dX2_feastsOn_12 rfl 0 rfl ?_
  refine gf_2_11 C ho_v0 k_159 dX2_feastsOn_13 ?_
  refine j_iload_n C dX2_feastsOn_16 rfl 1 rfl ?_
  refine j_lconst (v := 1) C dX2_feastsOn_17 (by decide) ?_
  refine j_cVV (As := [.int (D2.1 v0 13), .int (D2.1 v0 11), .int v1, .long 1]) (st := []) C (X2_addUnknowns_ok κ.2.1 G D2 v0 (D2.1 v0 13) (D2.1 v0 11) v1 1 _ hw) ho_v0 rfl k_649 mv_X2_addUnknowns ⟨by decide, by decide⟩ ⟨rfl, rfl⟩ rfl rfl (Nat.le_of_ble_eq_true rfl) ⟨Nat.zero_le _, Nat.zero_le _⟩ dX2_feastsOn_18 (fun D4 hw => ?_)
  refine j_aload_n C dX2_feastsOn_21 rfl 0 rfl ?_
  refine gf_2_0 C ho_v0 hr_g1 k_146 dX2_feastsOn_22 ?_
  refine j_aload_n C dX2_feastsOn_25 rfl 2 rfl ?_
  refine j_cVV (As := [.ref v2]) (st := []) C (X6_settle_ok κ.2.1 G D4 g1 v2 _ hw) ho_g1 rfl k_503 mv_X6_settle ⟨by decide, by decide⟩ ⟨rfl, rfl⟩ rfl rfl (Nat.le_of_ble_eq_true rfl) ⟨Nat.zero_le _, Nat.zero_le _⟩ dX2_feastsOn_26 (fun D6 hw => ?_)
  exact K _ _ _ dX2_feastsOn_29 hw
/-! X2_findPlaceTops -/
def X2_findPlaceTops_l41_b (G : Shp) (post : Dat → Prop) (v0 : Nat) (g1 : Nat) (g2 : Nat) (g3 : Nat) (g4 : Nat) (g5 : Nat) (g6 : Nat) (k2 : Int32 → Dat → Prop) (rec : Int32 → Int32 → Dat → Prop) (v1 : Int32) (v2 : Int32) (D : Dat) : Prop := (((D.1 v0 11) ≤ v2 → (vp_in v1 (G.2.2.1 g4) ∧ ∃ y2, G.2.2.2 g4 v1.toNatClampNeg = some y2 ∧ isO G y2 0 ∧ X6_settle_wp G D g1 y2 (fun D6 => (vp_in v1 (G.2.2.1 g4) ∧ ∃ y8, G.2.2.2 g4 v1.toNatClampNeg = some y8 ∧ isO G y8 0 ∧ vp_in v1 (G.2.2.1 g5) ∧ X0_divide_wp G D6 y8 (D6.2 g5 v1.toNatClampNeg) (fun r12 D13 => k2 (v1 + 1) D13))))) ∧ (¬ ((D.1 v0 11) ≤ v2) → (vp_in v2 (G.2.2.1 g6) ∧ ∃ y15, G.2.2.2 g6 v2.toNatClampNeg = some y15 ∧ isO G y15 0 ∧ vp_in v1 (G.2.2.1 g3) ∧ ∃ y19, G.2.2.2 g3 v1.toNatClampNeg = some y19 ∧ isO G y19 12 ∧ vp_in v2 (G.2.2.1 y19) ∧ X6_addTimes_wp G D g1 y15 (-(D.2 y19 v2.toNatClampNeg)) (fun D24 => rec v1 (v2 + 1) D24))))
def X2_findPlaceTops_l41 (G : Shp) (post : Dat → Prop) (v0 : Nat) (g1 : Nat) (g2 : Nat) (g3 : Nat) (g4 : Nat) (g5 : Nat) (g6 : Nat) (k2 : Int32 → Dat → Prop) : Nat → Int32 → Int32 → Dat → Prop
  | 0 => fun _ _ _ => False
  | n + 1 => X2_findPlaceTops_l41_b G post v0 g1 g2 g3 g4 g5 g6 k2 (X2_findPlaceTops_l41 G post v0 g1 g2 g3 g4 g5 g6 k2 n)
set_option maxRecDepth 100000 in
set_option maxHeartbeats 4000000 in
theorem X2_findPlaceTops_l41_ok {κ : Ctx} {G : Shp} {post : Dat → Prop} {v0 : Nat} {g1 : Nat} {g2 : Nat} {g3 : Nat} {g4 : Nat} {g5 : Nat} {g6 : Nat} (C : Cx κ cX2_findPlaceTops RX2 (rmN 3) 3) (K : RtV κ cX2_findPlaceTops G post) (ho_v0 : isO G v0 2) (hr_g1 : G.2.2.2 v0 0 = some g1) (ho_g1 : isO G g1 6) (hr_g2 : G.2.2.2 v0 8 = some g2) (ho_g2 : isO G g2 0) (hr_g3 : G.2.2.2 v0 3 = some g3) (ho_g3 : isO G g3 17) (hr_g4 : G.2.2.2 v0 7 = some g4) (ho_g4 : isO G g4 14) (hr_g5 : G.2.2.2 v0 4 = some g5) (ho_g5 : isO G g5 12) (hr_g6 : G.2.2.2 v0 6 = some g6) (ho_g6 : isO G g6 14) {k2 : Int32 → Dat → Prop} (hk2 : ∀ (v1 : Int32) (D : Dat), k2 v1 D → J κ 0 0 G D 2 [(0, .ref v0), (1, .int v1)] []) : ∀ (n : Nat) (v1 : Int32) (v2 : Int32) (D : Dat), X2_findPlaceTops_l41 G post v0 g1 g2 g3 g4 g5 g6 k2 n v1 v2 D → J κ 0 0 G D 41 [(0, .ref v0), (1, .int v1), (2, .int v2)] [] := by
  intro n
  induction n with
  | zero => intro v1 v2 D hw; exact hw.elim
  | succ n ih =>
    intro v1 v2 D hw
    have hw : X2_findPlaceTops_l41_b G post v0 g1 g2 g3 g4 g5 g6 k2 (X2_findPlaceTops_l41 G post v0 g1 g2 g3 g4 g5 g6 k2 n) v1 v2 D := hw
    unfold X2_findPlaceTops_l41_b at hw
    refine j_iload_n C dX2_findPlaceTops_41 rfl 2 rfl ?_
    refine j_aload_n C dX2_findPlaceTops_42 rfl 0 rfl ?_
    refine gf_2_11 C ho_v0 k_159 dX2_findPlaceTops_43 ?_
    refine j_icmp_ge (tgt := 77) C dX2_findPlaceTops_46 (by decide) (fun hc => ?_) (fun hc => ?_)
    · have hw := hw.1 hc
      refine j_aload_n C dX2_findPlaceTops_77 rfl 0 rfl ?_
      refine gf_2_0 C ho_v0 hr_g1 k_146 dX2_findPlaceTops_78 ?_
      refine j_aload_n C dX2_findPlaceTops_81 rfl 0 rfl ?_
      refine gf_2_7 C ho_v0 hr_g4 k_153 dX2_findPlaceTops_82 ?_
      refine j_iload_n C dX2_findPlaceTops_85 rfl 1 rfl ?_
      obtain ⟨hi1, hw⟩ := hw
      obtain ⟨y2, hr3, ho4, hw⟩ := hw
      refine j_aaldBig C ho_g4 hi1 hr3 dX2_findPlaceTops_86 ?_
      refine j_cVV (As := [.ref y2]) (st := []) C (X6_settle_ok κ.2.1 G D g1 y2 _ hw) ho_g1 rfl k_503 mv_X6_settle ⟨by decide, by decide⟩ ⟨rfl, rfl⟩ rfl rfl (Nat.le_of_ble_eq_true rfl) ⟨Nat.zero_le _, Nat.zero_le _⟩ dX2_findPlaceTops_87 (fun D6 hw => ?_)
      refine j_aload_n C dX2_findPlaceTops_90 rfl 0 rfl ?_
      refine gf_2_7 C ho_v0 hr_g4 k_153 dX2_findPlaceTops_91 ?_
      refine j_iload_n C dX2_findPlaceTops_94 rfl 1 rfl ?_
      obtain ⟨hi7, hw⟩ := hw
      obtain ⟨y8, hr9, ho10, hw⟩ := hw
      refine j_aaldBig C ho_g4 hi7 hr9 dX2_findPlaceTops_95 ?_
      refine j_aload_n C dX2_findPlaceTops_96 rfl 0 rfl ?_
      refine gf_2_4 C ho_v0 hr_g5 k_150 dX2_findPlaceTops_97 ?_
      refine j_iload_n C dX2_findPlaceTops_100 rfl 1 rfl ?_
      obtain ⟨hi11, hw⟩ := hw
      refine j_lald C ho_g5 hi11 dX2_findPlaceTops_101 ?_
      refine j_cVL (As := [.long (D6.2 g5 v1.toNatClampNeg)]) (st := []) C (X0_divide_ok κ.2.1 G D6 y8 (D6.2 g5 v1.toNatClampNeg) _ hw) ho10 rfl k_519 mv_X0_divide ⟨by decide, by decide⟩ ⟨rfl, rfl⟩ rfl rfl (Nat.le_of_ble_eq_true rfl) ⟨Nat.zero_le _, Nat.zero_le _⟩ dX2_findPlaceTops_102 (fun r12 D13 hw => ?_)
      refine j_pop2L C dX2_findPlaceTops_105 rfl ?_
      refine j_iinc (v := v1 + 1) C dX2_findPlaceTops_106 1 rfl rfl (by decide) rfl ?_
      refine j_goto (tgt := 2) C dX2_findPlaceTops_109 (by decide) ?_
      exact J.sub (hk2 (v1 + 1) D13 hw) [1, 0] rfl
    · have hw := hw.2 hc
      refine j_aload_n C dX2_findPlaceTops_49 rfl 0 rfl ?_
      refine gf_2_0 C ho_v0 hr_g1 k_146 dX2_findPlaceTops_50 ?_
      refine j_aload_n C dX2_findPlaceTops_53 rfl 0 rfl ?_
      refine gf_2_6 C ho_v0 hr_g6 k_152 dX2_findPlaceTops_54 ?_
      refine j_iload_n C dX2_findPlaceTops_57 rfl 2 rfl ?_
      obtain ⟨hi14, hw⟩ := hw
      obtain ⟨y15, hr16, ho17, hw⟩ := hw
      refine j_aaldBig C ho_g6 hi14 hr16 dX2_findPlaceTops_58 ?_
      refine j_aload_n C dX2_findPlaceTops_59 rfl 0 rfl ?_
      refine gf_2_3 C ho_v0 hr_g3 k_149 dX2_findPlaceTops_60 ?_
      refine j_iload_n C dX2_findPlaceTops_63 rfl 1 rfl ?_
      obtain ⟨hi18, hw⟩ := hw
      obtain ⟨y19, hr20, ho21, hw⟩ := hw
      refine j_aaldJ C ho_g3 hi18 hr20 dX2_findPlaceTops_64 ?_
      refine j_iload_n C dX2_findPlaceTops_65 rfl 2 rfl ?_
      obtain ⟨hi22, hw⟩ := hw
      refine j_lald C ho21 hi22 dX2_findPlaceTops_66 ?_
      refine j_lneg C dX2_findPlaceTops_67 ?_
      refine j_cVV (As := [.ref y15, .long (-(D.2 y19 v2.toNatClampNeg))]) (st := []) C (X6_addTimes_ok κ.2.1 G D g1 y15 (-(D.2 y19 v2.toNatClampNeg)) _ hw) ho_g1 rfl k_534 mv_X6_addTimes ⟨by decide, by decide⟩ ⟨rfl, rfl⟩ rfl rfl (Nat.le_of_ble_eq_true rfl) ⟨Nat.zero_le _, Nat.zero_le _⟩ dX2_findPlaceTops_68 (fun D24 hw => ?_)
      refine j_iinc (v := v2 + 1) C dX2_findPlaceTops_71 2 rfl rfl (by decide) rfl ?_
      refine j_goto (tgt := 41) C dX2_findPlaceTops_74 (by decide) ?_
      exact J.sub (ih v1 (v2 + 1) D24 hw) [1, 2, 0] rfl
def X2_findPlaceTops_l2_b (G : Shp) (post : Dat → Prop) (v0 : Nat) (g1 : Nat) (g2 : Nat) (g3 : Nat) (g4 : Nat) (g5 : Nat) (g6 : Nat) (rec : Int32 → Dat → Prop) (v1 : Int32) (D : Dat) : Prop := (((D.1 v0 10) ≤ v1 → post D) ∧ (¬ ((D.1 v0 10) ≤ v1) → X6_clear_wp G D g1 (fun D2 => (vp_in v1 (G.2.2.1 g3) ∧ ∃ y4, G.2.2.2 g3 v1.toNatClampNeg = some y4 ∧ isO G y4 12 ∧ vp_in (D2.1 v0 11) (G.2.2.1 y4) ∧ X6_addTimes_wp G D2 g1 g2 (D2.2 y4 (D2.1 v0 11).toNatClampNeg) (fun D9 => ∃ n, X2_findPlaceTops_l41 G post v0 g1 g2 g3 g4 g5 g6 rec n v1 0 D9)))))
def X2_findPlaceTops_l2 (G : Shp) (post : Dat → Prop) (v0 : Nat) (g1 : Nat) (g2 : Nat) (g3 : Nat) (g4 : Nat) (g5 : Nat) (g6 : Nat) : Nat → Int32 → Dat → Prop
  | 0 => fun _ _ => False
  | n + 1 => X2_findPlaceTops_l2_b G post v0 g1 g2 g3 g4 g5 g6 (X2_findPlaceTops_l2 G post v0 g1 g2 g3 g4 g5 g6 n)
set_option maxRecDepth 100000 in
set_option maxHeartbeats 4000000 in
theorem X2_findPlaceTops_l2_ok {κ : Ctx} {G : Shp} {post : Dat → Prop} {v0 : Nat} {g1 : Nat} {g2 : Nat} {g3 : Nat} {g4 : Nat} {g5 : Nat} {g6 : Nat} (C : Cx κ cX2_findPlaceTops RX2 (rmN 3) 3) (K : RtV κ cX2_findPlaceTops G post) (ho_v0 : isO G v0 2) (hr_g1 : G.2.2.2 v0 0 = some g1) (ho_g1 : isO G g1 6) (hr_g2 : G.2.2.2 v0 8 = some g2) (ho_g2 : isO G g2 0) (hr_g3 : G.2.2.2 v0 3 = some g3) (ho_g3 : isO G g3 17) (hr_g4 : G.2.2.2 v0 7 = some g4) (ho_g4 : isO G g4 14) (hr_g5 : G.2.2.2 v0 4 = some g5) (ho_g5 : isO G g5 12) (hr_g6 : G.2.2.2 v0 6 = some g6) (ho_g6 : isO G g6 14) : ∀ (n : Nat) (v1 : Int32) (D : Dat), X2_findPlaceTops_l2 G post v0 g1 g2 g3 g4 g5 g6 n v1 D → J κ 0 0 G D 2 [(0, .ref v0), (1, .int v1)] [] := by
  intro n
  induction n with
  | zero => intro v1 D hw; exact hw.elim
  | succ n ih =>
    intro v1 D hw
    have hw : X2_findPlaceTops_l2_b G post v0 g1 g2 g3 g4 g5 g6 (X2_findPlaceTops_l2 G post v0 g1 g2 g3 g4 g5 g6 n) v1 D := hw
    unfold X2_findPlaceTops_l2_b at hw
    refine j_iload_n C dX2_findPlaceTops_2 rfl 1 rfl ?_
    refine j_aload_n C dX2_findPlaceTops_3 rfl 0 rfl ?_
    refine gf_2_10 C ho_v0 k_157 dX2_findPlaceTops_4 ?_
    refine j_icmp_ge (tgt := 112) C dX2_findPlaceTops_7 (by decide) (fun hc => ?_) (fun hc => ?_)
    · have hw := hw.1 hc
      exact K _ _ _ dX2_findPlaceTops_112 hw
    · have hw := hw.2 hc
      refine j_aload_n C dX2_findPlaceTops_10 rfl 0 rfl ?_
      refine gf_2_0 C ho_v0 hr_g1 k_146 dX2_findPlaceTops_11 ?_
      refine j_cVV (As := []) (st := []) C (X6_clear_ok κ.2.1 G D g1 _ hw) ho_g1 rfl k_493 mv_X6_clear ⟨by decide, by decide⟩ ⟨rfl, rfl⟩ rfl rfl (Nat.le_of_ble_eq_true rfl) ⟨Nat.zero_le _, Nat.zero_le _⟩ dX2_findPlaceTops_14 (fun D2 hw => ?_)
      refine j_aload_n C dX2_findPlaceTops_17 rfl 0 rfl ?_
      refine gf_2_0 C ho_v0 hr_g1 k_146 dX2_findPlaceTops_18 ?_
      refine j_aload_n C dX2_findPlaceTops_21 rfl 0 rfl ?_
      refine gf_2_8 C ho_v0 hr_g2 k_154 dX2_findPlaceTops_22 ?_
      refine j_aload_n C dX2_findPlaceTops_25 rfl 0 rfl ?_
      refine gf_2_3 C ho_v0 hr_g3 k_149 dX2_findPlaceTops_26 ?_
      refine j_iload_n C dX2_findPlaceTops_29 rfl 1 rfl ?_
      obtain ⟨hi3, hw⟩ := hw
      obtain ⟨y4, hr5, ho6, hw⟩ := hw
      refine j_aaldJ C ho_g3 hi3 hr5 dX2_findPlaceTops_30 ?_
      refine j_aload_n C dX2_findPlaceTops_31 rfl 0 rfl ?_
      refine gf_2_11 C ho_v0 k_159 dX2_findPlaceTops_32 ?_
      obtain ⟨hi7, hw⟩ := hw
      refine j_lald C ho6 hi7 dX2_findPlaceTops_35 ?_
      refine j_cVV (As := [.ref g2, .long (D2.2 y4 (D2.1 v0 11).toNatClampNeg)]) (st := []) C (X6_addTimes_ok κ.2.1 G D2 g1 g2 (D2.2 y4 (D2.1 v0 11).toNatClampNeg) _ hw) ho_g1 rfl k_534 mv_X6_addTimes ⟨by decide, by decide⟩ ⟨rfl, rfl⟩ rfl rfl (Nat.le_of_ble_eq_true rfl) ⟨Nat.zero_le _, Nat.zero_le _⟩ dX2_findPlaceTops_36 (fun D9 hw => ?_)
      refine j_iconst (v := 0) C dX2_findPlaceTops_39 (by decide) ?_
      refine j_istore_n C dX2_findPlaceTops_40 rfl (by decide) rfl ?_
      obtain ⟨n, hw⟩ := hw
      exact J.sub (X2_findPlaceTops_l41_ok C K ho_v0 hr_g1 ho_g1 hr_g2 ho_g2 hr_g3 ho_g3 hr_g4 ho_g4 hr_g5 ho_g5 hr_g6 ho_g6 ih n v1 0 D9 hw) [1, 2, 0] rfl
def X2_findPlaceTops_wp (G : Shp) (D : Dat) (v0 : Nat) (post : Dat → Prop) : Prop := isO G v0 2 ∧ ∃ g1, G.2.2.2 v0 0 = some g1 ∧ isO G g1 6 ∧ ∃ g2, G.2.2.2 v0 8 = some g2 ∧ isO G g2 0 ∧ ∃ g3, G.2.2.2 v0 3 = some g3 ∧ isO G g3 17 ∧ ∃ g4, G.2.2.2 v0 7 = some g4 ∧ isO G g4 14 ∧ ∃ g5, G.2.2.2 v0 4 = some g5 ∧ isO G g5 12 ∧ ∃ g6, G.2.2.2 v0 6 = some g6 ∧ isO G g6 14 ∧ ∃ n, X2_findPlaceTops_l2 G post v0 g1 g2 g3 g4 g5 g6 n 0 D
set_option maxRecDepth 100000 in
set_option maxHeartbeats 4000000 in
theorem X2_findPlaceTops_ok (l : Launch) (G : Shp) (D : Dat) (v0 : Nat) (post : Dat → Prop) (hw : X2_findPlaceTops_wp G D v0 post) : CtV l yX2_findPlaceTops cX2_findPlaceTops 3 (rmN 3) [.ref v0] G D post := by
  obtain ⟨ho_v0, g1, hr_g1, ho_g1, g2, hr_g2, ho_g2, g3, hr_g3, ho_g3, g4, hr_g4, ho_g4, g5, hr_g5, ho_g5, g6, hr_g6, ho_g6, hw⟩ := hw
  refine ctV_of (by decide) rfl (Nat.le_of_ble_eq_true rfl) ?_
  intro κ hκ C K
  subst hκ
  have C : Cx κ cX2_findPlaceTops RX2 (rmN 3) 3 := C
  refine j_iconst (v := 0) C dX2_findPlaceTops_0 (by decide) ?_
  refine j_istore_n C dX2_findPlaceTops_1 rfl (by decide) rfl ?_
  obtain ⟨n, hw⟩ := hw
  exact J.sub (X2_findPlaceTops_l2_ok C K ho_v0 hr_g1 ho_g1 hr_g2 ho_g2 hr_g3 ho_g3 hr_g4 ho_g4 hr_g5 ho_g5 hr_g6 ho_g6 n 0 D hw) [1, 0] rfl
/-! X2_findTops -/
def X2_findTops_l43_b (G : Shp) (post : Dat → Prop) (v0 : Nat) (g1 : Nat) (g2 : Nat) (g3 : Nat) (k7 : Int32 → Dat → Prop) (rec : Int32 → Int32 → Dat → Prop) (v1 : Int32) (v2 : Int32) (D : Dat) : Prop := (((D.1 v0 11) ≤ v2 → (vp_in v1 (G.2.2.1 g3) ∧ ∃ y2, G.2.2.2 g3 v1.toNatClampNeg = some y2 ∧ isO G y2 0 ∧ X6_settle_wp G D g1 y2 (fun D6 => (vp_in v1 (G.2.2.1 g3) ∧ ∃ y8, G.2.2.2 g3 v1.toNatClampNeg = some y8 ∧ isO G y8 0 ∧ X2_cell_wp G D6 v0 v1 v1 (fun r11 D12 => ∃ y13, r11 = some y13 ∧ (isO G y13 0 ∧ X0_toLong_wp G D12 y13 (fun r15 D16 => X0_divide_wp G D16 y8 r15 (fun r17 D18 => k7 (v1 + (-1)) D18)))))))) ∧ (¬ ((D.1 v0 11) ≤ v2) → X2_cell_wp G D v0 v1 v2 (fun r19 D20 => ∃ y21, r19 = some y21 ∧ (vp_in v2 (G.2.2.1 g3) ∧ ∃ y23, G.2.2.2 g3 v2.toNatClampNeg = some y23 ∧ isO G y23 0 ∧ X6_addProduct_wp G D20 g1 y21 y23 1 (fun D27 => rec v1 (v2 + 1) D27)))))
def X2_findTops_l43 (G : Shp) (post : Dat → Prop) (v0 : Nat) (g1 : Nat) (g2 : Nat) (g3 : Nat) (k7 : Int32 → Dat → Prop) : Nat → Int32 → Int32 → Dat → Prop
  | 0 => fun _ _ _ => False
  | n + 1 => X2_findTops_l43_b G post v0 g1 g2 g3 k7 (X2_findTops_l43 G post v0 g1 g2 g3 k7 n)
set_option maxRecDepth 100000 in
set_option maxHeartbeats 4000000 in
theorem X2_findTops_l43_ok {κ : Ctx} {G : Shp} {post : Dat → Prop} {v0 : Nat} {g1 : Nat} {g2 : Nat} {g3 : Nat} (C : Cx κ cX2_findTops RX2 (rmN 3) 3) (K : RtV κ cX2_findTops G post) (ho_v0 : isO G v0 2) (hr_g1 : G.2.2.2 v0 0 = some g1) (ho_g1 : isO G g1 6) (hr_g2 : G.2.2.2 v0 8 = some g2) (ho_g2 : isO G g2 0) (hr_g3 : G.2.2.2 v0 6 = some g3) (ho_g3 : isO G g3 14) {k7 : Int32 → Dat → Prop} (hk7 : ∀ (v1 : Int32) (D : Dat), k7 v1 D → J κ 0 0 G D 7 [(0, .ref v0), (1, .int v1)] []) : ∀ (n : Nat) (v1 : Int32) (v2 : Int32) (D : Dat), X2_findTops_l43 G post v0 g1 g2 g3 k7 n v1 v2 D → J κ 0 0 G D 43 [(0, .ref v0), (1, .int v1), (2, .int v2)] [] := by
  intro n
  induction n with
  | zero => intro v1 v2 D hw; exact hw.elim
  | succ n ih =>
    intro v1 v2 D hw
    have hw : X2_findTops_l43_b G post v0 g1 g2 g3 k7 (X2_findTops_l43 G post v0 g1 g2 g3 k7 n) v1 v2 D := hw
    unfold X2_findTops_l43_b at hw
    refine j_iload_n C dX2_findTops_43 rfl 2 rfl ?_
    refine j_aload_n C dX2_findTops_44 rfl 0 rfl ?_
    refine gf_2_11 C ho_v0 k_159 dX2_findTops_45 ?_
    refine j_icmp_ge (tgt := 77) C dX2_findTops_48 (by decide) (fun hc => ?_) (fun hc => ?_)
    · have hw := hw.1 hc
      refine j_aload_n C dX2_findTops_77 rfl 0 rfl ?_
      refine gf_2_0 C ho_v0 hr_g1 k_146 dX2_findTops_78 ?_
      refine j_aload_n C dX2_findTops_81 rfl 0 rfl ?_
      refine gf_2_6 C ho_v0 hr_g3 k_152 dX2_findTops_82 ?_
      refine j_iload_n C dX2_findTops_85 rfl 1 rfl ?_
      obtain ⟨hi1, hw⟩ := hw
      obtain ⟨y2, hr3, ho4, hw⟩ := hw
      refine j_aaldBig C ho_g3 hi1 hr3 dX2_findTops_86 ?_
      refine j_cVV (As := [.ref y2]) (st := []) C (X6_settle_ok κ.2.1 G D g1 y2 _ hw) ho_g1 rfl k_503 mv_X6_settle ⟨by decide, by decide⟩ ⟨rfl, rfl⟩ rfl rfl (Nat.le_of_ble_eq_true rfl) ⟨Nat.zero_le _, Nat.zero_le _⟩ dX2_findTops_87 (fun D6 hw => ?_)
      refine j_aload_n C dX2_findTops_90 rfl 0 rfl ?_
      refine gf_2_6 C ho_v0 hr_g3 k_152 dX2_findTops_91 ?_
      refine j_iload_n C dX2_findTops_94 rfl 1 rfl ?_
      obtain ⟨hi7, hw⟩ := hw
      obtain ⟨y8, hr9, ho10, hw⟩ := hw
      refine j_aaldBig C ho_g3 hi7 hr9 dX2_findTops_95 ?_
      refine j_aload_n C dX2_findTops_96 rfl 0 rfl ?_
      refine j_iload_n C dX2_findTops_97 rfl 1 rfl ?_
      refine j_iload_n C dX2_findTops_98 rfl 1 rfl ?_
      refine j_cVQ (As := [.int v1, .int v1]) (st := [.ref y8]) C (X2_cell_ok κ.2.1 G D6 v0 v1 v1 _ hw) ho_v0 rfl k_473 mv_X2_cell ⟨by decide, by decide⟩ ⟨rfl, rfl⟩ rfl rfl (Nat.le_of_ble_eq_true rfl) ⟨Nat.zero_le _, Nat.zero_le _⟩ dX2_findTops_99 (fun r11 D12 hw => ?_)
      obtain ⟨y13, rfl, hw⟩ := hw
      show J κ 0 0 G D12 102 [(0, .ref v0), (1, .int v1), (2, .int v2)] [.ref y13, .ref y8]
      obtain ⟨ho14, hw⟩ := hw
      refine j_cVL (As := []) (st := [.ref y8]) C (X0_toLong_ok κ.2.1 G D12 y13 _ hw) ho14 rfl k_485 mv_X0_toLong ⟨by decide, by decide⟩ ⟨rfl, rfl⟩ rfl rfl (Nat.le_of_ble_eq_true rfl) ⟨Nat.zero_le _, Nat.zero_le _⟩ dX2_findTops_102 (fun r15 D16 hw => ?_)
      refine j_cVL (As := [.long r15]) (st := []) C (X0_divide_ok κ.2.1 G D16 y8 r15 _ hw) ho10 rfl k_519 mv_X0_divide ⟨by decide, by decide⟩ ⟨rfl, rfl⟩ rfl rfl (Nat.le_of_ble_eq_true rfl) ⟨Nat.zero_le _, Nat.zero_le _⟩ dX2_findTops_105 (fun r17 D18 hw => ?_)
      refine j_pop2L C dX2_findTops_108 rfl ?_
      refine j_iinc (v := v1 + (-1)) C dX2_findTops_109 1 rfl rfl (by decide) rfl ?_
      refine j_goto (tgt := 7) C dX2_findTops_112 (by decide) ?_
      exact J.sub (hk7 (v1 + (-1)) D18 hw) [1, 0] rfl
    · have hw := hw.2 hc
      refine j_aload_n C dX2_findTops_51 rfl 0 rfl ?_
      refine gf_2_0 C ho_v0 hr_g1 k_146 dX2_findTops_52 ?_
      refine j_aload_n C dX2_findTops_55 rfl 0 rfl ?_
      refine j_iload_n C dX2_findTops_56 rfl 1 rfl ?_
      refine j_iload_n C dX2_findTops_57 rfl 2 rfl ?_
      refine j_cVQ (As := [.int v1, .int v2]) (st := [.ref g1]) C (X2_cell_ok κ.2.1 G D v0 v1 v2 _ hw) ho_v0 rfl k_473 mv_X2_cell ⟨by decide, by decide⟩ ⟨rfl, rfl⟩ rfl rfl (Nat.le_of_ble_eq_true rfl) ⟨Nat.zero_le _, Nat.zero_le _⟩ dX2_findTops_58 (fun r19 D20 hw => ?_)
      obtain ⟨y21, rfl, hw⟩ := hw
      show J κ 0 0 G D20 61 [(0, .ref v0), (1, .int v1), (2, .int v2)] [.ref y21, .ref g1]
      refine j_aload_n C dX2_findTops_61 rfl 0 rfl ?_
      refine gf_2_6 C ho_v0 hr_g3 k_152 dX2_findTops_62 ?_
      refine j_iload_n C dX2_findTops_65 rfl 2 rfl ?_
      obtain ⟨hi22, hw⟩ := hw
      obtain ⟨y23, hr24, ho25, hw⟩ := hw
      refine j_aaldBig C ho_g3 hi22 hr24 dX2_findTops_66 ?_
      refine j_iconst (v := 1) C dX2_findTops_67 (by decide) ?_
      refine j_cVV (As := [.ref y21, .ref y23, .int 1]) (st := []) C (X6_addProduct_ok κ.2.1 G D20 g1 y21 y23 1 _ hw) ho_g1 rfl k_498 mv_X6_addProduct ⟨by decide, by decide⟩ ⟨rfl, rfl⟩ rfl rfl (Nat.le_of_ble_eq_true rfl) ⟨Nat.zero_le _, Nat.zero_le _⟩ dX2_findTops_68 (fun D27 hw => ?_)
      refine j_iinc (v := v2 + 1) C dX2_findTops_71 2 rfl rfl (by decide) rfl ?_
      refine j_goto (tgt := 43) C dX2_findTops_74 (by decide) ?_
      exact J.sub (ih v1 (v2 + 1) D27 hw) [1, 2, 0] rfl
def X2_findTops_l7_b (G : Shp) (post : Dat → Prop) (v0 : Nat) (g1 : Nat) (g2 : Nat) (g3 : Nat) (rec : Int32 → Dat → Prop) (v1 : Int32) (D : Dat) : Prop := ((v1 < 0 → post D) ∧ (¬ (v1 < 0) → X6_clear_wp G D g1 (fun D2 => X2_cell_wp G D2 v0 v1 (D2.1 v0 11) (fun r3 D4 => ∃ y5, r3 = some y5 ∧ X6_addProduct_wp G D4 g1 g2 y5 0 (fun D7 => ∃ n, X2_findTops_l43 G post v0 g1 g2 g3 rec n v1 (v1 + 1) D7)))))
def X2_findTops_l7 (G : Shp) (post : Dat → Prop) (v0 : Nat) (g1 : Nat) (g2 : Nat) (g3 : Nat) : Nat → Int32 → Dat → Prop
  | 0 => fun _ _ => False
  | n + 1 => X2_findTops_l7_b G post v0 g1 g2 g3 (X2_findTops_l7 G post v0 g1 g2 g3 n)
set_option maxRecDepth 100000 in
set_option maxHeartbeats 4000000 in
theorem X2_findTops_l7_ok {κ : Ctx} {G : Shp} {post : Dat → Prop} {v0 : Nat} {g1 : Nat} {g2 : Nat} {g3 : Nat} (C : Cx κ cX2_findTops RX2 (rmN 3) 3) (K : RtV κ cX2_findTops G post) (ho_v0 : isO G v0 2) (hr_g1 : G.2.2.2 v0 0 = some g1) (ho_g1 : isO G g1 6) (hr_g2 : G.2.2.2 v0 8 = some g2) (ho_g2 : isO G g2 0) (hr_g3 : G.2.2.2 v0 6 = some g3) (ho_g3 : isO G g3 14) : ∀ (n : Nat) (v1 : Int32) (D : Dat), X2_findTops_l7 G post v0 g1 g2 g3 n v1 D → J κ 0 0 G D 7 [(0, .ref v0), (1, .int v1)] [] := by
  intro n
  induction n with
  | zero => intro v1 D hw; exact hw.elim
  | succ n ih =>
    intro v1 D hw
    have hw : X2_findTops_l7_b G post v0 g1 g2 g3 (X2_findTops_l7 G post v0 g1 g2 g3 n) v1 D := hw
    unfold X2_findTops_l7_b at hw
    refine j_iload_n C dX2_findTops_7 rfl 1 rfl ?_
    refine j_if_lt (tgt := 115) C dX2_findTops_8 (by decide) (fun hc => ?_) (fun hc => ?_)
    · have hw := hw.1 hc
      exact K _ _ _ dX2_findTops_115 hw
    · have hw := hw.2 hc
      refine j_aload_n C dX2_findTops_11 rfl 0 rfl ?_
      refine gf_2_0 C ho_v0 hr_g1 k_146 dX2_findTops_12 ?_
      refine j_cVV (As := []) (st := []) C (X6_clear_ok κ.2.1 G D g1 _ hw) ho_g1 rfl k_493 mv_X6_clear ⟨by decide, by decide⟩ ⟨rfl, rfl⟩ rfl rfl (Nat.le_of_ble_eq_true rfl) ⟨Nat.zero_le _, Nat.zero_le _⟩ dX2_findTops_15 (fun D2 hw => ?_)
      refine j_aload_n C dX2_findTops_18 rfl 0 rfl ?_
      refine gf_2_0 C ho_v0 hr_g1 k_146 dX2_findTops_19 ?_
      refine j_aload_n C dX2_findTops_22 rfl 0 rfl ?_
      refine gf_2_8 C ho_v0 hr_g2 k_154 dX2_findTops_23 ?_
      refine j_aload_n C dX2_findTops_26 rfl 0 rfl ?_
      refine j_iload_n C dX2_findTops_27 rfl 1 rfl ?_
      refine j_aload_n C dX2_findTops_28 rfl 0 rfl ?_
      refine gf_2_11 C ho_v0 k_159 dX2_findTops_29 ?_
      refine j_cVQ (As := [.int v1, .int (D2.1 v0 11)]) (st := [.ref g2, .ref g1]) C (X2_cell_ok κ.2.1 G D2 v0 v1 (D2.1 v0 11) _ hw) ho_v0 rfl k_473 mv_X2_cell ⟨by decide, by decide⟩ ⟨rfl, rfl⟩ rfl rfl (Nat.le_of_ble_eq_true rfl) ⟨Nat.zero_le _, Nat.zero_le _⟩ dX2_findTops_32 (fun r3 D4 hw => ?_)
      obtain ⟨y5, rfl, hw⟩ := hw
      show J κ 0 0 G D4 35 [(0, .ref v0), (1, .int v1)] [.ref y5, .ref g2, .ref g1]
      refine j_iconst (v := 0) C dX2_findTops_35 (by decide) ?_
      refine j_cVV (As := [.ref g2, .ref y5, .int 0]) (st := []) C (X6_addProduct_ok κ.2.1 G D4 g1 g2 y5 0 _ hw) ho_g1 rfl k_498 mv_X6_addProduct ⟨by decide, by decide⟩ ⟨rfl, rfl⟩ rfl rfl (Nat.le_of_ble_eq_true rfl) ⟨Nat.zero_le _, Nat.zero_le _⟩ dX2_findTops_36 (fun D7 hw => ?_)
      refine j_iload_n C dX2_findTops_39 rfl 1 rfl ?_
      refine j_iconst (v := 1) C dX2_findTops_40 (by decide) ?_
      refine j_iadd C dX2_findTops_41 ?_
      refine j_istore_n C dX2_findTops_42 rfl (by decide) rfl ?_
      obtain ⟨n, hw⟩ := hw
      exact J.sub (X2_findTops_l43_ok C K ho_v0 hr_g1 ho_g1 hr_g2 ho_g2 hr_g3 ho_g3 ih n v1 (v1 + 1) D7 hw) [1, 2, 0] rfl
def X2_findTops_wp (G : Shp) (D : Dat) (v0 : Nat) (post : Dat → Prop) : Prop := isO G v0 2 ∧ ∃ g1, G.2.2.2 v0 0 = some g1 ∧ isO G g1 6 ∧ ∃ g2, G.2.2.2 v0 8 = some g2 ∧ isO G g2 0 ∧ ∃ g3, G.2.2.2 v0 6 = some g3 ∧ isO G g3 14 ∧ ∃ n, X2_findTops_l7 G post v0 g1 g2 g3 n ((D.1 v0 11) - 1) D
set_option maxRecDepth 100000 in
set_option maxHeartbeats 4000000 in
theorem X2_findTops_ok (l : Launch) (G : Shp) (D : Dat) (v0 : Nat) (post : Dat → Prop) (hw : X2_findTops_wp G D v0 post) : CtV l yX2_findTops cX2_findTops 3 (rmN 3) [.ref v0] G D post := by
  obtain ⟨ho_v0, g1, hr_g1, ho_g1, g2, hr_g2, ho_g2, g3, hr_g3, ho_g3, hw⟩ := hw
  refine ctV_of (by decide) rfl (Nat.le_of_ble_eq_true rfl) ?_
  intro κ hκ C K
  subst hκ
  have C : Cx κ cX2_findTops RX2 (rmN 3) 3 := C
  refine j_aload_n C dX2_findTops_0 rfl 0 rfl ?_
  refine gf_2_11 C ho_v0 k_159 dX2_findTops_1 ?_
  refine j_iconst (v := 1) C dX2_findTops_4 (by decide) ?_
  refine j_isub C dX2_findTops_5 ?_
  refine j_istore_n C dX2_findTops_6 rfl (by decide) rfl ?_
  obtain ⟨n, hw⟩ := hw
  exact J.sub (X2_findTops_l7_ok C K ho_v0 hr_g1 ho_g1 hr_g2 ho_g2 hr_g3 ho_g3 n ((D.1 v0 11) - 1) D hw) [1, 0] rfl
/-! X2_layModel -/
def X2_layModel_j107 (G : Shp) (post : Dat → Prop) (v0 : Nat) (v1 : Nat) (g1 : Nat) (g2 : Nat) (k84 : Int32 → Dat → Prop) (v2 : Int32) (D : Dat) : Prop := k84 (v2 + 1) D
set_option maxRecDepth 100000 in
set_option maxHeartbeats 4000000 in
theorem X2_layModel_j107_ok {κ : Ctx} {G : Shp} {post : Dat → Prop} {v0 : Nat} {v1 : Nat} {g1 : Nat} {g2 : Nat} (C : Cx κ cX2_layModel RX2 (rmN 3) 3) (K : RtV κ cX2_layModel G post) (ho_v0 : isO G v0 2) (ho_v1 : isO G v1 3) (hr_g1 : G.2.2.2 v1 3 = some g1) (ho_g1 : isO G g1 7) (hr_g2 : G.2.2.2 v1 4 = some g2) (ho_g2 : isO G g2 16) {k84 : Int32 → Dat → Prop} (hk84 : ∀ (v2 : Int32) (D : Dat), k84 v2 D → J κ 0 0 G D 84 [(0, .ref v0), (1, .ref v1), (2, .int v2)] []) (v2 : Int32) (D : Dat) (hw : X2_layModel_j107 G post v0 v1 g1 g2 k84 v2 D) : J κ 0 0 G D 107 [(0, .ref v0), (1, .ref v1), (2, .int v2)] [] := by
  unfold X2_layModel_j107 at hw
  refine j_iinc (v := v2 + 1) C dX2_layModel_107 2 rfl rfl (by decide) rfl ?_
  refine j_goto (tgt := 84) C dX2_layModel_110 (by decide) ?_
  exact J.sub (hk84 (v2 + 1) D hw) [1, 2, 0] rfl
def X2_layModel_l84_b (G : Shp) (post : Dat → Prop) (v0 : Nat) (v1 : Nat) (g1 : Nat) (g2 : Nat) (rec : Int32 → Dat → Prop) (v2 : Int32) (D : Dat) : Prop := ((2 ≤ v2 → post D) ∧ (¬ (2 ≤ v2) → X3_hasFeast_wp G D v1 v2 (fun r1 D2 => ((r1 = 0 → X2_layModel_j107 G post v0 v1 g1 g2 rec v2 D2) ∧ (¬ (r1 = 0) → (vp_in v2 (G.2.2.1 g2) ∧ ∃ y4, G.2.2.2 g2 v2.toNatClampNeg = some y4 ∧ isO G y4 7 ∧ X2_layFeast_wp G D2 v0 y4 (fun D8 => X2_layModel_j107 G post v0 v1 g1 g2 rec v2 D8)))))))
def X2_layModel_l84 (G : Shp) (post : Dat → Prop) (v0 : Nat) (v1 : Nat) (g1 : Nat) (g2 : Nat) : Nat → Int32 → Dat → Prop
  | 0 => fun _ _ => False
  | n + 1 => X2_layModel_l84_b G post v0 v1 g1 g2 (X2_layModel_l84 G post v0 v1 g1 g2 n)
set_option maxRecDepth 100000 in
set_option maxHeartbeats 4000000 in
theorem X2_layModel_l84_ok {κ : Ctx} {G : Shp} {post : Dat → Prop} {v0 : Nat} {v1 : Nat} {g1 : Nat} {g2 : Nat} (C : Cx κ cX2_layModel RX2 (rmN 3) 3) (K : RtV κ cX2_layModel G post) (ho_v0 : isO G v0 2) (ho_v1 : isO G v1 3) (hr_g1 : G.2.2.2 v1 3 = some g1) (ho_g1 : isO G g1 7) (hr_g2 : G.2.2.2 v1 4 = some g2) (ho_g2 : isO G g2 16) : ∀ (n : Nat) (v2 : Int32) (D : Dat), X2_layModel_l84 G post v0 v1 g1 g2 n v2 D → J κ 0 0 G D 84 [(0, .ref v0), (1, .ref v1), (2, .int v2)] [] := by
  intro n
  induction n with
  | zero => intro v2 D hw; exact hw.elim
  | succ n ih =>
    intro v2 D hw
    have hw : X2_layModel_l84_b G post v0 v1 g1 g2 (X2_layModel_l84 G post v0 v1 g1 g2 n) v2 D := hw
    unfold X2_layModel_l84_b at hw
    refine j_iload_n C dX2_layModel_84 rfl 2 rfl ?_
    refine j_iconst (v := 2) C dX2_layModel_85 (by decide) ?_
    refine j_icmp_ge (tgt := 113) C dX2_layModel_86 (by decide) (fun hc => ?_) (fun hc => ?_)
    · have hw := hw.1 hc
      exact K _ _ _ dX2_layModel_113 hw
    · have hw := hw.2 hc
      refine j_aload_n C dX2_layModel_89 rfl 1 rfl ?_
      refine j_iload_n C dX2_layModel_90 rfl 2 rfl ?_
      refine j_cVI (As := [.int v2]) (st := []) C (X3_hasFeast_ok κ.2.1 G D v1 v2 _ hw) ho_v1 rfl k_444 mv_X3_hasFeast ⟨by decide, by decide⟩ ⟨rfl, rfl⟩ rfl rfl (Nat.le_of_ble_eq_true rfl) ⟨Nat.zero_le _, Nat.zero_le _⟩ dX2_layModel_91 (fun r1 D2 hw => ?_)
      refine j_if_eq (tgt := 107) C dX2_layModel_94 (by decide) (fun hc => ?_) (fun hc => ?_)
      · have hw := hw.1 hc
        exact J.sub (X2_layModel_j107_ok C K ho_v0 ho_v1 hr_g1 ho_g1 hr_g2 ho_g2 ih v2 D2 hw) [0, 1, 2] rfl
      · have hw := hw.2 hc
        refine j_aload_n C dX2_layModel_97 rfl 0 rfl ?_
        refine j_aload_n C dX2_layModel_98 rfl 1 rfl ?_
        refine gf_3_4 C ho_v1 hr_g2 k_95 dX2_layModel_99 ?_
        refine j_iload_n C dX2_layModel_102 rfl 2 rfl ?_
        obtain ⟨hi3, hw⟩ := hw
        obtain ⟨y4, hr5, ho6, hw⟩ := hw
        refine j_aaldTick C ho_g2 hi3 hr5 dX2_layModel_103 ?_
        refine j_cVV (As := [.ref y4]) (st := []) C (X2_layFeast_ok κ.2.1 G D2 v0 y4 _ hw) ho_v0 rfl k_445 mv_X2_layFeast ⟨by decide, by decide⟩ ⟨rfl, rfl⟩ rfl rfl (Nat.le_of_ble_eq_true rfl) ⟨Nat.zero_le _, Nat.zero_le _⟩ dX2_layModel_104 (fun D8 hw => ?_)
        exact J.sub (X2_layModel_j107_ok C K ho_v0 ho_v1 hr_g1 ho_g1 hr_g2 ho_g2 ih v2 D8 hw) [0, 1, 2] rfl
def X2_layModel_j68 (G : Shp) (post : Dat → Prop) (v0 : Nat) (v1 : Nat) (g1 : Nat) (g2 : Nat) (k46 : Int32 → Dat → Prop) (v2 : Int32) (D : Dat) : Prop := k46 (v2 + 1) D
set_option maxRecDepth 100000 in
set_option maxHeartbeats 4000000 in
theorem X2_layModel_j68_ok {κ : Ctx} {G : Shp} {post : Dat → Prop} {v0 : Nat} {v1 : Nat} {g1 : Nat} {g2 : Nat} (C : Cx κ cX2_layModel RX2 (rmN 3) 3) (K : RtV κ cX2_layModel G post) (ho_v0 : isO G v0 2) (ho_v1 : isO G v1 3) (hr_g1 : G.2.2.2 v1 3 = some g1) (ho_g1 : isO G g1 7) (hr_g2 : G.2.2.2 v1 4 = some g2) (ho_g2 : isO G g2 16) {k46 : Int32 → Dat → Prop} (hk46 : ∀ (v2 : Int32) (D : Dat), k46 v2 D → J κ 0 0 G D 46 [(0, .ref v0), (1, .ref v1), (2, .int v2)] []) (v2 : Int32) (D : Dat) (hw : X2_layModel_j68 G post v0 v1 g1 g2 k46 v2 D) : J κ 0 0 G D 68 [(0, .ref v0), (1, .ref v1), (2, .int v2)] [] := by
  unfold X2_layModel_j68 at hw
  refine j_iinc (v := v2 + 1) C dX2_layModel_68 2 rfl rfl (by decide) rfl ?_
  refine j_goto (tgt := 46) C dX2_layModel_71 (by decide) ?_
  exact J.sub (hk46 (v2 + 1) D hw) [1, 2, 0] rfl
def X2_layModel_l46_b (G : Shp) (post : Dat → Prop) (v0 : Nat) (v1 : Nat) (g1 : Nat) (g2 : Nat) (rec : Int32 → Dat → Prop) (v2 : Int32) (D : Dat) : Prop := ((40 ≤ v2 → ∃ n, X2_layModel_l84 G post v0 v1 g1 g2 n 0 (dI D v0 13 (D.1 v0 11))) ∧ (¬ (40 ≤ v2) → X7_has_wp G D g1 v2 (fun r1 D2 => ((r1 = 0 → X2_layModel_j68 G post v0 v1 g1 g2 rec v2 D2) ∧ (¬ (r1 = 0) → X2_layStep_wp G D2 v0 v2 (fun D4 => X2_layModel_j68 G post v0 v1 g1 g2 rec v2 D4))))))
def X2_layModel_l46 (G : Shp) (post : Dat → Prop) (v0 : Nat) (v1 : Nat) (g1 : Nat) (g2 : Nat) : Nat → Int32 → Dat → Prop
  | 0 => fun _ _ => False
  | n + 1 => X2_layModel_l46_b G post v0 v1 g1 g2 (X2_layModel_l46 G post v0 v1 g1 g2 n)
set_option maxRecDepth 100000 in
set_option maxHeartbeats 4000000 in
theorem X2_layModel_l46_ok {κ : Ctx} {G : Shp} {post : Dat → Prop} {v0 : Nat} {v1 : Nat} {g1 : Nat} {g2 : Nat} (C : Cx κ cX2_layModel RX2 (rmN 3) 3) (K : RtV κ cX2_layModel G post) (ho_v0 : isO G v0 2) (ho_v1 : isO G v1 3) (hr_g1 : G.2.2.2 v1 3 = some g1) (ho_g1 : isO G g1 7) (hr_g2 : G.2.2.2 v1 4 = some g2) (ho_g2 : isO G g2 16) : ∀ (n : Nat) (v2 : Int32) (D : Dat), X2_layModel_l46 G post v0 v1 g1 g2 n v2 D → J κ 0 0 G D 46 [(0, .ref v0), (1, .ref v1), (2, .int v2)] [] := by
  intro n
  induction n with
  | zero => intro v2 D hw; exact hw.elim
  | succ n ih =>
    intro v2 D hw
    have hw : X2_layModel_l46_b G post v0 v1 g1 g2 (X2_layModel_l46 G post v0 v1 g1 g2 n) v2 D := hw
    unfold X2_layModel_l46_b at hw
    refine j_iload_n C dX2_layModel_46 rfl 2 rfl ?_
    refine j_bipush (v := 40) C dX2_layModel_47 (by decide) ?_
    refine j_icmp_ge (tgt := 74) C dX2_layModel_49 (by decide) (fun hc => ?_) (fun hc => ?_)
    · have hw := hw.1 hc
      refine j_aload_n C dX2_layModel_74 rfl 0 rfl ?_
      refine j_aload_n C dX2_layModel_75 rfl 0 rfl ?_
      refine gf_2_11 C ho_v0 k_159 dX2_layModel_76 ?_
      refine pf_2_13 C ho_v0 k_162 dX2_layModel_79 ?_
      refine j_iconst (v := 0) C dX2_layModel_82 (by decide) ?_
      refine j_istore_n C dX2_layModel_83 rfl (by decide) rfl ?_
      obtain ⟨n, hw⟩ := hw
      exact J.sub (X2_layModel_l84_ok C K ho_v0 ho_v1 hr_g1 ho_g1 hr_g2 ho_g2 n 0 (dI D v0 13 (D.1 v0 11)) hw) [1, 2, 0] rfl
    · have hw := hw.2 hc
      refine j_aload_n C dX2_layModel_52 rfl 1 rfl ?_
      refine gf_3_3 C ho_v1 hr_g1 k_92 dX2_layModel_53 ?_
      refine j_iload_n C dX2_layModel_56 rfl 2 rfl ?_
      refine j_cVI (As := [.int v2]) (st := []) C (X7_has_ok κ.2.1 G D g1 v2 _ hw) ho_g1 rfl k_439 mv_X7_has ⟨by decide, by decide⟩ ⟨rfl, rfl⟩ rfl rfl (Nat.le_of_ble_eq_true rfl) ⟨Nat.zero_le _, Nat.zero_le _⟩ dX2_layModel_57 (fun r1 D2 hw => ?_)
      refine j_if_eq (tgt := 68) C dX2_layModel_60 (by decide) (fun hc => ?_) (fun hc => ?_)
      · have hw := hw.1 hc
        exact J.sub (X2_layModel_j68_ok C K ho_v0 ho_v1 hr_g1 ho_g1 hr_g2 ho_g2 ih v2 D2 hw) [0, 1, 2] rfl
      · have hw := hw.2 hc
        refine j_aload_n C dX2_layModel_63 rfl 0 rfl ?_
        refine j_iload_n C dX2_layModel_64 rfl 2 rfl ?_
        refine j_cVV (As := [.int v2]) (st := []) C (X2_layStep_ok κ.2.1 G D2 v0 v2 _ hw) ho_v0 rfl k_440 mv_X2_layStep ⟨by decide, by decide⟩ ⟨rfl, rfl⟩ rfl rfl (Nat.le_of_ble_eq_true rfl) ⟨Nat.zero_le _, Nat.zero_le _⟩ dX2_layModel_65 (fun D4 hw => ?_)
        exact J.sub (X2_layModel_j68_ok C K ho_v0 ho_v1 hr_g1 ho_g1 hr_g2 ho_g2 ih v2 D4 hw) [0, 1, 2] rfl
def X2_layModel_j44 (G : Shp) (post : Dat → Prop) (v0 : Nat) (v1 : Nat) (g1 : Nat) (g2 : Nat) (D : Dat) : Prop := ∃ n, X2_layModel_l46 G post v0 v1 g1 g2 n 1 D
set_option maxRecDepth 100000 in
set_option maxHeartbeats 4000000 in
theorem X2_layModel_j44_ok {κ : Ctx} {G : Shp} {post : Dat → Prop} {v0 : Nat} {v1 : Nat} {g1 : Nat} {g2 : Nat} (C : Cx κ cX2_layModel RX2 (rmN 3) 3) (K : RtV κ cX2_layModel G post) (ho_v0 : isO G v0 2) (ho_v1 : isO G v1 3) (hr_g1 : G.2.2.2 v1 3 = some g1) (ho_g1 : isO G g1 7) (hr_g2 : G.2.2.2 v1 4 = some g2) (ho_g2 : isO G g2 16) (D : Dat) (hw : X2_layModel_j44 G post v0 v1 g1 g2 D) : J κ 0 0 G D 44 [(0, .ref v0), (1, .ref v1)] [] := by
  unfold X2_layModel_j44 at hw
  refine j_iconst (v := 1) C dX2_layModel_44 (by decide) ?_
  refine j_istore_n C dX2_layModel_45 rfl (by decide) rfl ?_
  obtain ⟨n, hw⟩ := hw
  exact J.sub (X2_layModel_l46_ok C K ho_v0 ho_v1 hr_g1 ho_g1 hr_g2 ho_g2 n 1 D hw) [1, 2, 0] rfl
def X2_layModel_j25 (G : Shp) (post : Dat → Prop) (v0 : Nat) (v1 : Nat) (g1 : Nat) (g2 : Nat) (s0 : Int32) (s1 : Nat) (D : Dat) : Prop := (isO G s1 2 ∧ ((((dI (dI D s1 12 s0) v0 11 0).1 v1 6) = 0 → X2_layModel_j44 G post v0 v1 g1 g2 (dI (dI D s1 12 s0) v0 11 0)) ∧ (¬ (((dI (dI D s1 12 s0) v0 11 0).1 v1 6) = 0) → X2_layRamp_wp G (dI (dI D s1 12 s0) v0 11 0) v0 (fun D3 => X2_layModel_j44 G post v0 v1 g1 g2 D3))))
set_option maxRecDepth 100000 in
set_option maxHeartbeats 4000000 in
theorem X2_layModel_j25_ok {κ : Ctx} {G : Shp} {post : Dat → Prop} {v0 : Nat} {v1 : Nat} {g1 : Nat} {g2 : Nat} (C : Cx κ cX2_layModel RX2 (rmN 3) 3) (K : RtV κ cX2_layModel G post) (ho_v0 : isO G v0 2) (ho_v1 : isO G v1 3) (hr_g1 : G.2.2.2 v1 3 = some g1) (ho_g1 : isO G g1 7) (hr_g2 : G.2.2.2 v1 4 = some g2) (ho_g2 : isO G g2 16) (s0 : Int32) (s1 : Nat) (D : Dat) (hw : X2_layModel_j25 G post v0 v1 g1 g2 s0 s1 D) : J κ 0 0 G D 25 [(0, .ref v0), (1, .ref v1)] [.int s0, .ref s1] := by
  unfold X2_layModel_j25 at hw
  obtain ⟨ho1, hw⟩ := hw
  refine pf_2_12 C ho1 k_160 dX2_layModel_25 ?_
  refine j_aload_n C dX2_layModel_28 rfl 0 rfl ?_
  refine j_iconst (v := 0) C dX2_layModel_29 (by decide) ?_
  refine pf_2_11 C ho_v0 k_159 dX2_layModel_30 ?_
  refine j_aload_n C dX2_layModel_33 rfl 1 rfl ?_
  refine gf_3_6 C ho_v1 k_100 dX2_layModel_34 ?_
  refine j_if_eq (tgt := 44) C dX2_layModel_37 (by decide) (fun hc => ?_) (fun hc => ?_)
  · have hw := hw.1 hc
    exact J.sub (X2_layModel_j44_ok C K ho_v0 ho_v1 hr_g1 ho_g1 hr_g2 ho_g2 (dI (dI D s1 12 s0) v0 11 0) hw) [0, 1] rfl
  · have hw := hw.2 hc
    refine j_aload_n C dX2_layModel_40 rfl 0 rfl ?_
    refine j_cVV (As := []) (st := []) C (X2_layRamp_ok κ.2.1 G (dI (dI D s1 12 s0) v0 11 0) v0 _ hw) ho_v0 rfl k_435 mv_X2_layRamp ⟨by decide, by decide⟩ ⟨rfl, rfl⟩ rfl rfl (Nat.le_of_ble_eq_true rfl) ⟨Nat.zero_le _, Nat.zero_le _⟩ dX2_layModel_41 (fun D3 hw => ?_)
    exact J.sub (X2_layModel_j44_ok C K ho_v0 ho_v1 hr_g1 ho_g1 hr_g2 ho_g2 D3 hw) [0, 1] rfl
def X2_layModel_wp (G : Shp) (D : Dat) (v0 : Nat) (v1 : Nat) (post : Dat → Prop) : Prop := isO G v0 2 ∧ isO G v1 3 ∧ ∃ g1, G.2.2.2 v1 3 = some g1 ∧ isO G g1 7 ∧ ∃ g2, G.2.2.2 v1 4 = some g2 ∧ isO G g2 16 ∧ ((((dI D v0 10 (mxI 1 (D.1 v1 7))).1 v1 6) = 0 → X2_layModel_j25 G post v0 v1 g1 g2 0 v0 (dI D v0 10 (mxI 1 (D.1 v1 7)))) ∧ (¬ (((dI D v0 10 (mxI 1 (D.1 v1 7))).1 v1 6) = 0) → X2_layModel_j25 G post v0 v1 g1 g2 1 v0 (dI D v0 10 (mxI 1 (D.1 v1 7)))))
set_option maxRecDepth 100000 in
set_option maxHeartbeats 4000000 in
theorem X2_layModel_ok (l : Launch) (G : Shp) (D : Dat) (v0 : Nat) (v1 : Nat) (post : Dat → Prop) (hw : X2_layModel_wp G D v0 v1 post) : CtV l yX2_layModel cX2_layModel 3 (rmN 3) [.ref v0, .ref v1] G D post := by
  obtain ⟨ho_v0, ho_v1, g1, hr_g1, ho_g1, g2, hr_g2, ho_g2, hw⟩ := hw
  refine ctV_of (by decide) rfl (Nat.le_of_ble_eq_true rfl) ?_
  intro κ hκ C K
  subst hκ
  have C : Cx κ cX2_layModel RX2 (rmN 3) 3 := C
  refine j_aload_n C dX2_layModel_0 rfl 0 rfl ?_
  refine j_iconst (v := 1) C dX2_layModel_1 (by decide) ?_
  refine j_aload_n C dX2_layModel_2 rfl 1 rfl ?_
  refine gf_3_7 C ho_v1 k_103 dX2_layModel_3 ?_
  refine j_mxI C k_432 ⟨by decide, Nat.le_of_ble_eq_true rfl⟩ ⟨Nat.zero_le _, Nat.zero_le _⟩ dX2_layModel_6 ?_
  refine pf_2_10 C ho_v0 k_157 dX2_layModel_9 ?_
  refine j_aload_n C dX2_layModel_12 rfl 0 rfl ?_
  refine j_aload_n C dX2_layModel_13 rfl 1 rfl ?_
  refine gf_3_6 C ho_v1 k_100 dX2_layModel_14 ?_
  refine j_if_eq (tgt := 24) C dX2_layModel_17 (by decide) (fun hc => ?_) (fun hc => ?_)
  · have hw := hw.1 hc
    refine j_iconst (v := 0) C dX2_layModel_24 (by decide) ?_
    exact J.sub (X2_layModel_j25_ok C K ho_v0 ho_v1 hr_g1 ho_g1 hr_g2 ho_g2 0 v0 (dI D v0 10 (mxI 1 (D.1 v1 7))) hw) [0, 1] rfl
  · have hw := hw.2 hc
    refine j_iconst (v := 1) C dX2_layModel_20 (by decide) ?_
    refine j_goto (tgt := 25) C dX2_layModel_21 (by decide) ?_
    exact J.sub (X2_layModel_j25_ok C K ho_v0 ho_v1 hr_g1 ho_g1 hr_g2 ho_g2 1 v0 (dI D v0 10 (mxI 1 (D.1 v1 7))) hw) [0, 1] rfl
/-! X2_level -/
def X2_level_wp (G : Shp) (D : Dat) (v0 : Nat) (v1 : Nat) (post : Dat → Prop) : Prop := isO G v0 2 ∧ isO G v1 0 ∧ ∃ g1, G.2.2.2 v0 0 = some g1 ∧ isO G g1 6 ∧ X6_clear_wp G D g1 (fun D2 => X2_addPlaceTops_wp G D2 v0 1 (fun D4 => X6_settle_wp G D4 g1 v1 (fun D6 => post D6)))
set_option maxRecDepth 100000 in
set_option maxHeartbeats 4000000 in
theorem X2_level_ok (l : Launch) (G : Shp) (D : Dat) (v0 : Nat) (v1 : Nat) (post : Dat → Prop) (hw : X2_level_wp G D v0 v1 post) : CtV l yX2_level cX2_level 2 (rmN 3) [.ref v0, .ref v1] G D post := by
  obtain ⟨ho_v0, ho_v1, g1, hr_g1, ho_g1, hw⟩ := hw
  refine ctV_of (by decide) rfl (Nat.le_of_ble_eq_true rfl) ?_
  intro κ hκ C K
  subst hκ
  have C : Cx κ cX2_level RX2 (rmN 3) 2 := C
  refine j_aload_n C dX2_level_0 rfl 0 rfl ?_
  refine gf_2_0 C ho_v0 hr_g1 k_146 dX2_level_1 ?_
  refine j_cVV (As := []) (st := []) C (X6_clear_ok κ.2.1 G D g1 _ hw) ho_g1 rfl k_493 mv_X6_clear ⟨by decide, by decide⟩ ⟨rfl, rfl⟩ rfl rfl (Nat.le_of_ble_eq_true rfl) ⟨Nat.zero_le _, Nat.zero_le _⟩ dX2_level_4 (fun D2 hw => ?_)
  refine j_aload_n C dX2_level_7 rfl 0 rfl ?_
  refine j_lconst (v := 1) C dX2_level_8 (by decide) ?_
  refine j_cVV (As := [.long 1]) (st := []) C (X2_addPlaceTops_ok κ.2.1 G D2 v0 1 _ hw) ho_v0 rfl k_542 mv_X2_addPlaceTops ⟨by decide, by decide⟩ ⟨rfl, rfl⟩ rfl rfl (Nat.le_of_ble_eq_true rfl) ⟨Nat.zero_le _, Nat.zero_le _⟩ dX2_level_9 (fun D4 hw => ?_)
  refine j_aload_n C dX2_level_12 rfl 0 rfl ?_
  refine gf_2_0 C ho_v0 hr_g1 k_146 dX2_level_13 ?_
  refine j_aload_n C dX2_level_16 rfl 1 rfl ?_
  refine j_cVV (As := [.ref v1]) (st := []) C (X6_settle_ok κ.2.1 G D4 g1 v1 _ hw) ho_g1 rfl k_503 mv_X6_settle ⟨by decide, by decide⟩ ⟨rfl, rfl⟩ rfl rfl (Nat.le_of_ble_eq_true rfl) ⟨Nat.zero_le _, Nat.zero_le _⟩ dX2_level_17 (fun D6 hw => ?_)
  exact K _ _ _ dX2_level_20 hw
/-! X2_seasonOf -/
def X2_seasonOf_j44 (G : Shp) (post : Dat → Prop) (v0 : Nat) (v1 : Int32) (v2 : Nat) (g1 : Nat) (g2 : Nat) (D : Dat) : Prop := X6_settle_wp G D g1 v2 (fun D2 => post D2)
set_option maxRecDepth 100000 in
set_option maxHeartbeats 4000000 in
theorem X2_seasonOf_j44_ok {κ : Ctx} {G : Shp} {post : Dat → Prop} {v0 : Nat} {v1 : Int32} {v2 : Nat} {g1 : Nat} {g2 : Nat} (C : Cx κ cX2_seasonOf RX2 (rmN 3) 3) (K : RtV κ cX2_seasonOf G post) (ho_v0 : isO G v0 2) (ho_v2 : isO G v2 0) (hr_g1 : G.2.2.2 v0 0 = some g1) (ho_g1 : isO G g1 6) (hr_g2 : G.2.2.2 v0 7 = some g2) (ho_g2 : isO G g2 14) (D : Dat) (hw : X2_seasonOf_j44 G post v0 v1 v2 g1 g2 D) : J κ 0 0 G D 44 [(0, .ref v0), (2, .ref v2)] [] := by
  unfold X2_seasonOf_j44 at hw
  refine j_aload_n C dX2_seasonOf_44 rfl 0 rfl ?_
  refine gf_2_0 C ho_v0 hr_g1 k_146 dX2_seasonOf_45 ?_
  refine j_aload_n C dX2_seasonOf_48 rfl 1 rfl ?_
  refine j_cVV (As := [.ref v2]) (st := []) C (X6_settle_ok κ.2.1 G D g1 v2 _ hw) ho_g1 rfl k_503 mv_X6_settle ⟨by decide, by decide⟩ ⟨rfl, rfl⟩ rfl rfl (Nat.le_of_ble_eq_true rfl) ⟨Nat.zero_le _, Nat.zero_le _⟩ dX2_seasonOf_49 (fun D2 hw => ?_)
  exact K _ _ _ dX2_seasonOf_52 hw
def X2_seasonOf_wp (G : Shp) (D : Dat) (v0 : Nat) (v1 : Int32) (v2 : Nat) (post : Dat → Prop) : Prop := isO G v0 2 ∧ isO G v2 0 ∧ ∃ g1, G.2.2.2 v0 0 = some g1 ∧ isO G g1 6 ∧ ∃ g2, G.2.2.2 v0 7 = some g2 ∧ isO G g2 14 ∧ X6_clear_wp G D g1 (fun D2 => ((v1 < 0 → X2_seasonOf_j44 G post v0 v1 v2 g1 g2 D2) ∧ (¬ (v1 < 0) → (((D2.1 v0 10) ≤ v1 → X2_seasonOf_j44 G post v0 v1 v2 g1 g2 D2) ∧ (¬ ((D2.1 v0 10) ≤ v1) → (vp_in v1 (G.2.2.1 g2) ∧ ∃ y4, G.2.2.2 g2 v1.toNatClampNeg = some y4 ∧ isO G y4 0 ∧ X6_addTimes_wp G D2 g1 y4 ((D2.1 v0 10).toInt64) (fun D8 => X2_addPlaceTops_wp G D8 v0 (-1) (fun D10 => X2_seasonOf_j44 G post v0 v1 v2 g1 g2 D10))))))))
set_option maxRecDepth 100000 in
set_option maxHeartbeats 4000000 in
theorem X2_seasonOf_ok (l : Launch) (G : Shp) (D : Dat) (v0 : Nat) (v1 : Int32) (v2 : Nat) (post : Dat → Prop) (hw : X2_seasonOf_wp G D v0 v1 v2 post) : CtV l yX2_seasonOf cX2_seasonOf 3 (rmN 3) [.ref v0, .int v1, .ref v2] G D post := by
  obtain ⟨ho_v0, ho_v2, g1, hr_g1, ho_g1, g2, hr_g2, ho_g2, hw⟩ := hw
  refine ctV_of (by decide) rfl (Nat.le_of_ble_eq_true rfl) ?_
  intro κ hκ C K
  subst hκ
  have C : Cx κ cX2_seasonOf RX2 (rmN 3) 3 := C
  refine j_aload_n C dX2_seasonOf_0 rfl 0 rfl ?_
  refine gf_2_0 C ho_v0 hr_g1 k_146 dX2_seasonOf_1 ?_
  refine j_cVV (As := []) (st := []) C (X6_clear_ok κ.2.1 G D g1 _ hw) ho_g1 rfl k_493 mv_X6_clear ⟨by decide, by decide⟩ ⟨rfl, rfl⟩ rfl rfl (Nat.le_of_ble_eq_true rfl) ⟨Nat.zero_le _, Nat.zero_le _⟩ dX2_seasonOf_4 (fun D2 hw => ?_)
  refine j_iload_n C dX2_seasonOf_7 rfl 1 rfl ?_
  refine j_if_lt (tgt := 44) C dX2_seasonOf_8 (by decide) (fun hc => ?_) (fun hc => ?_)
  · have hw := hw.1 hc
    exact J.sub (X2_seasonOf_j44_ok C K ho_v0 ho_v2 hr_g1 ho_g1 hr_g2 ho_g2 D2 hw) [0, 2] rfl
  · have hw := hw.2 hc
    refine j_iload_n C dX2_seasonOf_11 rfl 1 rfl ?_
    refine j_aload_n C dX2_seasonOf_12 rfl 0 rfl ?_
    refine gf_2_10 C ho_v0 k_157 dX2_seasonOf_13 ?_
    refine j_icmp_ge (tgt := 44) C dX2_seasonOf_16 (by decide) (fun hc => ?_) (fun hc => ?_)
    · have hw := hw.1 hc
      exact J.sub (X2_seasonOf_j44_ok C K ho_v0 ho_v2 hr_g1 ho_g1 hr_g2 ho_g2 D2 hw) [0, 2] rfl
    · have hw := hw.2 hc
      refine j_aload_n C dX2_seasonOf_19 rfl 0 rfl ?_
      refine gf_2_0 C ho_v0 hr_g1 k_146 dX2_seasonOf_20 ?_
      refine j_aload_n C dX2_seasonOf_23 rfl 0 rfl ?_
      refine gf_2_7 C ho_v0 hr_g2 k_153 dX2_seasonOf_24 ?_
      refine j_iload_n C dX2_seasonOf_27 rfl 1 rfl ?_
      obtain ⟨hi3, hw⟩ := hw
      obtain ⟨y4, hr5, ho6, hw⟩ := hw
      refine j_aaldBig C ho_g2 hi3 hr5 dX2_seasonOf_28 ?_
      refine j_aload_n C dX2_seasonOf_29 rfl 0 rfl ?_
      refine gf_2_10 C ho_v0 k_157 dX2_seasonOf_30 ?_
      refine j_i2l C dX2_seasonOf_33 ?_
      refine j_cVV (As := [.ref y4, .long ((D2.1 v0 10).toInt64)]) (st := []) C (X6_addTimes_ok κ.2.1 G D2 g1 y4 ((D2.1 v0 10).toInt64) _ hw) ho_g1 rfl k_534 mv_X6_addTimes ⟨by decide, by decide⟩ ⟨rfl, rfl⟩ rfl rfl (Nat.le_of_ble_eq_true rfl) ⟨Nat.zero_le _, Nat.zero_le _⟩ dX2_seasonOf_34 (fun D8 hw => ?_)
      refine j_aload_n C dX2_seasonOf_37 rfl 0 rfl ?_
      refine j_ldc2 (v := (-1)) C k_637 dX2_seasonOf_38 ?_
      refine j_cVV (As := [.long (-1)]) (st := []) C (X2_addPlaceTops_ok κ.2.1 G D8 v0 (-1) _ hw) ho_v0 rfl k_542 mv_X2_addPlaceTops ⟨by decide, by decide⟩ ⟨rfl, rfl⟩ rfl rfl (Nat.le_of_ble_eq_true rfl) ⟨Nat.zero_le _, Nat.zero_le _⟩ dX2_seasonOf_41 (fun D10 hw => ?_)
      exact J.sub (X2_seasonOf_j44_ok C K ho_v0 ho_v2 hr_g1 ho_g1 hr_g2 ho_g2 D10 hw) [0, 2] rfl
