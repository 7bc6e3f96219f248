/-! X6_settle -/
def X6_settle_j86 (G : Shp) (post : Dat → Prop) (v0 : Nat) (v1 : Nat) (g1 : Nat) (g2 : Nat) (v2 : Int32) (D : Dat) : Prop := X0_trim_wp G D v1 v2 (fun D2 => post D2)
set_option maxRecDepth 100000 in
set_option maxHeartbeats 4000000 in
theorem X6_settle_j86_ok {κ : Ctx} {G : Shp} {post : Dat → Prop} {v0 : Nat} {v1 : Nat} {g1 : Nat} {g2 : Nat} (C : Cx κ cX6_settle RX6 (rmN 2) 8) (K : RtV κ cX6_settle G post) (ho_v0 : isO G v0 6) (ho_v1 : isO G v1 0) (hr_g1 : G.2.2.2 v0 0 = some g1) (ho_g1 : isO G g1 12) (hr_g2 : G.2.2.2 v1 0 = some g2) (ho_g2 : isO G g2 12) (v2 : Int32) (D : Dat) (hw : X6_settle_j86 G post v0 v1 g1 g2 v2 D) : J κ 0 0 G D 86 [(1, .ref v1), (2, .int v2)] [] := by
  unfold X6_settle_j86 at hw
  refine j_aload_n C dX6_settle_86 rfl 0 rfl ?_
  refine j_iload_n C dX6_settle_87 rfl 1 rfl ?_
  refine j_cVV (As := [.int v2]) (st := []) C (X0_trim_ok κ.2.1 G D v1 v2 _ hw) ho_v1 rfl k_514 mv_X0_trim ⟨by decide, by decide⟩ ⟨rfl, rfl⟩ rfl rfl (Nat.le_of_ble_eq_true rfl) ⟨Nat.zero_le _, Nat.zero_le _⟩ dX6_settle_88 (fun D2 hw => ?_)
  exact K _ _ _ dX6_settle_91 hw
def X6_settle_j71 (G : Shp) (post : Dat → Prop) (v0 : Nat) (v1 : Nat) (g1 : Nat) (g2 : Nat) (v2 : Int32) (s0 : Int32) (s1 : Nat) (D : Dat) : Prop := (isO G s1 0 ∧ isB s0 ∧ ((((dI D s1 2 s0).1 v1 2) = 0 → X6_settle_j86 G post v0 v1 g1 g2 v2 (dI D s1 2 s0)) ∧ (¬ (((dI D s1 2 s0).1 v1 2) = 0) → X6_turnOver_wp G (dI D s1 2 s0) v1 v2 (fun D4 => X6_settle_j86 G post v0 v1 g1 g2 v2 D4))))
set_option maxRecDepth 100000 in
set_option maxHeartbeats 4000000 in
theorem X6_settle_j71_ok {κ : Ctx} {G : Shp} {post : Dat → Prop} {v0 : Nat} {v1 : Nat} {g1 : Nat} {g2 : Nat} (C : Cx κ cX6_settle RX6 (rmN 2) 8) (K : RtV κ cX6_settle G post) (ho_v0 : isO G v0 6) (ho_v1 : isO G v1 0) (hr_g1 : G.2.2.2 v0 0 = some g1) (ho_g1 : isO G g1 12) (hr_g2 : G.2.2.2 v1 0 = some g2) (ho_g2 : isO G g2 12) (v2 : Int32) (s0 : Int32) (s1 : Nat) (D : Dat) (hw : X6_settle_j71 G post v0 v1 g1 g2 v2 s0 s1 D) : J κ 0 0 G D 71 [(1, .ref v1), (2, .int v2)] [.int s0, .ref s1] := by
  unfold X6_settle_j71 at hw
  obtain ⟨ho1, hw⟩ := hw
  obtain ⟨hb2, hw⟩ := hw
  refine pf_0_2 C ho1 hb2 k_48 dX6_settle_71 ?_
  refine j_aload_n C dX6_settle_74 rfl 0 rfl ?_
  refine gf_0_2 C ho_v1 k_48 dX6_settle_75 ?_
  refine j_if_eq (tgt := 86) C dX6_settle_78 (by decide) (fun hc => ?_) (fun hc => ?_)
  · have hw := hw.1 hc
    exact J.sub (X6_settle_j86_ok C K ho_v0 ho_v1 hr_g1 ho_g1 hr_g2 ho_g2 v2 (dI D s1 2 s0) hw) [0, 1] rfl
  · have hw := hw.2 hc
    refine j_aload_n C dX6_settle_81 rfl 0 rfl ?_
    refine j_iload_n C dX6_settle_82 rfl 1 rfl ?_
    refine j_cSV (As := [.ref v1, .int v2]) (st := []) C (X6_turnOver_ok κ.2.1 G (dI D s1 2 s0) v1 v2 _ hw) k_511 ms_X6_turnOver ⟨by decide, by decide⟩ ⟨rfl, rfl⟩ rfl rfl (Nat.le_of_ble_eq_true rfl) ⟨Nat.zero_le _, Nat.zero_le _⟩ dX6_settle_83 (fun D4 hw => ?_)
    exact J.sub (X6_settle_j86_ok C K ho_v0 ho_v1 hr_g1 ho_g1 hr_g2 ho_g2 v2 D4 hw) [0, 1] rfl
def X6_settle_l17_b (G : Shp) (post : Dat → Prop) (v0 : Nat) (v1 : Nat) (g1 : Nat) (g2 : Nat) (rec : Int32 → Int64 → Int32 → Dat → Prop) (v2 : Int32) (v3 : Int64) (v5 : Int32) (D : Dat) : Prop := ((v2 ≤ v5 → ((0 ≤ v3 → X6_settle_j71 G post v0 v1 g1 g2 v2 0 v1 D) ∧ (¬ (0 ≤ v3) → X6_settle_j71 G post v0 v1 g1 g2 v2 1 v1 D))) ∧ (¬ (v2 ≤ v5) → (vp_in v5 (G.2.2.1 g1) ∧ vp_in v5 (G.2.2.1 g2) ∧ rec v2 (((D.2 g1 v5.toNatClampNeg) + v3) >>> ((27 : Int32).toInt64 &&& 63)) (v5 + 1) (dJ D g2 v5.toNatClampNeg (((D.2 g1 v5.toNatClampNeg) + v3) &&& 134217727)))))
def X6_settle_l17 (G : Shp) (post : Dat → Prop) (v0 : Nat) (v1 : Nat) (g1 : Nat) (g2 : Nat) : Nat → Int32 → Int64 → Int32 → Dat → Prop
  | 0 => fun _ _ _ _ => False
  | n + 1 => X6_settle_l17_b G post v0 v1 g1 g2 (X6_settle_l17 G post v0 v1 g1 g2 n)
set_option maxRecDepth 100000 in
set_option maxHeartbeats 4000000 in
theorem X6_settle_l17_ok {κ : Ctx} {G : Shp} {post : Dat → Prop} {v0 : Nat} {v1 : Nat} {g1 : Nat} {g2 : Nat} (C : Cx κ cX6_settle RX6 (rmN 2) 8) (K : RtV κ cX6_settle G post) (ho_v0 : isO G v0 6) (ho_v1 : isO G v1 0) (hr_g1 : G.2.2.2 v0 0 = some g1) (ho_g1 : isO G g1 12) (hr_g2 : G.2.2.2 v1 0 = some g2) (ho_g2 : isO G g2 12) : ∀ (n : Nat) (v2 : Int32) (v3 : Int64) (v5 : Int32) (D : Dat), X6_settle_l17 G post v0 v1 g1 g2 n v2 v3 v5 D → J κ 0 0 G D 17 [(0, .ref v0), (1, .ref v1), (2, .int v2), (3, .long v3), (5, .int v5)] [] := by
  intro n
  induction n with
  | zero => intro v2 v3 v5 D hw; exact hw.elim
  | succ n ih =>
    intro v2 v3 v5 D hw
    have hw : X6_settle_l17_b G post v0 v1 g1 g2 (X6_settle_l17 G post v0 v1 g1 g2 n) v2 v3 v5 D := hw
    unfold X6_settle_l17_b at hw
    refine j_iload C dX6_settle_17 4 rfl ?_
    refine j_iload_n C dX6_settle_19 rfl 2 rfl ?_
    refine j_icmp_ge (tgt := 59) C dX6_settle_20 (by decide) (fun hc => ?_) (fun hc => ?_)
    · have hw := hw.1 hc
      refine j_aload_n C dX6_settle_59 rfl 1 rfl ?_
      refine j_lload_n C dX6_settle_60 rfl 3 rfl ?_
      refine j_lconst (v := 0) C dX6_settle_61 (by decide) ?_
      refine j_lcmp_ge (tgt := 70) C dX6_settle_62 dX6_settle_63 (by decide) (fun hc => ?_) (fun hc => ?_)
      · have hw := hw.1 hc
        refine j_iconst (v := 0) C dX6_settle_70 (by decide) ?_
        exact J.sub (X6_settle_j71_ok C K ho_v0 ho_v1 hr_g1 ho_g1 hr_g2 ho_g2 v2 0 v1 D hw) [1, 2] rfl
      · have hw := hw.2 hc
        refine j_iconst (v := 1) C dX6_settle_66 (by decide) ?_
        refine j_goto (tgt := 71) C dX6_settle_67 (by decide) ?_
        exact J.sub (X6_settle_j71_ok C K ho_v0 ho_v1 hr_g1 ho_g1 hr_g2 ho_g2 v2 1 v1 D hw) [1, 2] rfl
    · have hw := hw.2 hc
      refine j_aload_n C dX6_settle_23 rfl 0 rfl ?_
      refine gf_6_0 C ho_v0 hr_g1 k_128 dX6_settle_24 ?_
      refine j_iload C dX6_settle_27 4 rfl ?_
      obtain ⟨hi1, hw⟩ := hw
      refine j_lald C ho_g1 hi1 dX6_settle_29 ?_
      refine j_lload_n C dX6_settle_30 rfl 3 rfl ?_
      refine j_ladd C dX6_settle_31 ?_
      refine j_lstore C dX6_settle_32 (by decide) rfl ?_
      refine j_aload_n C dX6_settle_34 rfl 2 rfl ?_
      refine gf_0_0 C ho_v1 hr_g2 k_44 dX6_settle_35 ?_
      refine j_iload C dX6_settle_38 5 rfl ?_
      refine j_lload C dX6_settle_40 0 rfl ?_
      refine j_ldc2 (v := 134217727) C k_510 dX6_settle_42 ?_
      refine j_land C dX6_settle_45 ?_
      obtain ⟨hi2, hw⟩ := hw
      refine j_last C ho_g2 hi2 dX6_settle_46 ?_
      refine j_lload C dX6_settle_47 0 rfl ?_
      refine j_bipush (v := 27) C dX6_settle_49 (by decide) ?_
      refine j_lshr C dX6_settle_51 ?_
      refine j_lstore_n C dX6_settle_52 rfl (by decide) rfl ?_
      refine j_iinc (v := v5 + 1) C dX6_settle_53 5 rfl rfl (by decide) rfl ?_
      refine j_goto (tgt := 17) C dX6_settle_56 (by decide) ?_
      exact J.sub (ih v2 (((D.2 g1 v5.toNatClampNeg) + v3) >>> ((27 : Int32).toInt64 &&& 63)) (v5 + 1) (dJ D g2 v5.toNatClampNeg (((D.2 g1 v5.toNatClampNeg) + v3) &&& 134217727)) hw) [3, 4, 5, 1, 0] rfl
def X6_settle_wp (G : Shp) (D : Dat) (v0 : Nat) (v1 : Nat) (post : Dat → Prop) : Prop := isO G v0 6 ∧ isO G v1 0 ∧ ∃ g1, G.2.2.2 v0 0 = some g1 ∧ isO G g1 12 ∧ ∃ g2, G.2.2.2 v1 0 = some g2 ∧ isO G g2 12 ∧ ∃ n, X6_settle_l17 G post v0 v1 g1 g2 n (mnI ((D.1 v0 1) + 2) 12) 0 0 D
set_option maxRecDepth 100000 in
set_option maxHeartbeats 4000000 in
theorem X6_settle_ok (l : Launch) (G : Shp) (D : Dat) (v0 : Nat) (v1 : Nat) (post : Dat → Prop) (hw : X6_settle_wp G D v0 v1 post) : CtV l yX6_settle cX6_settle 8 (rmN 2) [.ref v0, .ref v1] G D post := by
  obtain ⟨ho_v0, ho_v1, g1, hr_g1, ho_g1, g2, hr_g2, ho_g2, hw⟩ := hw
  refine ctV_of (by decide) rfl (Nat.le_of_ble_eq_true rfl) ?_
  intro κ hκ C K
  subst hκ
  have C : Cx κ cX6_settle RX6 (rmN 2) 8 := C
  refine j_aload_n C dX6_settle_0 rfl 0 rfl ?_
  refine gf_6_1 C ho_v0 k_129 dX6_settle_1 ?_
  refine j_iconst (v := 2) C dX6_settle_4 (by decide) ?_
  refine j_iadd C dX6_settle_5 ?_
  refine j_bipush (v := 12) C dX6_settle_6 (by decide) ?_
  refine j_mnI C k_507 ⟨by decide, Nat.le_of_ble_eq_true rfl⟩ ⟨Nat.zero_le _, Nat.zero_le _⟩ dX6_settle_8 ?_
  refine j_istore_n C dX6_settle_11 rfl (by decide) rfl ?_
  refine j_lconst (v := 0) C dX6_settle_12 (by decide) ?_
  refine j_lstore_n C dX6_settle_13 rfl (by decide) rfl ?_
  refine j_iconst (v := 0) C dX6_settle_14 (by decide) ?_
  refine j_istore C dX6_settle_15 (by decide) rfl ?_
  obtain ⟨n, hw⟩ := hw
  exact J.sub (X6_settle_l17_ok C K ho_v0 ho_v1 hr_g1 ho_g1 hr_g2 ho_g2 n (mnI ((D.1 v0 1) + 2) 12) 0 0 D hw) [3, 4, 2, 1, 0] rfl
/-! X7_drop -/
def X7_drop_wp (G : Shp) (D : Dat) (v0 : Nat) (v1 : Int32) (post : Int32 → Dat → Prop) : Prop := isO G v0 7 ∧ ∃ g1, G.2.2.2 v0 0 = some g1 ∧ isO G g1 13 ∧ X7_has_wp G D v0 v1 (fun r1 D2 => ((¬ r1 = 0 → (vp_in v1 (G.2.2.1 g1) ∧ isB 1 ∧ post 1 (dI (dI D2 g1 v1.toNatClampNeg (vp_nar .boolean 0)) v0 1 (((dI D2 g1 v1.toNatClampNeg (vp_nar .boolean 0)).1 v0 1) - 1)))) ∧ (r1 = 0 → (isB 0 ∧ post 0 D2))))
set_option maxRecDepth 100000 in
set_option maxHeartbeats 4000000 in
theorem X7_drop_ok (l : Launch) (G : Shp) (D : Dat) (v0 : Nat) (v1 : Int32) (post : Int32 → Dat → Prop) (hw : X7_drop_wp G D v0 v1 post) : CtI l yX7_drop cX7_drop 2 .boolean (rmN 2) [.ref v0, .int v1] G D post := by
  obtain ⟨ho_v0, g1, hr_g1, ho_g1, hw⟩ := hw
  refine ctI_of (by decide) rfl (Nat.le_of_ble_eq_true rfl) ?_
  intro κ hκ C K
  subst hκ
  have C : Cx κ cX7_drop RX7 (rmN 2) 2 := C
  refine j_aload_n C dX7_drop_0 rfl 0 rfl ?_
  refine j_iload_n C dX7_drop_1 rfl 1 rfl ?_
  refine j_cVI (As := [.int v1]) (st := []) C (X7_has_ok κ.2.1 G D v0 v1 _ hw) ho_v0 rfl k_341 mv_X7_has ⟨by decide, by decide⟩ ⟨rfl, rfl⟩ rfl rfl (Nat.le_of_ble_eq_true rfl) ⟨Nat.zero_le _, Nat.zero_le _⟩ dX7_drop_2 (fun r1 D2 hw => ?_)
  refine j_if_ne (tgt := 10) C dX7_drop_5 (by decide) (fun hc => ?_) (fun hc => ?_)
  · have hw := hw.1 hc
    refine j_aload_n C dX7_drop_10 rfl 0 rfl ?_
    refine gf_7_0 C ho_v0 hr_g1 k_71 dX7_drop_11 ?_
    refine j_iload_n C dX7_drop_14 rfl 1 rfl ?_
    refine j_iconst (v := 0) C dX7_drop_15 (by decide) ?_
    obtain ⟨hi3, hw⟩ := hw
    refine j_zast C ho_g1 hi3 dX7_drop_16 ?_
    refine j_aload_n C dX7_drop_17 rfl 0 rfl ?_
    refine j_dup C dX7_drop_18 rfl ?_
    refine gf_7_1 C ho_v0 k_72 dX7_drop_19 ?_
    refine j_iconst (v := 1) C dX7_drop_22 (by decide) ?_
    refine j_isub C dX7_drop_23 ?_
    refine pf_7_1 C ho_v0 k_72 dX7_drop_24 ?_
    refine j_iconst (v := 1) C dX7_drop_27 (by decide) ?_
    obtain ⟨hb4, hw⟩ := hw
    exact K _ _ _ _ dX7_drop_28 (isB_n hb4) hw
  · have hw := hw.2 hc
    refine j_iconst (v := 0) C dX7_drop_8 (by decide) ?_
    obtain ⟨hb5, hw⟩ := hw
    exact K _ _ _ _ dX7_drop_9 (isB_n hb5) hw
/-! X8_isStrange -/
def X8_isStrange_j40 (G : Shp) (post : Int32 → Dat → Prop) (v0 : Nat) (v1 : Int32) (v2 : Int32) (s0 : Int32) (s1 : Nat) (D : Dat) : Prop := (isO G s1 8 ∧ X8_give_wp G D s1 s0 (fun r2 D3 => post r2 D3))
set_option maxRecDepth 100000 in
set_option maxHeartbeats 4000000 in
theorem X8_isStrange_j40_ok {κ : Ctx} {G : Shp} {post : Int32 → Dat → Prop} {v0 : Nat} {v1 : Int32} {v2 : Int32} (C : Cx κ cX8_isStrange RX8 (rmN 2) 4) (K : RtI κ cX8_isStrange .int G post) (ho_v0 : isO G v0 8) (s0 : Int32) (s1 : Nat) (D : Dat) (hw : X8_isStrange_j40 G post v0 v1 v2 s0 s1 D) : J κ 0 0 G D 40 [] [.int s0, .ref s1] := by
  unfold X8_isStrange_j40 at hw
  obtain ⟨ho1, hw⟩ := hw
  refine j_cVI (As := [.int s0]) (st := []) C (X8_give_ok κ.2.1 G D s1 s0 _ hw) ho1 rfl k_354 mv_X8_give ⟨by decide, by decide⟩ ⟨rfl, rfl⟩ rfl rfl (Nat.le_of_ble_eq_true rfl) ⟨Nat.zero_le _, Nat.zero_le _⟩ dX8_isStrange_40 (fun r2 D3 hw => ?_)
  exact K _ _ _ _ dX8_isStrange_43 rfl hw
def X8_isStrange_j17 (G : Shp) (post : Int32 → Dat → Prop) (v0 : Nat) (v1 : Int32) (v2 : Int32) (D : Dat) : Prop := X8_giveNone_wp G D v0 1 (fun r1 D2 => post r1 D2)
set_option maxRecDepth 100000 in
set_option maxHeartbeats 4000000 in
theorem X8_isStrange_j17_ok {κ : Ctx} {G : Shp} {post : Int32 → Dat → Prop} {v0 : Nat} {v1 : Int32} {v2 : Int32} (C : Cx κ cX8_isStrange RX8 (rmN 2) 4) (K : RtI κ cX8_isStrange .int G post) (ho_v0 : isO G v0 8) (D : Dat) (hw : X8_isStrange_j17 G post v0 v1 v2 D) : J κ 0 0 G D 17 [(0, .ref v0)] [] := by
  unfold X8_isStrange_j17 at hw
  refine j_aload_n C dX8_isStrange_17 rfl 0 rfl ?_
  refine j_iconst (v := 1) C dX8_isStrange_18 (by decide) ?_
  refine j_cVI (As := [.int 1]) (st := []) C (X8_giveNone_ok κ.2.1 G D v0 1 _ hw) ho_v0 rfl k_349 mv_X8_giveNone ⟨by decide, by decide⟩ ⟨rfl, rfl⟩ rfl rfl (Nat.le_of_ble_eq_true rfl) ⟨Nat.zero_le _, Nat.zero_le _⟩ dX8_isStrange_19 (fun r1 D2 hw => ?_)
  exact K _ _ _ _ dX8_isStrange_22 rfl hw
def X8_isStrange_wp (G : Shp) (D : Dat) (v0 : Nat) (v1 : Int32) (v2 : Int32) (post : Int32 → Dat → Prop) : Prop := isO G v0 8 ∧ X8_rowOf_wp G D v0 v1 (fun r1 D2 => (r1 = none → X8_isStrange_j17 G post v0 v1 v2 D2) ∧ (∀ y3, r1 = some y3 → X8_isTick_wp G D2 v2 (fun r4 D5 => ((¬ r4 = 0 → (isO G y3 3 ∧ ∃ y7, G.2.2.2 y3 2 = some y7 ∧ isO G y7 7 ∧ X7_has_wp G D5 y7 v2 (fun r10 D11 => ((r10 = 0 → X8_isStrange_j40 G post v0 v1 v2 0 v0 D11) ∧ (¬ (r10 = 0) → X8_isStrange_j40 G post v0 v1 v2 1 v0 D11))))) ∧ (r4 = 0 → X8_isStrange_j17 G post v0 v1 v2 D5)))))
set_option maxRecDepth 100000 in
set_option maxHeartbeats 4000000 in
theorem X8_isStrange_ok (l : Launch) (G : Shp) (D : Dat) (v0 : Nat) (v1 : Int32) (v2 : Int32) (post : Int32 → Dat → Prop) (hw : X8_isStrange_wp G D v0 v1 v2 post) : CtI l yX8_isStrange cX8_isStrange 4 .int (rmN 2) [.ref v0, .int v1, .int v2] G D post := by
  obtain ⟨ho_v0, hw⟩ := hw
  refine ctI_of (by decide) rfl (Nat.le_of_ble_eq_true rfl) ?_
  intro κ hκ C K
  subst hκ
  have C : Cx κ cX8_isStrange RX8 (rmN 2) 4 := C
  refine j_aload_n C dX8_isStrange_0 rfl 0 rfl ?_
  refine j_iload_n C dX8_isStrange_1 rfl 1 rfl ?_
  refine j_cVQ (As := [.int v1]) (st := []) C (X8_rowOf_ok κ.2.1 G D v0 v1 _ hw) ho_v0 rfl k_299 mv_X8_rowOf ⟨by decide, by decide⟩ ⟨rfl, rfl⟩ rfl rfl (Nat.le_of_ble_eq_true rfl) ⟨Nat.zero_le _, Nat.zero_le _⟩ dX8_isStrange_2 (fun r1 D2 hw => ?_)
  refine j_astore_nO C dX8_isStrange_5 rfl (by decide) rfl ?_
  refine j_aload_nO C dX8_isStrange_6 rfl 0 rfl ?_
  refine j_ifnull (tgt := 17) C dX8_isStrange_7 (by decide) (fun hc => ?_) (fun y3 hc => ?_)
  · have hw := hw.1 hc
    exact J.sub (X8_isStrange_j17_ok C K ho_v0 D2 hw) [1] rfl
  · replace hw := hw.2 y3 hc
    subst hc
    show J κ 0 0 G D2 10 [(3, .ref y3), (0, .ref v0), (1, .int v1), (2, .int v2)] []
    refine j_iload_n C dX8_isStrange_10 rfl 3 rfl ?_
    refine j_cSI (As := [.int v2]) (st := []) C (X8_isTick_ok κ.2.1 G D2 v2 _ hw) k_303 ms_X8_isTick ⟨by decide, by decide⟩ ⟨rfl, rfl⟩ rfl rfl (Nat.le_of_ble_eq_true rfl) ⟨Nat.zero_le _, Nat.zero_le _⟩ dX8_isStrange_11 (fun r4 D5 hw => ?_)
    refine j_if_ne (tgt := 23) C dX8_isStrange_14 (by decide) (fun hc => ?_) (fun hc => ?_)
    · have hw := hw.1 hc
      refine j_aload_n C dX8_isStrange_23 rfl 1 rfl ?_
      refine j_aload_n C dX8_isStrange_24 rfl 0 rfl ?_
      obtain ⟨ho6, hw⟩ := hw
      obtain ⟨y7, hr8, ho9, hw⟩ := hw
      refine gf_3_2 C ho6 hr8 k_90 dX8_isStrange_25 ?_
      refine j_iload_n C dX8_isStrange_28 rfl 3 rfl ?_
      refine j_cVI (As := [.int v2]) (st := [.ref v0]) C (X7_has_ok κ.2.1 G D5 y7 v2 _ hw) ho9 rfl k_353 mv_X7_has ⟨by decide, by decide⟩ ⟨rfl, rfl⟩ rfl rfl (Nat.le_of_ble_eq_true rfl) ⟨Nat.zero_le _, Nat.zero_le _⟩ dX8_isStrange_29 (fun r10 D11 hw => ?_)
      refine j_if_eq (tgt := 39) C dX8_isStrange_32 (by decide) (fun hc => ?_) (fun hc => ?_)
      · have hw := hw.1 hc
        refine j_iconst (v := 0) C dX8_isStrange_39 (by decide) ?_
        exact J.sub (X8_isStrange_j40_ok C K ho_v0 0 v0 D11 hw) [] rfl
      · have hw := hw.2 hc
        refine j_iconst (v := 1) C dX8_isStrange_35 (by decide) ?_
        refine j_goto (tgt := 40) C dX8_isStrange_36 (by decide) ?_
        exact J.sub (X8_isStrange_j40_ok C K ho_v0 1 v0 D11 hw) [] rfl
    · have hw := hw.2 hc
      exact J.sub (X8_isStrange_j17_ok C K ho_v0 D5 hw) [1] rfl
/-! X8_number -/
def X8_number_j53 (G : Shp) (post : Int32 → Dat → Prop) (v0 : Nat) (v1 : Int32) (v2 : Int32) (s0 : Int32) (D : Dat) : Prop := post s0 D
set_option maxRecDepth 100000 in
set_option maxHeartbeats 4000000 in
theorem X8_number_j53_ok {κ : Ctx} {G : Shp} {post : Int32 → Dat → Prop} {v0 : Nat} {v1 : Int32} {v2 : Int32} (C : Cx κ cX8_number RX8 (rmN 2) 4) (K : RtI κ cX8_number .int G post) (ho_v0 : isO G v0 8) (s0 : Int32) (D : Dat) (hw : X8_number_j53 G post v0 v1 v2 s0 D) : J κ 0 0 G D 53 [] [.int s0] := by
  unfold X8_number_j53 at hw
  exact K _ _ _ _ dX8_number_53 rfl hw
def X8_number_j17 (G : Shp) (post : Int32 → Dat → Prop) (v0 : Nat) (v1 : Int32) (v2 : Int32) (D : Dat) : Prop := X8_giveNone_wp G D v0 1 (fun r1 D2 => post r1 D2)
set_option maxRecDepth 100000 in
set_option maxHeartbeats 4000000 in
theorem X8_number_j17_ok {κ : Ctx} {G : Shp} {post : Int32 → Dat → Prop} {v0 : Nat} {v1 : Int32} {v2 : Int32} (C : Cx κ cX8_number RX8 (rmN 2) 4) (K : RtI κ cX8_number .int G post) (ho_v0 : isO G v0 8) (D : Dat) (hw : X8_number_j17 G post v0 v1 v2 D) : J κ 0 0 G D 17 [(0, .ref v0)] [] := by
  unfold X8_number_j17 at hw
  refine j_aload_n C dX8_number_17 rfl 0 rfl ?_
  refine j_iconst (v := 1) C dX8_number_18 (by decide) ?_
  refine j_cVI (As := [.int 1]) (st := []) C (X8_giveNone_ok κ.2.1 G D v0 1 _ hw) ho_v0 rfl k_349 mv_X8_giveNone ⟨by decide, by decide⟩ ⟨rfl, rfl⟩ rfl rfl (Nat.le_of_ble_eq_true rfl) ⟨Nat.zero_le _, Nat.zero_le _⟩ dX8_number_19 (fun r1 D2 hw => ?_)
  exact K _ _ _ _ dX8_number_22 rfl hw
def X8_number_wp (G : Shp) (D : Dat) (v0 : Nat) (v1 : Int32) (v2 : Int32) (post : Int32 → Dat → Prop) : Prop := isO G v0 8 ∧ X8_rowOf_wp G D v0 v1 (fun r1 D2 => (r1 = none → X8_number_j17 G post v0 v1 v2 D2) ∧ (∀ y3, r1 = some y3 → X8_isTick_wp G D2 v2 (fun r4 D5 => ((¬ r4 = 0 → (isO G y3 3 ∧ ∃ y7, G.2.2.2 y3 1 = some y7 ∧ isO G y7 7 ∧ X7_has_wp G D5 y7 v2 (fun r10 D11 => ((r10 = 0 → X8_giveNone_wp G D11 v0 7 (fun r12 D13 => X8_number_j53 G post v0 v1 v2 r12 D13)) ∧ (¬ (r10 = 0) → (∃ y14, G.2.2.2 y3 0 = some y14 ∧ isO G y14 11 ∧ vp_in v2 (G.2.2.1 y14) ∧ X8_give_wp G D11 v0 (D11.1 y14 v2.toNatClampNeg) (fun r18 D19 => X8_number_j53 G post v0 v1 v2 r18 D19))))))) ∧ (r4 = 0 → X8_number_j17 G post v0 v1 v2 D5)))))
set_option maxRecDepth 100000 in
set_option maxHeartbeats 4000000 in
theorem X8_number_ok (l : Launch) (G : Shp) (D : Dat) (v0 : Nat) (v1 : Int32) (v2 : Int32) (post : Int32 → Dat → Prop) (hw : X8_number_wp G D v0 v1 v2 post) : CtI l yX8_number cX8_number 4 .int (rmN 2) [.ref v0, .int v1, .int v2] G D post := by
  obtain ⟨ho_v0, hw⟩ := hw
  refine ctI_of (by decide) rfl (Nat.le_of_ble_eq_true rfl) ?_
  intro κ hκ C K
  subst hκ
  have C : Cx κ cX8_number RX8 (rmN 2) 4 := C
  refine j_aload_n C dX8_number_0 rfl 0 rfl ?_
  refine j_iload_n C dX8_number_1 rfl 1 rfl ?_
  refine j_cVQ (As := [.int v1]) (st := []) C (X8_rowOf_ok κ.2.1 G D v0 v1 _ hw) ho_v0 rfl k_299 mv_X8_rowOf ⟨by decide, by decide⟩ ⟨rfl, rfl⟩ rfl rfl (Nat.le_of_ble_eq_true rfl) ⟨Nat.zero_le _, Nat.zero_le _⟩ dX8_number_2 (fun r1 D2 hw => ?_)
  refine j_astore_nO C dX8_number_5 rfl (by decide) rfl ?_
  refine j_aload_nO C dX8_number_6 rfl 0 rfl ?_
  refine j_ifnull (tgt := 17) C dX8_number_7 (by decide) (fun hc => ?_) (fun y3 hc => ?_)
  · have hw := hw.1 hc
    exact J.sub (X8_number_j17_ok C K ho_v0 D2 hw) [1] rfl
  · replace hw := hw.2 y3 hc
    subst hc
    show J κ 0 0 G D2 10 [(3, .ref y3), (0, .ref v0), (1, .int v1), (2, .int v2)] []
    refine j_iload_n C dX8_number_10 rfl 3 rfl ?_
    refine j_cSI (As := [.int v2]) (st := []) C (X8_isTick_ok κ.2.1 G D2 v2 _ hw) k_303 ms_X8_isTick ⟨by decide, by decide⟩ ⟨rfl, rfl⟩ rfl rfl (Nat.le_of_ble_eq_true rfl) ⟨Nat.zero_le _, Nat.zero_le _⟩ dX8_number_11 (fun r4 D5 hw => ?_)
    refine j_if_ne (tgt := 23) C dX8_number_14 (by decide) (fun hc => ?_) (fun hc => ?_)
    · have hw := hw.1 hc
      refine j_aload_n C dX8_number_23 rfl 0 rfl ?_
      obtain ⟨ho6, hw⟩ := hw
      obtain ⟨y7, hr8, ho9, hw⟩ := hw
      refine gf_3_1 C ho6 hr8 k_87 dX8_number_24 ?_
      refine j_iload_n C dX8_number_27 rfl 3 rfl ?_
      refine j_cVI (As := [.int v2]) (st := []) C (X7_has_ok κ.2.1 G D5 y7 v2 _ hw) ho9 rfl k_353 mv_X7_has ⟨by decide, by decide⟩ ⟨rfl, rfl⟩ rfl rfl (Nat.le_of_ble_eq_true rfl) ⟨Nat.zero_le _, Nat.zero_le _⟩ dX8_number_28 (fun r10 D11 hw => ?_)
      refine j_if_eq (tgt := 47) C dX8_number_31 (by decide) (fun hc => ?_) (fun hc => ?_)
      · have hw := hw.1 hc
        refine j_aload_n C dX8_number_47 rfl 1 rfl ?_
        refine j_bipush (v := 7) C dX8_number_48 (by decide) ?_
        refine j_cVI (As := [.int 7]) (st := []) C (X8_giveNone_ok κ.2.1 G D11 v0 7 _ hw) ho_v0 rfl k_349 mv_X8_giveNone ⟨by decide, by decide⟩ ⟨rfl, rfl⟩ rfl rfl (Nat.le_of_ble_eq_true rfl) ⟨Nat.zero_le _, Nat.zero_le _⟩ dX8_number_50 (fun r12 D13 hw => ?_)
        exact J.sub (X8_number_j53_ok C K ho_v0 r12 D13 hw) [] rfl
      · have hw := hw.2 hc
        refine j_aload_n C dX8_number_34 rfl 1 rfl ?_
        refine j_aload_n C dX8_number_35 rfl 0 rfl ?_
        obtain ⟨y14, hr15, ho16, hw⟩ := hw
        refine gf_3_0 C ho6 hr15 k_84 dX8_number_36 ?_
        refine j_iload_n C dX8_number_39 rfl 3 rfl ?_
        obtain ⟨hi17, hw⟩ := hw
        refine j_iald C ho16 hi17 dX8_number_40 ?_
        refine j_cVI (As := [.int (D11.1 y14 v2.toNatClampNeg)]) (st := []) C (X8_give_ok κ.2.1 G D11 v0 (D11.1 y14 v2.toNatClampNeg) _ hw) ho_v0 rfl k_354 mv_X8_give ⟨by decide, by decide⟩ ⟨rfl, rfl⟩ rfl rfl (Nat.le_of_ble_eq_true rfl) ⟨Nat.zero_le _, Nat.zero_le _⟩ dX8_number_41 (fun r18 D19 hw => ?_)
        refine j_goto (tgt := 53) C dX8_number_44 (by decide) ?_
        exact J.sub (X8_number_j53_ok C K ho_v0 r18 D19 hw) [] rfl
    · have hw := hw.2 hc
      exact J.sub (X8_number_j17_ok C K ho_v0 D5 hw) [1] rfl
/-! X8_on -/
def X8_on_j86 (G : Shp) (post : Int32 → Dat → Prop) (v0 : Nat) (v1 : Int32) (v2 : Int32) (v3 : Int32) (s0 : Int32) (D : Dat) : Prop := (isB s0 ∧ post s0 D)
set_option maxRecDepth 100000 in
set_option maxHeartbeats 4000000 in
theorem X8_on_j86_ok {κ : Ctx} {G : Shp} {post : Int32 → Dat → Prop} {v0 : Nat} {v1 : Int32} {v2 : Int32} {v3 : Int32} (C : Cx κ cX8_on RX8 (rmN 2) 6) (K : RtI κ cX8_on .boolean G post) (ho_v0 : isO G v0 8) (s0 : Int32) (D : Dat) (hw : X8_on_j86 G post v0 v1 v2 v3 s0 D) : J κ 0 0 G D 86 [] [.int s0] := by
  unfold X8_on_j86 at hw
  obtain ⟨hb1, hw⟩ := hw
  exact K _ _ _ _ dX8_on_86 (isB_n hb1) hw
def X8_on_j19 (G : Shp) (post : Int32 → Dat → Prop) (v0 : Nat) (v1 : Int32) (v2 : Int32) (v3 : Int32) (D : Dat) : Prop := X8_refuse_wp G D v0 1 (fun r1 D2 => (isB r1 ∧ post r1 D2))
set_option maxRecDepth 100000 in
set_option maxHeartbeats 4000000 in
theorem X8_on_j19_ok {κ : Ctx} {G : Shp} {post : Int32 → Dat → Prop} {v0 : Nat} {v1 : Int32} {v2 : Int32} {v3 : Int32} (C : Cx κ cX8_on RX8 (rmN 2) 6) (K : RtI κ cX8_on .boolean G post) (ho_v0 : isO G v0 8) (D : Dat) (hw : X8_on_j19 G post v0 v1 v2 v3 D) : J κ 0 0 G D 19 [(0, .ref v0)] [] := by
  unfold X8_on_j19 at hw
  refine j_aload_n C dX8_on_19 rfl 0 rfl ?_
  refine j_iconst (v := 1) C dX8_on_20 (by decide) ?_
  refine j_cVI (As := [.int 1]) (st := []) C (X8_refuse_ok κ.2.1 G D v0 1 _ hw) ho_v0 rfl k_306 mv_X8_refuse ⟨by decide, by decide⟩ ⟨rfl, rfl⟩ rfl rfl (Nat.le_of_ble_eq_true rfl) ⟨Nat.zero_le _, Nat.zero_le _⟩ dX8_on_21 (fun r1 D2 hw => ?_)
  obtain ⟨hb3, hw⟩ := hw
  exact K _ _ _ _ dX8_on_24 (isB_n hb3) hw
def X8_on_wp (G : Shp) (D : Dat) (v0 : Nat) (v1 : Int32) (v2 : Int32) (v3 : Int32) (post : Int32 → Dat → Prop) : Prop := isO G v0 8 ∧ X8_rowOf_wp G D v0 v1 (fun r1 D2 => (r1 = none → X8_on_j19 G post v0 v1 v2 v3 D2) ∧ (∀ y3, r1 = some y3 → X8_isTick_wp G D2 v3 (fun r4 D5 => ((¬ r4 = 0 → (isO G y3 3 ∧ X3_hasFeast_wp G D5 y3 v2 (fun r7 D8 => ((¬ r7 = 0 → (∃ y9, G.2.2.2 y3 4 = some y9 ∧ isO G y9 16 ∧ vp_in v2 (G.2.2.1 y9) ∧ ∃ y13, G.2.2.2 y9 v2.toNatClampNeg = some y13 ∧ isO G y13 7 ∧ (((D8.1 y13 1) < 8 → X7_add_wp G D8 y13 v3 (fun r16 D17 => ((r16 = 0 → X8_refuse_wp G D17 v0 4 (fun r18 D19 => X8_on_j86 G post v0 v1 v2 v3 r18 D19)) ∧ (¬ (r16 = 0) → X8_done_wp G D17 v0 (fun r20 D21 => X8_on_j86 G post v0 v1 v2 v3 r20 D21))))) ∧ (¬ ((D8.1 y13 1) < 8) → X8_refuse_wp G D8 v0 3 (fun r22 D23 => (isB r22 ∧ post r22 D23)))))) ∧ (r7 = 0 → X8_refuse_wp G D8 v0 5 (fun r25 D26 => (isB r25 ∧ post r25 D26))))))) ∧ (r4 = 0 → X8_on_j19 G post v0 v1 v2 v3 D5)))))
set_option maxRecDepth 100000 in
set_option maxHeartbeats 4000000 in
theorem X8_on_ok (l : Launch) (G : Shp) (D : Dat) (v0 : Nat) (v1 : Int32) (v2 : Int32) (v3 : Int32) (post : Int32 → Dat → Prop) (hw : X8_on_wp G D v0 v1 v2 v3 post) : CtI l yX8_on cX8_on 6 .boolean (rmN 2) [.ref v0, .int v1, .int v2, .int v3] G D post := by
  obtain ⟨ho_v0, hw⟩ := hw
  refine ctI_of (by decide) rfl (Nat.le_of_ble_eq_true rfl) ?_
  intro κ hκ C K
  subst hκ
  have C : Cx κ cX8_on RX8 (rmN 2) 6 := C
  refine j_aload_n C dX8_on_0 rfl 0 rfl ?_
  refine j_iload_n C dX8_on_1 rfl 1 rfl ?_
  refine j_cVQ (As := [.int v1]) (st := []) C (X8_rowOf_ok κ.2.1 G D v0 v1 _ hw) ho_v0 rfl k_299 mv_X8_rowOf ⟨by decide, by decide⟩ ⟨rfl, rfl⟩ rfl rfl (Nat.le_of_ble_eq_true rfl) ⟨Nat.zero_le _, Nat.zero_le _⟩ dX8_on_2 (fun r1 D2 hw => ?_)
  refine j_astoreO C dX8_on_5 (by decide) rfl ?_
  refine j_aloadO C dX8_on_7 0 rfl ?_
  refine j_ifnull (tgt := 19) C dX8_on_9 (by decide) (fun hc => ?_) (fun y3 hc => ?_)
  · have hw := hw.1 hc
    exact J.sub (X8_on_j19_ok C K ho_v0 D2 hw) [1] rfl
  · replace hw := hw.2 y3 hc
    subst hc
    show J κ 0 0 G D2 12 [(4, .ref y3), (0, .ref v0), (1, .int v1), (2, .int v2), (3, .int v3)] []
    refine j_iload_n C dX8_on_12 rfl 4 rfl ?_
    refine j_cSI (As := [.int v3]) (st := []) C (X8_isTick_ok κ.2.1 G D2 v3 _ hw) k_303 ms_X8_isTick ⟨by decide, by decide⟩ ⟨rfl, rfl⟩ rfl rfl (Nat.le_of_ble_eq_true rfl) ⟨Nat.zero_le _, Nat.zero_le _⟩ dX8_on_13 (fun r4 D5 hw => ?_)
    refine j_if_ne (tgt := 25) C dX8_on_16 (by decide) (fun hc => ?_) (fun hc => ?_)
    · have hw := hw.1 hc
      refine j_aload C dX8_on_25 0 rfl ?_
      refine j_iload_n C dX8_on_27 rfl 3 rfl ?_
      obtain ⟨ho6, hw⟩ := hw
      refine j_cVI (As := [.int v2]) (st := []) C (X3_hasFeast_ok κ.2.1 G D5 y3 v2 _ hw) ho6 rfl k_392 mv_X3_hasFeast ⟨by decide, by decide⟩ ⟨rfl, rfl⟩ rfl rfl (Nat.le_of_ble_eq_true rfl) ⟨Nat.zero_le _, Nat.zero_le _⟩ dX8_on_28 (fun r7 D8 hw => ?_)
      refine j_if_ne (tgt := 40) C dX8_on_31 (by decide) (fun hc => ?_) (fun hc => ?_)
      · have hw := hw.1 hc
        refine j_aload C dX8_on_40 0 rfl ?_
        obtain ⟨y9, hr10, ho11, hw⟩ := hw
        refine gf_3_4 C ho6 hr10 k_96 dX8_on_42 ?_
        refine j_iload_n C dX8_on_45 rfl 3 rfl ?_
        obtain ⟨hi12, hw⟩ := hw
        obtain ⟨y13, hr14, ho15, hw⟩ := hw
        refine j_aaldTick C ho11 hi12 hr14 dX8_on_46 ?_
        refine j_astore C dX8_on_47 (by decide) rfl ?_
        refine j_aload C dX8_on_49 0 rfl ?_
        refine gf_7_1 C ho15 k_74 dX8_on_51 ?_
        refine j_bipush (v := 8) C dX8_on_54 (by decide) ?_
        refine j_icmp_lt (tgt := 65) C dX8_on_56 (by decide) (fun hc => ?_) (fun hc => ?_)
        · have hw := hw.1 hc
          refine j_aload C dX8_on_65 0 rfl ?_
          refine j_iload_n C dX8_on_67 rfl 5 rfl ?_
          refine j_cVI (As := [.int v3]) (st := []) C (X7_add_ok κ.2.1 G D8 y13 v3 _ hw) ho15 rfl k_379 mv_X7_add ⟨by decide, by decide⟩ ⟨rfl, rfl⟩ rfl rfl (Nat.le_of_ble_eq_true rfl) ⟨Nat.zero_le _, Nat.zero_le _⟩ dX8_on_68 (fun r16 D17 hw => ?_)
          refine j_if_eq (tgt := 81) C dX8_on_71 (by decide) (fun hc => ?_) (fun hc => ?_)
          · have hw := hw.1 hc
            refine j_aload_n C dX8_on_81 rfl 2 rfl ?_
            refine j_iconst (v := 4) C dX8_on_82 (by decide) ?_
            refine j_cVI (As := [.int 4]) (st := []) C (X8_refuse_ok κ.2.1 G D17 v0 4 _ hw) ho_v0 rfl k_306 mv_X8_refuse ⟨by decide, by decide⟩ ⟨rfl, rfl⟩ rfl rfl (Nat.le_of_ble_eq_true rfl) ⟨Nat.zero_le _, Nat.zero_le _⟩ dX8_on_83 (fun r18 D19 hw => ?_)
            exact J.sub (X8_on_j86_ok C K ho_v0 r18 D19 hw) [] rfl
          · have hw := hw.2 hc
            refine j_aload_n C dX8_on_74 rfl 2 rfl ?_
            refine j_cVI (As := []) (st := []) C (X8_done_ok κ.2.1 G D17 v0 _ hw) ho_v0 rfl k_325 mv_X8_done ⟨by decide, by decide⟩ ⟨rfl, rfl⟩ rfl rfl (Nat.le_of_ble_eq_true rfl) ⟨Nat.zero_le _, Nat.zero_le _⟩ dX8_on_75 (fun r20 D21 hw => ?_)
            refine j_goto (tgt := 86) C dX8_on_78 (by decide) ?_
            exact J.sub (X8_on_j86_ok C K ho_v0 r20 D21 hw) [] rfl
        · have hw := hw.2 hc
          refine j_aload_n C dX8_on_59 rfl 2 rfl ?_
          refine j_iconst (v := 3) C dX8_on_60 (by decide) ?_
          refine j_cVI (As := [.int 3]) (st := []) C (X8_refuse_ok κ.2.1 G D8 v0 3 _ hw) ho_v0 rfl k_306 mv_X8_refuse ⟨by decide, by decide⟩ ⟨rfl, rfl⟩ rfl rfl (Nat.le_of_ble_eq_true rfl) ⟨Nat.zero_le _, Nat.zero_le _⟩ dX8_on_61 (fun r22 D23 hw => ?_)
          obtain ⟨hb24, hw⟩ := hw
          exact K _ _ _ _ dX8_on_64 (isB_n hb24) hw
      · have hw := hw.2 hc
        refine j_aload_n C dX8_on_34 rfl 1 rfl ?_
        refine j_iconst (v := 5) C dX8_on_35 (by decide) ?_
        refine j_cVI (As := [.int 5]) (st := []) C (X8_refuse_ok κ.2.1 G D8 v0 5 _ hw) ho_v0 rfl k_306 mv_X8_refuse ⟨by decide, by decide⟩ ⟨rfl, rfl⟩ rfl rfl (Nat.le_of_ble_eq_true rfl) ⟨Nat.zero_le _, Nat.zero_le _⟩ dX8_on_36 (fun r25 D26 hw => ?_)
        obtain ⟨hb27, hw⟩ := hw
        exact K _ _ _ _ dX8_on_39 (isB_n hb27) hw
    · have hw := hw.2 hc
      exact J.sub (X8_on_j19_ok C K ho_v0 D5 hw) [1] rfl
/-! X8_out -/
def X8_out_wp (G : Shp) (D : Dat) (v0 : Nat) (v1 : Int32) (post : Int32 → Dat → Prop) : Prop := isO G v0 8 ∧ ∃ g1, G.2.2.2 v0 4 = some g1 ∧ isO G g1 4 ∧ X4_byteAt_wp G D g1 v1 (fun r1 D2 => post r1 D2)
set_option maxRecDepth 100000 in
set_option maxHeartbeats 4000000 in
theorem X8_out_ok (l : Launch) (G : Shp) (D : Dat) (v0 : Nat) (v1 : Int32) (post : Int32 → Dat → Prop) (hw : X8_out_wp G D v0 v1 post) : CtI l yX8_out cX8_out 2 .int (rmN 2) [.ref v0, .int v1] G D post := by
  obtain ⟨ho_v0, g1, hr_g1, ho_g1, hw⟩ := hw
  refine ctI_of (by decide) rfl (Nat.le_of_ble_eq_true rfl) ?_
  intro κ hκ C K
  subst hκ
  have C : Cx κ cX8_out RX8 (rmN 2) 2 := C
  refine j_aload_n C dX8_out_0 rfl 0 rfl ?_
  refine gf_8_4 C ho_v0 hr_g1 k_255 dX8_out_1 ?_
  refine j_iload_n C dX8_out_4 rfl 1 rfl ?_
  refine j_cVI (As := [.int v1]) (st := []) C (X4_byteAt_ok κ.2.1 G D g1 v1 _ hw) ho_g1 rfl k_287 mv_X4_byteAt ⟨by decide, by decide⟩ ⟨rfl, rfl⟩ rfl rfl (Nat.le_of_ble_eq_true rfl) ⟨Nat.zero_le _, Nat.zero_le _⟩ dX8_out_5 (fun r1 D2 hw => ?_)
  exact K _ _ _ _ dX8_out_8 rfl hw
/-! X8_plain -/
def X8_plain_wp (G : Shp) (D : Dat) (v0 : Nat) (v1 : Int32) (post : Int32 → Dat → Prop) : Prop := isO G v0 8 ∧ X8_rowOf_wp G D v0 v1 (fun r1 D2 => (r1 = none → X8_refuse_wp G D2 v0 1 (fun r4 D5 => (isB r4 ∧ post r4 D5))) ∧ (∀ y3, r1 = some y3 → (isO G y3 3 ∧ X3_clearStepsAndFeasts_wp G D2 y3 (fun D9 => X8_done_wp G D9 v0 (fun r10 D11 => (isB r10 ∧ post r10 D11))))))
set_option maxRecDepth 100000 in
set_option maxHeartbeats 4000000 in
theorem X8_plain_ok (l : Launch) (G : Shp) (D : Dat) (v0 : Nat) (v1 : Int32) (post : Int32 → Dat → Prop) (hw : X8_plain_wp G D v0 v1 post) : CtI l yX8_plain cX8_plain 3 .boolean (rmN 2) [.ref v0, .int v1] G D post := by
  obtain ⟨ho_v0, hw⟩ := hw
  refine ctI_of (by decide) rfl (Nat.le_of_ble_eq_true rfl) ?_
  intro κ hκ C K
  subst hκ
  have C : Cx κ cX8_plain RX8 (rmN 2) 3 := C
  refine j_aload_n C dX8_plain_0 rfl 0 rfl ?_
  refine j_iload_n C dX8_plain_1 rfl 1 rfl ?_
  refine j_cVQ (As := [.int v1]) (st := []) C (X8_rowOf_ok κ.2.1 G D v0 v1 _ hw) ho_v0 rfl k_299 mv_X8_rowOf ⟨by decide, by decide⟩ ⟨rfl, rfl⟩ rfl rfl (Nat.le_of_ble_eq_true rfl) ⟨Nat.zero_le _, Nat.zero_le _⟩ dX8_plain_2 (fun r1 D2 hw => ?_)
  refine j_astore_nO C dX8_plain_5 rfl (by decide) rfl ?_
  refine j_aload_nO C dX8_plain_6 rfl 0 rfl ?_
  refine j_ifnonnull (tgt := 16) C dX8_plain_7 (by decide) (fun y3 hc => ?_) (fun hc => ?_)
  · replace hw := hw.2 y3 hc
    subst hc
    show J κ 0 0 G D2 16 [(2, .ref y3), (0, .ref v0), (1, .int v1)] []
    refine j_aload_n C dX8_plain_16 rfl 0 rfl ?_
    obtain ⟨ho7, hw⟩ := hw
    refine j_cVV (As := []) (st := []) C (X3_clearStepsAndFeasts_ok κ.2.1 G D2 y3 _ hw) ho7 rfl k_400 mv_X3_clearStepsAndFeasts ⟨by decide, by decide⟩ ⟨rfl, rfl⟩ rfl rfl (Nat.le_of_ble_eq_true rfl) ⟨Nat.zero_le _, Nat.zero_le _⟩ dX8_plain_17 (fun D9 hw => ?_)
    refine j_aload_n C dX8_plain_20 rfl 1 rfl ?_
    refine j_cVI (As := []) (st := []) C (X8_done_ok κ.2.1 G D9 v0 _ hw) ho_v0 rfl k_325 mv_X8_done ⟨by decide, by decide⟩ ⟨rfl, rfl⟩ rfl rfl (Nat.le_of_ble_eq_true rfl) ⟨Nat.zero_le _, Nat.zero_le _⟩ dX8_plain_21 (fun r10 D11 hw => ?_)
    obtain ⟨hb12, hw⟩ := hw
    exact K _ _ _ _ dX8_plain_24 (isB_n hb12) hw
  · have hw := hw.1 hc
    refine j_aload_n C dX8_plain_10 rfl 1 rfl ?_
    refine j_iconst (v := 1) C dX8_plain_11 (by decide) ?_
    refine j_cVI (As := [.int 1]) (st := []) C (X8_refuse_ok κ.2.1 G D2 v0 1 _ hw) ho_v0 rfl k_306 mv_X8_refuse ⟨by decide, by decide⟩ ⟨rfl, rfl⟩ rfl rfl (Nat.le_of_ble_eq_true rfl) ⟨Nat.zero_le _, Nat.zero_le _⟩ dX8_plain_12 (fun r4 D5 hw => ?_)
    obtain ⟨hb6, hw⟩ := hw
    exact K _ _ _ _ dX8_plain_15 (isB_n hb6) hw
/-! X8_step -/
def X8_step_j73 (G : Shp) (post : Int32 → Dat → Prop) (v0 : Nat) (v1 : Int32) (v2 : Int32) (s0 : Int32) (D : Dat) : Prop := (isB s0 ∧ post s0 D)
set_option maxRecDepth 100000 in
set_option maxHeartbeats 4000000 in
theorem X8_step_j73_ok {κ : Ctx} {G : Shp} {post : Int32 → Dat → Prop} {v0 : Nat} {v1 : Int32} {v2 : Int32} (C : Cx κ cX8_step RX8 (rmN 2) 4) (K : RtI κ cX8_step .boolean G post) (ho_v0 : isO G v0 8) (s0 : Int32) (D : Dat) (hw : X8_step_j73 G post v0 v1 v2 s0 D) : J κ 0 0 G D 73 [] [.int s0] := by
  unfold X8_step_j73 at hw
  obtain ⟨hb1, hw⟩ := hw
  exact K _ _ _ _ dX8_step_73 (isB_n hb1) hw
def X8_step_j17 (G : Shp) (post : Int32 → Dat → Prop) (v0 : Nat) (v1 : Int32) (v2 : Int32) (D : Dat) : Prop := X8_refuse_wp G D v0 1 (fun r1 D2 => (isB r1 ∧ post r1 D2))
set_option maxRecDepth 100000 in
set_option maxHeartbeats 4000000 in
theorem X8_step_j17_ok {κ : Ctx} {G : Shp} {post : Int32 → Dat → Prop} {v0 : Nat} {v1 : Int32} {v2 : Int32} (C : Cx κ cX8_step RX8 (rmN 2) 4) (K : RtI κ cX8_step .boolean G post) (ho_v0 : isO G v0 8) (D : Dat) (hw : X8_step_j17 G post v0 v1 v2 D) : J κ 0 0 G D 17 [(0, .ref v0)] [] := by
  unfold X8_step_j17 at hw
  refine j_aload_n C dX8_step_17 rfl 0 rfl ?_
  refine j_iconst (v := 1) C dX8_step_18 (by decide) ?_
  refine j_cVI (As := [.int 1]) (st := []) C (X8_refuse_ok κ.2.1 G D v0 1 _ hw) ho_v0 rfl k_306 mv_X8_refuse ⟨by decide, by decide⟩ ⟨rfl, rfl⟩ rfl rfl (Nat.le_of_ble_eq_true rfl) ⟨Nat.zero_le _, Nat.zero_le _⟩ dX8_step_19 (fun r1 D2 hw => ?_)
  obtain ⟨hb3, hw⟩ := hw
  exact K _ _ _ _ dX8_step_22 (isB_n hb3) hw
def X8_step_wp (G : Shp) (D : Dat) (v0 : Nat) (v1 : Int32) (v2 : Int32) (post : Int32 → Dat → Prop) : Prop := isO G v0 8 ∧ X8_rowOf_wp G D v0 v1 (fun r1 D2 => (r1 = none → X8_step_j17 G post v0 v1 v2 D2) ∧ (∀ y3, r1 = some y3 → X8_isTick_wp G D2 v2 (fun r4 D5 => ((¬ r4 = 0 → ((¬ v2 = 0 → (isO G y3 3 ∧ ∃ y7, G.2.2.2 y3 3 = some y7 ∧ isO G y7 7 ∧ (((D5.1 y7 1) < 3 → X7_add_wp G D5 y7 v2 (fun r10 D11 => ((r10 = 0 → X8_refuse_wp G D11 v0 4 (fun r12 D13 => X8_step_j73 G post v0 v1 v2 r12 D13)) ∧ (¬ (r10 = 0) → X8_done_wp G D11 v0 (fun r14 D15 => X8_step_j73 G post v0 v1 v2 r14 D15))))) ∧ (¬ ((D5.1 y7 1) < 3) → X8_refuse_wp G D5 v0 3 (fun r16 D17 => (isB r16 ∧ post r16 D17)))))) ∧ (v2 = 0 → X8_refuse_wp G D5 v0 2 (fun r19 D20 => (isB r19 ∧ post r19 D20))))) ∧ (r4 = 0 → X8_step_j17 G post v0 v1 v2 D5)))))
set_option maxRecDepth 100000 in
set_option maxHeartbeats 4000000 in
theorem X8_step_ok (l : Launch) (G : Shp) (D : Dat) (v0 : Nat) (v1 : Int32) (v2 : Int32) (post : Int32 → Dat → Prop) (hw : X8_step_wp G D v0 v1 v2 post) : CtI l yX8_step cX8_step 4 .boolean (rmN 2) [.ref v0, .int v1, .int v2] G D post := by
  obtain ⟨ho_v0, hw⟩ := hw
  refine ctI_of (by decide) rfl (Nat.le_of_ble_eq_true rfl) ?_
  intro κ hκ C K
  subst hκ
  have C : Cx κ cX8_step RX8 (rmN 2) 4 := C
  refine j_aload_n C dX8_step_0 rfl 0 rfl ?_
  refine j_iload_n C dX8_step_1 rfl 1 rfl ?_
  refine j_cVQ (As := [.int v1]) (st := []) C (X8_rowOf_ok κ.2.1 G D v0 v1 _ hw) ho_v0 rfl k_299 mv_X8_rowOf ⟨by decide, by decide⟩ ⟨rfl, rfl⟩ rfl rfl (Nat.le_of_ble_eq_true rfl) ⟨Nat.zero_le _, Nat.zero_le _⟩ dX8_step_2 (fun r1 D2 hw => ?_)
  refine j_astore_nO C dX8_step_5 rfl (by decide) rfl ?_
  refine j_aload_nO C dX8_step_6 rfl 0 rfl ?_
  refine j_ifnull (tgt := 17) C dX8_step_7 (by decide) (fun hc => ?_) (fun y3 hc => ?_)
  · have hw := hw.1 hc
    exact J.sub (X8_step_j17_ok C K ho_v0 D2 hw) [1] rfl
  · replace hw := hw.2 y3 hc
    subst hc
    show J κ 0 0 G D2 10 [(3, .ref y3), (0, .ref v0), (1, .int v1), (2, .int v2)] []
    refine j_iload_n C dX8_step_10 rfl 3 rfl ?_
    refine j_cSI (As := [.int v2]) (st := []) C (X8_isTick_ok κ.2.1 G D2 v2 _ hw) k_303 ms_X8_isTick ⟨by decide, by decide⟩ ⟨rfl, rfl⟩ rfl rfl (Nat.le_of_ble_eq_true rfl) ⟨Nat.zero_le _, Nat.zero_le _⟩ dX8_step_11 (fun r4 D5 hw => ?_)
    refine j_if_ne (tgt := 23) C dX8_step_14 (by decide) (fun hc => ?_) (fun hc => ?_)
    · have hw := hw.1 hc
      refine j_iload_n C dX8_step_23 rfl 3 rfl ?_
      refine j_if_ne (tgt := 33) C dX8_step_24 (by decide) (fun hc => ?_) (fun hc => ?_)
      · have hw := hw.1 hc
        refine j_aload_n C dX8_step_33 rfl 0 rfl ?_
        obtain ⟨ho6, hw⟩ := hw
        obtain ⟨y7, hr8, ho9, hw⟩ := hw
        refine gf_3_3 C ho6 hr8 k_93 dX8_step_34 ?_
        refine gf_7_1 C ho9 k_74 dX8_step_37 ?_
        refine j_iconst (v := 3) C dX8_step_40 (by decide) ?_
        refine j_icmp_lt (tgt := 50) C dX8_step_41 (by decide) (fun hc => ?_) (fun hc => ?_)
        · have hw := hw.1 hc
          refine j_aload_n C dX8_step_50 rfl 0 rfl ?_
          refine gf_3_3 C ho6 hr8 k_93 dX8_step_51 ?_
          refine j_iload_n C dX8_step_54 rfl 3 rfl ?_
          refine j_cVI (As := [.int v2]) (st := []) C (X7_add_ok κ.2.1 G D5 y7 v2 _ hw) ho9 rfl k_379 mv_X7_add ⟨by decide, by decide⟩ ⟨rfl, rfl⟩ rfl rfl (Nat.le_of_ble_eq_true rfl) ⟨Nat.zero_le _, Nat.zero_le _⟩ dX8_step_55 (fun r10 D11 hw => ?_)
          refine j_if_eq (tgt := 68) C dX8_step_58 (by decide) (fun hc => ?_) (fun hc => ?_)
          · have hw := hw.1 hc
            refine j_aload_n C dX8_step_68 rfl 1 rfl ?_
            refine j_iconst (v := 4) C dX8_step_69 (by decide) ?_
            refine j_cVI (As := [.int 4]) (st := []) C (X8_refuse_ok κ.2.1 G D11 v0 4 _ hw) ho_v0 rfl k_306 mv_X8_refuse ⟨by decide, by decide⟩ ⟨rfl, rfl⟩ rfl rfl (Nat.le_of_ble_eq_true rfl) ⟨Nat.zero_le _, Nat.zero_le _⟩ dX8_step_70 (fun r12 D13 hw => ?_)
            exact J.sub (X8_step_j73_ok C K ho_v0 r12 D13 hw) [] rfl
          · have hw := hw.2 hc
            refine j_aload_n C dX8_step_61 rfl 1 rfl ?_
            refine j_cVI (As := []) (st := []) C (X8_done_ok κ.2.1 G D11 v0 _ hw) ho_v0 rfl k_325 mv_X8_done ⟨by decide, by decide⟩ ⟨rfl, rfl⟩ rfl rfl (Nat.le_of_ble_eq_true rfl) ⟨Nat.zero_le _, Nat.zero_le _⟩ dX8_step_62 (fun r14 D15 hw => ?_)
            refine j_goto (tgt := 73) C dX8_step_65 (by decide) ?_
            exact J.sub (X8_step_j73_ok C K ho_v0 r14 D15 hw) [] rfl
        · have hw := hw.2 hc
          refine j_aload_n C dX8_step_44 rfl 1 rfl ?_
          refine j_iconst (v := 3) C dX8_step_45 (by decide) ?_
          refine j_cVI (As := [.int 3]) (st := []) C (X8_refuse_ok κ.2.1 G D5 v0 3 _ hw) ho_v0 rfl k_306 mv_X8_refuse ⟨by decide, by decide⟩ ⟨rfl, rfl⟩ rfl rfl (Nat.le_of_ble_eq_true rfl) ⟨Nat.zero_le _, Nat.zero_le _⟩ dX8_step_46 (fun r16 D17 hw => ?_)
          obtain ⟨hb18, hw⟩ := hw
          exact K _ _ _ _ dX8_step_49 (isB_n hb18) hw
      · have hw := hw.2 hc
        refine j_aload_n C dX8_step_27 rfl 1 rfl ?_
        refine j_iconst (v := 2) C dX8_step_28 (by decide) ?_
        refine j_cVI (As := [.int 2]) (st := []) C (X8_refuse_ok κ.2.1 G D5 v0 2 _ hw) ho_v0 rfl k_306 mv_X8_refuse ⟨by decide, by decide⟩ ⟨rfl, rfl⟩ rfl rfl (Nat.le_of_ble_eq_true rfl) ⟨Nat.zero_le _, Nat.zero_le _⟩ dX8_step_29 (fun r19 D20 hw => ?_)
        obtain ⟨hb21, hw⟩ := hw
        exact K _ _ _ _ dX8_step_32 (isB_n hb21) hw
    · have hw := hw.2 hc
      exact J.sub (X8_step_j17_ok C K ho_v0 D5 hw) [1] rfl
/-! X9_divide -/
def X9_divide_j462 (G : Shp) (post : Dat → Prop) (v0 : Nat) (v1 : Int32) (v2 : Int32) (g1 : Nat) (g2 : Nat) (g3 : Nat) (g4 : Nat) (D : Dat) : Prop := post D
set_option maxRecDepth 100000 in
set_option maxHeartbeats 4000000 in
theorem X9_divide_j462_ok {κ : Ctx} {G : Shp} {post : Dat → Prop} {v0 : Nat} {v1 : Int32} {v2 : Int32} {g1 : Nat} {g2 : Nat} {g3 : Nat} {g4 : Nat} (C : Cx κ cX9_divide RX9 (rmN 2) 7) (K : RtV κ cX9_divide G post) (ho_v0 : isO G v0 9) (hr_g1 : G.2.2.2 v0 1 = some g1) (ho_g1 : isO G g1 11) (hr_g2 : G.2.2.2 v0 3 = some g2) (ho_g2 : isO G g2 11) (hr_g3 : G.2.2.2 v0 4 = some g3) (ho_g3 : isO G g3 11) (hr_g4 : G.2.2.2 v0 5 = some g4) (ho_g4 : isO G g4 11) (D : Dat) (hw : X9_divide_j462 G post v0 v1 v2 g1 g2 g3 g4 D) : J κ 0 0 G D 462 [] [] := by
  unfold X9_divide_j462 at hw
  exact K _ _ _ dX9_divide_462 hw
def X9_divide_l428_b (G : Shp) (post : Dat → Prop) (v0 : Nat) (v1 : Int32) (v2 : Int32) (g1 : Nat) (g2 : Nat) (g3 : Nat) (g4 : Nat) (rec : Dat → Prop) (D : Dat) : Prop := (((D.1 v0 6) ≤ 0 → X9_divide_j462 G post v0 v1 v2 g1 g2 g3 g4 D) ∧ (¬ ((D.1 v0 6) ≤ 0) → (vp_in ((D.1 v0 6) - 1) (G.2.2.1 g2) ∧ ((¬ (D.1 g2 ((D.1 v0 6) - 1).toNatClampNeg) = 0 → X9_divide_j462 G post v0 v1 v2 g1 g2 g3 g4 D) ∧ ((D.1 g2 ((D.1 v0 6) - 1).toNatClampNeg) = 0 → rec (dI D v0 6 ((D.1 v0 6) - 1)))))))
def X9_divide_l428 (G : Shp) (post : Dat → Prop) (v0 : Nat) (v1 : Int32) (v2 : Int32) (g1 : Nat) (g2 : Nat) (g3 : Nat) (g4 : Nat) : Nat → Dat → Prop
  | 0 => fun _ => False
  | n + 1 => X9_divide_l428_b G post v0 v1 v2 g1 g2 g3 g4 (X9_divide_l428 G post v0 v1 v2 g1 g2 g3 g4 n)
set_option maxRecDepth 100000 in
set_option maxHeartbeats 4000000 in
theorem X9_divide_l428_ok {κ : Ctx} {G : Shp} {post : Dat → Prop} {v0 : Nat} {v1 : Int32} {v2 : Int32} {g1 : Nat} {g2 : Nat} {g3 : Nat} {g4 : Nat} (C : Cx κ cX9_divide RX9 (rmN 2) 7) (K : RtV κ cX9_divide G post) (ho_v0 : isO G v0 9) (hr_g1 : G.2.2.2 v0 1 = some g1) (ho_g1 : isO G g1 11) (hr_g2 : G.2.2.2 v0 3 = some g2) (ho_g2 : isO G g2 11) (hr_g3 : G.2.2.2 v0 4 = some g3) (ho_g3 : isO G g3 11) (hr_g4 : G.2.2.2 v0 5 = some g4) (ho_g4 : isO G g4 11) : ∀ (n : Nat) (D : Dat), X9_divide_l428 G post v0 v1 v2 g1 g2 g3 g4 n D → J κ 0 0 G D 428 [(0, .ref v0)] [] := by
  intro n
  induction n with
  | zero => intro D hw; exact hw.elim
  | succ n ih =>
    intro D hw
    have hw : X9_divide_l428_b G post v0 v1 v2 g1 g2 g3 g4 (X9_divide_l428 G post v0 v1 v2 g1 g2 g3 g4 n) D := hw
    unfold X9_divide_l428_b at hw
    refine j_aload_n C dX9_divide_428 rfl 0 rfl ?_
    refine gf_9_6 C ho_v0 k_770 dX9_divide_429 ?_
    refine j_if_le (tgt := 462) C dX9_divide_432 (by decide) (fun hc => ?_) (fun hc => ?_)
    · have hw := hw.1 hc
      exact J.sub (X9_divide_j462_ok C K ho_v0 hr_g1 ho_g1 hr_g2 ho_g2 hr_g3 ho_g3 hr_g4 ho_g4 D hw) [] rfl
    · have hw := hw.2 hc
      refine j_aload_n C dX9_divide_435 rfl 0 rfl ?_
      refine gf_9_3 C ho_v0 hr_g2 k_767 dX9_divide_436 ?_
      refine j_aload_n C dX9_divide_439 rfl 0 rfl ?_
      refine gf_9_6 C ho_v0 k_770 dX9_divide_440 ?_
      refine j_iconst (v := 1) C dX9_divide_443 (by decide) ?_
      refine j_isub C dX9_divide_444 ?_
      obtain ⟨hi1, hw⟩ := hw
      refine j_iald C ho_g2 hi1 dX9_divide_445 ?_
      refine j_if_ne (tgt := 462) C dX9_divide_446 (by decide) (fun hc => ?_) (fun hc => ?_)
      · have hw := hw.1 hc
        exact J.sub (X9_divide_j462_ok C K ho_v0 hr_g1 ho_g1 hr_g2 ho_g2 hr_g3 ho_g3 hr_g4 ho_g4 D hw) [] rfl
      · have hw := hw.2 hc
        refine j_aload_n C dX9_divide_449 rfl 0 rfl ?_
        refine j_dup C dX9_divide_450 rfl ?_
        refine gf_9_6 C ho_v0 k_770 dX9_divide_451 ?_
        refine j_iconst (v := 1) C dX9_divide_454 (by decide) ?_
        refine j_isub C dX9_divide_455 ?_
        refine pf_9_6 C ho_v0 k_770 dX9_divide_456 ?_
        refine j_goto (tgt := 428) C dX9_divide_459 (by decide) ?_
        exact J.sub (ih (dI D v0 6 ((D.1 v0 6) - 1)) hw) [0] rfl
def X9_divide_j414 (G : Shp) (post : Dat → Prop) (v0 : Nat) (v1 : Int32) (v2 : Int32) (g1 : Nat) (g2 : Nat) (g3 : Nat) (g4 : Nat) (k355 : Int32 → Int32 → Int32 → Dat → Prop) (v4 : Int32) (v5 : Int32) (v6 : Int32) (s0 : Int32) (s1 : Int32) (s2 : Int32) (s3 : Nat) (D : Dat) : Prop := (isO G s3 11 ∧ vp_in s2 (G.2.2.1 s3) ∧ k355 v4 v5 (v6 + 1) (dI D s3 s2.toNatClampNeg (s1 ||| s0)))
set_option maxRecDepth 100000 in
set_option maxHeartbeats 4000000 in
theorem X9_divide_j414_ok {κ : Ctx} {G : Shp} {post : Dat → Prop} {v0 : Nat} {v1 : Int32} {v2 : Int32} {g1 : Nat} {g2 : Nat} {g3 : Nat} {g4 : Nat} (C : Cx κ cX9_divide RX9 (rmN 2) 7) (K : RtV κ cX9_divide G post) (ho_v0 : isO G v0 9) (hr_g1 : G.2.2.2 v0 1 = some g1) (ho_g1 : isO G g1 11) (hr_g2 : G.2.2.2 v0 3 = some g2) (ho_g2 : isO G g2 11) (hr_g3 : G.2.2.2 v0 4 = some g3) (ho_g3 : isO G g3 11) (hr_g4 : G.2.2.2 v0 5 = some g4) (ho_g4 : isO G g4 11) {k355 : Int32 → Int32 → Int32 → Dat → Prop} (hk355 : ∀ (v4 : Int32) (v5 : Int32) (v6 : Int32) (D : Dat), k355 v4 v5 v6 D → J κ 0 0 G D 355 [(0, .ref v0), (4, .int v4), (5, .int v5), (6, .int v6)] []) (v4 : Int32) (v5 : Int32) (v6 : Int32) (s0 : Int32) (s1 : Int32) (s2 : Int32) (s3 : Nat) (D : Dat) (hw : X9_divide_j414 G post v0 v1 v2 g1 g2 g3 g4 k355 v4 v5 v6 s0 s1 s2 s3 D) : J κ 0 0 G D 414 [(0, .ref v0), (4, .int v4), (5, .int v5), (6, .int v6)] [.int s0, .int s1, .int s2, .ref s3] := by
  unfold X9_divide_j414 at hw
  refine j_ior C dX9_divide_414 ?_
  obtain ⟨ho1, hw⟩ := hw
  obtain ⟨hi2, hw⟩ := hw
  refine j_iast C ho1 hi2 dX9_divide_415 ?_
  refine j_iinc (v := v6 + 1) C dX9_divide_416 3 rfl rfl (by decide) rfl ?_
  refine j_goto (tgt := 355) C dX9_divide_419 (by decide) ?_
  exact J.sub (hk355 v4 v5 (v6 + 1) (dI D s3 s2.toNatClampNeg (s1 ||| s0)) hw) [1, 2, 3, 0] rfl
def X9_divide_j413 (G : Shp) (post : Dat → Prop) (v0 : Nat) (v1 : Int32) (v2 : Int32) (g1 : Nat) (g2 : Nat) (g3 : Nat) (g4 : Nat) (k355 : Int32 → Int32 → Int32 → Dat → Prop) (v4 : Int32) (v5 : Int32) (v6 : Int32) (s0 : Int32) (s1 : Int32) (s2 : Nat) (D : Dat) : Prop := X9_divide_j414 G post v0 v1 v2 g1 g2 g3 g4 k355 v4 v5 v6 0 s0 s1 s2 D
set_option maxRecDepth 100000 in
set_option maxHeartbeats 4000000 in
theorem X9_divide_j413_ok {κ : Ctx} {G : Shp} {post : Dat → Prop} {v0 : Nat} {v1 : Int32} {v2 : Int32} {g1 : Nat} {g2 : Nat} {g3 : Nat} {g4 : Nat} (C : Cx κ cX9_divide RX9 (rmN 2) 7) (K : RtV κ cX9_divide G post) (ho_v0 : isO G v0 9) (hr_g1 : G.2.2.2 v0 1 = some g1) (ho_g1 : isO G g1 11) (hr_g2 : G.2.2.2 v0 3 = some g2) (ho_g2 : isO G g2 11) (hr_g3 : G.2.2.2 v0 4 = some g3) (ho_g3 : isO G g3 11) (hr_g4 : G.2.2.2 v0 5 = some g4) (ho_g4 : isO G g4 11) {k355 : Int32 → Int32 → Int32 → Dat → Prop} (hk355 : ∀ (v4 : Int32) (v5 : Int32) (v6 : Int32) (D : Dat), k355 v4 v5 v6 D → J κ 0 0 G D 355 [(0, .ref v0), (4, .int v4), (5, .int v5), (6, .int v6)] []) (v4 : Int32) (v5 : Int32) (v6 : Int32) (s0 : Int32) (s1 : Int32) (s2 : Nat) (D : Dat) (hw : X9_divide_j413 G post v0 v1 v2 g1 g2 g3 g4 k355 v4 v5 v6 s0 s1 s2 D) : J κ 0 0 G D 413 [(0, .ref v0), (4, .int v4), (5, .int v5), (6, .int v6)] [.int s0, .int s1, .ref s2] := by
  unfold X9_divide_j413 at hw
  refine j_iconst (v := 0) C dX9_divide_413 (by decide) ?_
  exact J.sub (X9_divide_j414_ok C K ho_v0 hr_g1 ho_g1 hr_g2 ho_g2 hr_g3 ho_g3 hr_g4 ho_g4 hk355 v4 v5 v6 0 s0 s1 s2 D hw) [0, 1, 2, 3] rfl
def X9_divide_l355_b (G : Shp) (post : Dat → Prop) (v0 : Nat) (v1 : Int32) (v2 : Int32) (g1 : Nat) (g2 : Nat) (g3 : Nat) (g4 : Nat) (rec : Int32 → Int32 → Int32 → Dat → Prop) (v4 : Int32) (v5 : Int32) (v6 : Int32) (D : Dat) : Prop := ((v4 ≤ v6 → ∃ n, X9_divide_l428 G post v0 v1 v2 g1 g2 g3 g4 n (dI D v0 6 v4)) ∧ (¬ (v4 ≤ v6) → (vp_in v6 (G.2.2.1 g2) ∧ ((v4 ≤ (v6 + 1) → X9_divide_j413 G post v0 v1 v2 g1 g2 g3 g4 rec v4 v5 v6 ((D.1 g2 v6.toNatClampNeg) >>> (v5 &&& 31)) v6 g2 D) ∧ (¬ (v4 ≤ (v6 + 1)) → ((v5 ≤ 0 → X9_divide_j413 G post v0 v1 v2 g1 g2 g3 g4 rec v4 v5 v6 ((D.1 g2 v6.toNatClampNeg) >>> (v5 &&& 31)) v6 g2 D) ∧ (¬ (v5 ≤ 0) → (vp_in (v6 + 1) (G.2.2.1 g2) ∧ X9_divide_j414 G post v0 v1 v2 g1 g2 g3 g4 rec v4 v5 v6 (((D.1 g2 (v6 + 1).toNatClampNeg) <<< ((30 - v5) &&& 31)) &&& 1073741823) ((D.1 g2 v6.toNatClampNeg) >>> (v5 &&& 31)) v6 g2 D))))))))
def X9_divide_l355 (G : Shp) (post : Dat → Prop) (v0 : Nat) (v1 : Int32) (v2 : Int32) (g1 : Nat) (g2 : Nat) (g3 : Nat) (g4 : Nat) : Nat → Int32 → Int32 → Int32 → Dat → Prop
  | 0 => fun _ _ _ _ => False
  | n + 1 => X9_divide_l355_b G post v0 v1 v2 g1 g2 g3 g4 (X9_divide_l355 G post v0 v1 v2 g1 g2 g3 g4 n)
set_option maxRecDepth 100000 in
set_option maxHeartbeats 4000000 in
theorem X9_divide_l355_ok {κ : Ctx} {G : Shp} {post : Dat → Prop} {v0 : Nat} {v1 : Int32} {v2 : Int32} {g1 : Nat} {g2 : Nat} {g3 : Nat} {g4 : Nat} (C : Cx κ cX9_divide RX9 (rmN 2) 7) (K : RtV κ cX9_divide G post) (ho_v0 : isO G v0 9) (hr_g1 : G.2.2.2 v0 1 = some g1) (ho_g1 : isO G g1 11) (hr_g2 : G.2.2.2 v0 3 = some g2) (ho_g2 : isO G g2 11) (hr_g3 : G.2.2.2 v0 4 = some g3) (ho_g3 : isO G g3 11) (hr_g4 : G.2.2.2 v0 5 = some g4) (ho_g4 : isO G g4 11) : ∀ (n : Nat) (v4 : Int32) (v5 : Int32) (v6 : Int32) (D : Dat), X9_divide_l355 G post v0 v1 v2 g1 g2 g3 g4 n v4 v5 v6 D → J κ 0 0 G D 355 [(0, .ref v0), (4, .int v4), (5, .int v5), (6, .int v6)] [] := by
  intro n
  induction n with
  | zero => intro v4 v5 v6 D hw; exact hw.elim
  | succ n ih =>
    intro v4 v5 v6 D hw
    have hw : X9_divide_l355_b G post v0 v1 v2 g1 g2 g3 g4 (X9_divide_l355 G post v0 v1 v2 g1 g2 g3 g4 n) v4 v5 v6 D := hw
    unfold X9_divide_l355_b at hw
    refine j_iload C dX9_divide_355 3 rfl ?_
    refine j_iload C dX9_divide_357 1 rfl ?_
    refine j_icmp_ge (tgt := 422) C dX9_divide_359 (by decide) (fun hc => ?_) (fun hc => ?_)
    · have hw := hw.1 hc
      refine j_aload_n C dX9_divide_422 rfl 0 rfl ?_
      refine j_iload C dX9_divide_423 1 rfl ?_
      refine pf_9_6 C ho_v0 k_770 dX9_divide_425 ?_
      obtain ⟨n, hw⟩ := hw
      exact J.sub (X9_divide_l428_ok C K ho_v0 hr_g1 ho_g1 hr_g2 ho_g2 hr_g3 ho_g3 hr_g4 ho_g4 n (dI D v0 6 v4) hw) [0] rfl
    · have hw := hw.2 hc
      refine j_aload_n C dX9_divide_362 rfl 0 rfl ?_
      refine gf_9_3 C ho_v0 hr_g2 k_767 dX9_divide_363 ?_
      refine j_iload C dX9_divide_366 3 rfl ?_
      refine j_aload_n C dX9_divide_368 rfl 0 rfl ?_
      refine gf_9_3 C ho_v0 hr_g2 k_767 dX9_divide_369 ?_
      refine j_iload C dX9_divide_372 3 rfl ?_
      obtain ⟨hi1, hw⟩ := hw
      refine j_iald C ho_g2 hi1 dX9_divide_374 ?_
      refine j_iload C dX9_divide_375 2 rfl ?_
      refine j_ishr C dX9_divide_377 ?_
      refine j_iload C dX9_divide_378 3 rfl ?_
      refine j_iconst (v := 1) C dX9_divide_380 (by decide) ?_
      refine j_iadd C dX9_divide_381 ?_
      refine j_iload C dX9_divide_382 1 rfl ?_
      refine j_icmp_ge (tgt := 413) C dX9_divide_384 (by decide) (fun hc => ?_) (fun hc => ?_)
      · have hw := hw.1 hc
        exact J.sub (X9_divide_j413_ok C K ho_v0 hr_g1 ho_g1 hr_g2 ho_g2 hr_g3 ho_g3 hr_g4 ho_g4 ih v4 v5 v6 ((D.1 g2 v6.toNatClampNeg) >>> (v5 &&& 31)) v6 g2 D hw) [0, 1, 2, 3] rfl
      · have hw := hw.2 hc
        refine j_iload C dX9_divide_387 2 rfl ?_
        refine j_if_le (tgt := 413) C dX9_divide_389 (by decide) (fun hc => ?_) (fun hc => ?_)
        · have hw := hw.1 hc
          exact J.sub (X9_divide_j413_ok C K ho_v0 hr_g1 ho_g1 hr_g2 ho_g2 hr_g3 ho_g3 hr_g4 ho_g4 ih v4 v5 v6 ((D.1 g2 v6.toNatClampNeg) >>> (v5 &&& 31)) v6 g2 D hw) [0, 1, 2, 3] rfl
        · have hw := hw.2 hc
          refine j_aload_n C dX9_divide_392 rfl 0 rfl ?_
          refine gf_9_3 C ho_v0 hr_g2 k_767 dX9_divide_393 ?_
          refine j_iload C dX9_divide_396 3 rfl ?_
          refine j_iconst (v := 1) C dX9_divide_398 (by decide) ?_
          refine j_iadd C dX9_divide_399 ?_
          obtain ⟨hi2, hw⟩ := hw
          refine j_iald C ho_g2 hi2 dX9_divide_400 ?_
          refine j_bipush (v := 30) C dX9_divide_401 (by decide) ?_
          refine j_iload C dX9_divide_403 2 rfl ?_
          refine j_isub C dX9_divide_405 ?_
          refine j_ishl C dX9_divide_406 ?_
          refine j_ldc (v := 1073741823) C k_1019 dX9_divide_407 ?_
          refine j_iand C dX9_divide_409 ?_
          refine j_goto (tgt := 414) C dX9_divide_410 (by decide) ?_
          exact J.sub (X9_divide_j414_ok C K ho_v0 hr_g1 ho_g1 hr_g2 ho_g2 hr_g3 ho_g3 hr_g4 ho_g4 ih v4 v5 v6 (((D.1 g2 (v6 + 1).toNatClampNeg) <<< ((30 - v5) &&& 31)) &&& 1073741823) ((D.1 g2 v6.toNatClampNeg) >>> (v5 &&& 31)) v6 g2 D hw) [0, 1, 2, 3] rfl
def X9_divide_j352 (G : Shp) (post : Dat → Prop) (v0 : Nat) (v1 : Int32) (v2 : Int32) (g1 : Nat) (g2 : Nat) (g3 : Nat) (g4 : Nat) (v4 : Int32) (v5 : Int32) (D : Dat) : Prop := ∃ n, X9_divide_l355 G post v0 v1 v2 g1 g2 g3 g4 n v4 v5 0 D
set_option maxRecDepth 100000 in
set_option maxHeartbeats 4000000 in
theorem X9_divide_j352_ok {κ : Ctx} {G : Shp} {post : Dat → Prop} {v0 : Nat} {v1 : Int32} {v2 : Int32} {g1 : Nat} {g2 : Nat} {g3 : Nat} {g4 : Nat} (C : Cx κ cX9_divide RX9 (rmN 2) 7) (K : RtV κ cX9_divide G post) (ho_v0 : isO G v0 9) (hr_g1 : G.2.2.2 v0 1 = some g1) (ho_g1 : isO G g1 11) (hr_g2 : G.2.2.2 v0 3 = some g2) (ho_g2 : isO G g2 11) (hr_g3 : G.2.2.2 v0 4 = some g3) (ho_g3 : isO G g3 11) (hr_g4 : G.2.2.2 v0 5 = some g4) (ho_g4 : isO G g4 11) (v4 : Int32) (v5 : Int32) (D : Dat) (hw : X9_divide_j352 G post v0 v1 v2 g1 g2 g3 g4 v4 v5 D) : J κ 0 0 G D 352 [(0, .ref v0), (4, .int v4), (5, .int v5)] [] := by
  unfold X9_divide_j352 at hw
  refine j_iconst (v := 0) C dX9_divide_352 (by decide) ?_
  refine j_istore C dX9_divide_353 (by decide) rfl ?_
  obtain ⟨n, hw⟩ := hw
  exact J.sub (X9_divide_l355_ok C K ho_v0 hr_g1 ho_g1 hr_g2 ho_g2 hr_g3 ho_g3 hr_g4 ho_g4 n v4 v5 0 D hw) [1, 2, 3, 0] rfl
def X9_divide_l318_b (G : Shp) (post : Dat → Prop) (v0 : Nat) (v1 : Int32) (v2 : Int32) (g1 : Nat) (g2 : Nat) (g3 : Nat) (g4 : Nat) (rec : Int32 → Int32 → Dat → Prop) (v4 : Int32) (v5 : Int32) (D : Dat) : Prop := (((D.1 v0 7) ≤ 0 → X9_divide_j352 G post v0 v1 v2 g1 g2 g3 g4 v4 v5 D) ∧ (¬ ((D.1 v0 7) ≤ 0) → (vp_in ((D.1 v0 7) - 1) (G.2.2.1 g4) ∧ ((¬ (D.1 g4 ((D.1 v0 7) - 1).toNatClampNeg) = 0 → X9_divide_j352 G post v0 v1 v2 g1 g2 g3 g4 v4 v5 D) ∧ ((D.1 g4 ((D.1 v0 7) - 1).toNatClampNeg) = 0 → rec v4 v5 (dI D v0 7 ((D.1 v0 7) - 1)))))))
def X9_divide_l318 (G : Shp) (post : Dat → Prop) (v0 : Nat) (v1 : Int32) (v2 : Int32) (g1 : Nat) (g2 : Nat) (g3 : Nat) (g4 : Nat) : Nat → Int32 → Int32 → Dat → Prop
  | 0 => fun _ _ _ => False
  | n + 1 => X9_divide_l318_b G post v0 v1 v2 g1 g2 g3 g4 (X9_divide_l318 G post v0 v1 v2 g1 g2 g3 g4 n)
set_option maxRecDepth 100000 in
set_option maxHeartbeats 4000000 in
theorem X9_divide_l318_ok {κ : Ctx} {G : Shp} {post : Dat → Prop} {v0 : Nat} {v1 : Int32} {v2 : Int32} {g1 : Nat} {g2 : Nat} {g3 : Nat} {g4 : Nat} (C : Cx κ cX9_divide RX9 (rmN 2) 7) (K : RtV κ cX9_divide G post) (ho_v0 : isO G v0 9) (hr_g1 : G.2.2.2 v0 1 = some g1) (ho_g1 : isO G g1 11) (hr_g2 : G.2.2.2 v0 3 = some g2) (ho_g2 : isO G g2 11) (hr_g3 : G.2.2.2 v0 4 = some g3) (ho_g3 : isO G g3 11) (hr_g4 : G.2.2.2 v0 5 = some g4) (ho_g4 : isO G g4 11) : ∀ (n : Nat) (v4 : Int32) (v5 : Int32) (D : Dat), X9_divide_l318 G post v0 v1 v2 g1 g2 g3 g4 n v4 v5 D → J κ 0 0 G D 318 [(0, .ref v0), (4, .int v4), (5, .int v5)] [] := by
  intro n
  induction n with
  | zero => intro v4 v5 D hw; exact hw.elim
  | succ n ih =>
    intro v4 v5 D hw
    have hw : X9_divide_l318_b G post v0 v1 v2 g1 g2 g3 g4 (X9_divide_l318 G post v0 v1 v2 g1 g2 g3 g4 n) v4 v5 D := hw
    unfold X9_divide_l318_b at hw
    refine j_aload_n C dX9_divide_318 rfl 0 rfl ?_
    refine gf_9_7 C ho_v0 k_771 dX9_divide_319 ?_
    refine j_if_le (tgt := 352) C dX9_divide_322 (by decide) (fun hc => ?_) (fun hc => ?_)
    · have hw := hw.1 hc
      exact J.sub (X9_divide_j352_ok C K ho_v0 hr_g1 ho_g1 hr_g2 ho_g2 hr_g3 ho_g3 hr_g4 ho_g4 v4 v5 D hw) [0, 1, 2] rfl
    · have hw := hw.2 hc
      refine j_aload_n C dX9_divide_325 rfl 0 rfl ?_
      refine gf_9_5 C ho_v0 hr_g4 k_769 dX9_divide_326 ?_
      refine j_aload_n C dX9_divide_329 rfl 0 rfl ?_
      refine gf_9_7 C ho_v0 k_771 dX9_divide_330 ?_
      refine j_iconst (v := 1) C dX9_divide_333 (by decide) ?_
      refine j_isub C dX9_divide_334 ?_
      obtain ⟨hi1, hw⟩ := hw
      refine j_iald C ho_g4 hi1 dX9_divide_335 ?_
      refine j_if_ne (tgt := 352) C dX9_divide_336 (by decide) (fun hc => ?_) (fun hc => ?_)
      · have hw := hw.1 hc
        exact J.sub (X9_divide_j352_ok C K ho_v0 hr_g1 ho_g1 hr_g2 ho_g2 hr_g3 ho_g3 hr_g4 ho_g4 v4 v5 D hw) [0, 1, 2] rfl
      · have hw := hw.2 hc
        refine j_aload_n C dX9_divide_339 rfl 0 rfl ?_
        refine j_dup C dX9_divide_340 rfl ?_
        refine gf_9_7 C ho_v0 k_771 dX9_divide_341 ?_
        refine j_iconst (v := 1) C dX9_divide_344 (by decide) ?_
        refine j_isub C dX9_divide_345 ?_
        refine pf_9_7 C ho_v0 k_771 dX9_divide_346 ?_
        refine j_goto (tgt := 318) C dX9_divide_349 (by decide) ?_
        exact J.sub (ih v4 v5 (dI D v0 7 ((D.1 v0 7) - 1)) hw) [0, 1, 2] rfl
def X9_divide_l292_b (G : Shp) (post : Dat → Prop) (v0 : Nat) (v1 : Int32) (v2 : Int32) (g1 : Nat) (g2 : Nat) (g3 : Nat) (g4 : Nat) (rec : Int32 → Int32 → Int32 → Dat → Prop) (v4 : Int32) (v5 : Int32) (v6 : Int32) (D : Dat) : Prop := ((v6 < 0 → ∃ n, X9_divide_l318 G post v0 v1 v2 g1 g2 g3 g4 n v4 v5 D) ∧ (¬ (v6 < 0) → X9_stepOff_wp G D v0 v6 v4 (fun r1 D2 => (vp_in v6 (G.2.2.1 g4) ∧ rec v4 v5 (v6 + (-1)) (dI D2 g4 v6.toNatClampNeg r1)))))
def X9_divide_l292 (G : Shp) (post : Dat → Prop) (v0 : Nat) (v1 : Int32) (v2 : Int32) (g1 : Nat) (g2 : Nat) (g3 : Nat) (g4 : Nat) : Nat → Int32 → Int32 → Int32 → Dat → Prop
  | 0 => fun _ _ _ _ => False
  | n + 1 => X9_divide_l292_b G post v0 v1 v2 g1 g2 g3 g4 (X9_divide_l292 G post v0 v1 v2 g1 g2 g3 g4 n)
set_option maxRecDepth 100000 in
set_option maxHeartbeats 4000000 in
theorem X9_divide_l292_ok {κ : Ctx} {G : Shp} {post : Dat → Prop} {v0 : Nat} {v1 : Int32} {v2 : Int32} {g1 : Nat} {g2 : Nat} {g3 : Nat} {g4 : Nat} (C : Cx κ cX9_divide RX9 (rmN 2) 7) (K : RtV κ cX9_divide G post) (ho_v0 : isO G v0 9) (hr_g1 : G.2.2.2 v0 1 = some g1) (ho_g1 : isO G g1 11) (hr_g2 : G.2.2.2 v0 3 = some g2) (ho_g2 : isO G g2 11) (hr_g3 : G.2.2.2 v0 4 = some g3) (ho_g3 : isO G g3 11) (hr_g4 : G.2.2.2 v0 5 = some g4) (ho_g4 : isO G g4 11) : ∀ (n : Nat) (v4 : Int32) (v5 : Int32) (v6 : Int32) (D : Dat), X9_divide_l292 G post v0 v1 v2 g1 g2 g3 g4 n v4 v5 v6 D → J κ 0 0 G D 292 [(0, .ref v0), (4, .int v4), (5, .int v5), (6, .int v6)] [] := by
  intro n
  induction n with
  | zero => intro v4 v5 v6 D hw; exact hw.elim
  | succ n ih =>
    intro v4 v5 v6 D hw
    have hw : X9_divide_l292_b G post v0 v1 v2 g1 g2 g3 g4 (X9_divide_l292 G post v0 v1 v2 g1 g2 g3 g4 n) v4 v5 v6 D := hw
    unfold X9_divide_l292_b at hw
    refine j_iload C dX9_divide_292 3 rfl ?_
    refine j_if_lt (tgt := 318) C dX9_divide_294 (by decide) (fun hc => ?_) (fun hc => ?_)
    · have hw := hw.1 hc
      obtain ⟨n, hw⟩ := hw
      exact J.sub (X9_divide_l318_ok C K ho_v0 hr_g1 ho_g1 hr_g2 ho_g2 hr_g3 ho_g3 hr_g4 ho_g4 n v4 v5 D hw) [0, 1, 2] rfl
    · have hw := hw.2 hc
      refine j_aload_n C dX9_divide_297 rfl 0 rfl ?_
      refine gf_9_5 C ho_v0 hr_g4 k_769 dX9_divide_298 ?_
      refine j_iload C dX9_divide_301 3 rfl ?_
      refine j_aload_n C dX9_divide_303 rfl 0 rfl ?_
      refine j_iload C dX9_divide_304 3 rfl ?_
      refine j_iload C dX9_divide_306 1 rfl ?_
      refine j_cVI (As := [.int v6, .int v4]) (st := [.int v6, .ref g4]) C (X9_stepOff_ok κ.2.1 G D v0 v6 v4 _ hw) ho_v0 rfl k_1037 mv_X9_stepOff ⟨by decide, by decide⟩ ⟨rfl, rfl⟩ rfl rfl (Nat.le_of_ble_eq_true rfl) ⟨Nat.zero_le _, Nat.zero_le _⟩ dX9_divide_308 (fun r1 D2 hw => ?_)
      obtain ⟨hi3, hw⟩ := hw
      refine j_iast C ho_g4 hi3 dX9_divide_311 ?_
      refine j_iinc (v := v6 + (-1)) C dX9_divide_312 3 rfl rfl (by decide) rfl ?_
      refine j_goto (tgt := 292) C dX9_divide_315 (by decide) ?_
      exact J.sub (ih v4 v5 (v6 + (-1)) (dI D2 g4 v6.toNatClampNeg r1) hw) [1, 2, 3, 0] rfl
def X9_divide_j268 (G : Shp) (post : Dat → Prop) (v0 : Nat) (v1 : Int32) (v2 : Int32) (g1 : Nat) (g2 : Nat) (g3 : Nat) (g4 : Nat) (k215 : Int32 → Int32 → Int32 → Int32 → Dat → Prop) (v3 : Int32) (v4 : Int32) (v5 : Int32) (v6 : Int32) (s0 : Int32) (s1 : Int32) (s2 : Int32) (s3 : Nat) (D : Dat) : Prop := (isO G s3 11 ∧ vp_in s2 (G.2.2.1 s3) ∧ k215 v3 v4 v5 (v6 + (-1)) (dI D s3 s2.toNatClampNeg (s1 ||| s0)))
set_option maxRecDepth 100000 in
set_option maxHeartbeats 4000000 in
theorem X9_divide_j268_ok {κ : Ctx} {G : Shp} {post : Dat → Prop} {v0 : Nat} {v1 : Int32} {v2 : Int32} {g1 : Nat} {g2 : Nat} {g3 : Nat} {g4 : Nat} (C : Cx κ cX9_divide RX9 (rmN 2) 7) (K : RtV κ cX9_divide G post) (ho_v0 : isO G v0 9) (hr_g1 : G.2.2.2 v0 1 = some g1) (ho_g1 : isO G g1 11) (hr_g2 : G.2.2.2 v0 3 = some g2) (ho_g2 : isO G g2 11) (hr_g3 : G.2.2.2 v0 4 = some g3) (ho_g3 : isO G g3 11) (hr_g4 : G.2.2.2 v0 5 = some g4) (ho_g4 : isO G g4 11) {k215 : Int32 → Int32 → Int32 → Int32 → Dat → Prop} (hk215 : ∀ (v3 : Int32) (v4 : Int32) (v5 : Int32) (v6 : Int32) (D : Dat), k215 v3 v4 v5 v6 D → J κ 0 0 G D 215 [(0, .ref v0), (3, .int v3), (4, .int v4), (5, .int v5), (6, .int v6)] []) (v3 : Int32) (v4 : Int32) (v5 : Int32) (v6 : Int32) (s0 : Int32) (s1 : Int32) (s2 : Int32) (s3 : Nat) (D : Dat) (hw : X9_divide_j268 G post v0 v1 v2 g1 g2 g3 g4 k215 v3 v4 v5 v6 s0 s1 s2 s3 D) : J κ 0 0 G D 268 [(0, .ref v0), (3, .int v3), (4, .int v4), (5, .int v5), (6, .int v6)] [.int s0, .int s1, .int s2, .ref s3] := by
  unfold X9_divide_j268 at hw
  refine j_ior C dX9_divide_268 ?_
  obtain ⟨ho1, hw⟩ := hw
  obtain ⟨hi2, hw⟩ := hw
  refine j_iast C ho1 hi2 dX9_divide_269 ?_
  refine j_iinc (v := v6 + (-1)) C dX9_divide_270 4 rfl rfl (by decide) rfl ?_
  refine j_goto (tgt := 215) C dX9_divide_273 (by decide) ?_
  exact J.sub (hk215 v3 v4 v5 (v6 + (-1)) (dI D s3 s2.toNatClampNeg (s1 ||| s0)) hw) [1, 2, 3, 4, 0] rfl
def X9_divide_j267 (G : Shp) (post : Dat → Prop) (v0 : Nat) (v1 : Int32) (v2 : Int32) (g1 : Nat) (g2 : Nat) (g3 : Nat) (g4 : Nat) (k215 : Int32 → Int32 → Int32 → Int32 → Dat → Prop) (v3 : Int32) (v4 : Int32) (v5 : Int32) (v6 : Int32) (s0 : Int32) (s1 : Int32) (s2 : Nat) (D : Dat) : Prop := X9_divide_j268 G post v0 v1 v2 g1 g2 g3 g4 k215 v3 v4 v5 v6 0 s0 s1 s2 D
set_option maxRecDepth 100000 in
set_option maxHeartbeats 4000000 in
theorem X9_divide_j267_ok {κ : Ctx} {G : Shp} {post : Dat → Prop} {v0 : Nat} {v1 : Int32} {v2 : Int32} {g1 : Nat} {g2 : Nat} {g3 : Nat} {g4 : Nat} (C : Cx κ cX9_divide RX9 (rmN 2) 7) (K : RtV κ cX9_divide G post) (ho_v0 : isO G v0 9) (hr_g1 : G.2.2.2 v0 1 = some g1) (ho_g1 : isO G g1 11) (hr_g2 : G.2.2.2 v0 3 = some g2) (ho_g2 : isO G g2 11) (hr_g3 : G.2.2.2 v0 4 = some g3) (ho_g3 : isO G g3 11) (hr_g4 : G.2.2.2 v0 5 = some g4) (ho_g4 : isO G g4 11) {k215 : Int32 → Int32 → Int32 → Int32 → Dat → Prop} (hk215 : ∀ (v3 : Int32) (v4 : Int32) (v5 : Int32) (v6 : Int32) (D : Dat), k215 v3 v4 v5 v6 D → J κ 0 0 G D 215 [(0, .ref v0), (3, .int v3), (4, .int v4), (5, .int v5), (6, .int v6)] []) (v3 : Int32) (v4 : Int32) (v5 : Int32) (v6 : Int32) (s0 : Int32) (s1 : Int32) (s2 : Nat) (D : Dat) (hw : X9_divide_j267 G post v0 v1 v2 g1 g2 g3 g4 k215 v3 v4 v5 v6 s0 s1 s2 D) : J κ 0 0 G D 267 [(0, .ref v0), (3, .int v3), (4, .int v4), (5, .int v5), (6, .int v6)] [.int s0, .int s1, .ref s2] := by
  unfold X9_divide_j267 at hw
  refine j_iconst (v := 0) C dX9_divide_267 (by decide) ?_
  exact J.sub (X9_divide_j268_ok C K ho_v0 hr_g1 ho_g1 hr_g2 ho_g2 hr_g3 ho_g3 hr_g4 ho_g4 hk215 v3 v4 v5 v6 0 s0 s1 s2 D hw) [0, 1, 2, 3, 4] rfl
def X9_divide_l215_b (G : Shp) (post : Dat → Prop) (v0 : Nat) (v1 : Int32) (v2 : Int32) (g1 : Nat) (g2 : Nat) (g3 : Nat) (g4 : Nat) (rec : Int32 → Int32 → Int32 → Int32 → Dat → Prop) (v3 : Int32) (v4 : Int32) (v5 : Int32) (v6 : Int32) (D : Dat) : Prop := ((v6 < 0 → ∃ n, X9_divide_l292 G post v0 v1 v2 g1 g2 g3 g4 n v4 v5 (v3 - v4) (dI D v0 7 ((v3 - v4) + 1))) ∧ (¬ (v6 < 0) → (vp_in v6 (G.2.2.1 g2) ∧ ((v6 ≤ 0 → X9_divide_j267 G post v0 v1 v2 g1 g2 g3 g4 rec v3 v4 v5 v6 (((D.1 g2 v6.toNatClampNeg) <<< (v5 &&& 31)) &&& 1073741823) v6 g2 D) ∧ (¬ (v6 ≤ 0) → ((v5 ≤ 0 → X9_divide_j267 G post v0 v1 v2 g1 g2 g3 g4 rec v3 v4 v5 v6 (((D.1 g2 v6.toNatClampNeg) <<< (v5 &&& 31)) &&& 1073741823) v6 g2 D) ∧ (¬ (v5 ≤ 0) → (vp_in (v6 - 1) (G.2.2.1 g2) ∧ X9_divide_j268 G post v0 v1 v2 g1 g2 g3 g4 rec v3 v4 v5 v6 ((D.1 g2 (v6 - 1).toNatClampNeg) >>> ((30 - v5) &&& 31)) (((D.1 g2 v6.toNatClampNeg) <<< (v5 &&& 31)) &&& 1073741823) v6 g2 D))))))))
def X9_divide_l215 (G : Shp) (post : Dat → Prop) (v0 : Nat) (v1 : Int32) (v2 : Int32) (g1 : Nat) (g2 : Nat) (g3 : Nat) (g4 : Nat) : Nat → Int32 → Int32 → Int32 → Int32 → Dat → Prop
  | 0 => fun _ _ _ _ _ => False
  | n + 1 => X9_divide_l215_b G post v0 v1 v2 g1 g2 g3 g4 (X9_divide_l215 G post v0 v1 v2 g1 g2 g3 g4 n)
set_option maxRecDepth 100000 in
set_option maxHeartbeats 4000000 in
theorem X9_divide_l215_ok {κ : Ctx} {G : Shp} {post : Dat → Prop} {v0 : Nat} {v1 : Int32} {v2 : Int32} {g1 : Nat} {g2 : Nat} {g3 : Nat} {g4 : Nat} (C : Cx κ cX9_divide RX9 (rmN 2) 7) (K : RtV κ cX9_divide G post) (ho_v0 : isO G v0 9) (hr_g1 : G.2.2.2 v0 1 = some g1) (ho_g1 : isO G g1 11) (hr_g2 : G.2.2.2 v0 3 = some g2) (ho_g2 : isO G g2 11) (hr_g3 : G.2.2.2 v0 4 = some g3) (ho_g3 : isO G g3 11) (hr_g4 : G.2.2.2 v0 5 = some g4) (ho_g4 : isO G g4 11) : ∀ (n : Nat) (v3 : Int32) (v4 : Int32) (v5 : Int32) (v6 : Int32) (D : Dat), X9_divide_l215 G post v0 v1 v2 g1 g2 g3 g4 n v3 v4 v5 v6 D → J κ 0 0 G D 215 [(0, .ref v0), (3, .int v3), (4, .int v4), (5, .int v5), (6, .int v6)] [] := by
  intro n
  induction n with
  | zero => intro v3 v4 v5 v6 D hw; exact hw.elim
  | succ n ih =>
    intro v3 v4 v5 v6 D hw
    have hw : X9_divide_l215_b G post v0 v1 v2 g1 g2 g3 g4 (X9_divide_l215 G post v0 v1 v2 g1 g2 g3 g4 n) v3 v4 v5 v6 D := hw
    unfold X9_divide_l215_b at hw
    refine j_iload C dX9_divide_215 4 rfl ?_
    refine j_if_lt (tgt := 276) C dX9_divide_217 (by decide) (fun hc => ?_) (fun hc => ?_)
    · have hw := hw.1 hc
      refine j_aload_n C dX9_divide_276 rfl 0 rfl ?_
      refine j_iload_n C dX9_divide_277 rfl 1 rfl ?_
      refine j_iload C dX9_divide_278 2 rfl ?_
      refine j_isub C dX9_divide_280 ?_
      refine j_iconst (v := 1) C dX9_divide_281 (by decide) ?_
      refine j_iadd C dX9_divide_282 ?_
      refine pf_9_7 C ho_v0 k_771 dX9_divide_283 ?_
      refine j_iload_n C dX9_divide_286 rfl 1 rfl ?_
      refine j_iload C dX9_divide_287 2 rfl ?_
      refine j_isub C dX9_divide_289 ?_
      refine j_istore C dX9_divide_290 (by decide) rfl ?_
      obtain ⟨n, hw⟩ := hw
      exact J.sub (X9_divide_l292_ok C K ho_v0 hr_g1 ho_g1 hr_g2 ho_g2 hr_g3 ho_g3 hr_g4 ho_g4 n v4 v5 (v3 - v4) (dI D v0 7 ((v3 - v4) + 1)) hw) [1, 3, 4, 0] rfl
    · have hw := hw.2 hc
      refine j_aload_n C dX9_divide_220 rfl 0 rfl ?_
      refine gf_9_3 C ho_v0 hr_g2 k_767 dX9_divide_221 ?_
      refine j_iload C dX9_divide_224 4 rfl ?_
      refine j_aload_n C dX9_divide_226 rfl 0 rfl ?_
      refine gf_9_3 C ho_v0 hr_g2 k_767 dX9_divide_227 ?_
      refine j_iload C dX9_divide_230 4 rfl ?_
      obtain ⟨hi1, hw⟩ := hw
      refine j_iald C ho_g2 hi1 dX9_divide_232 ?_
      refine j_iload C dX9_divide_233 3 rfl ?_
      refine j_ishl C dX9_divide_235 ?_
      refine j_ldc (v := 1073741823) C k_1019 dX9_divide_236 ?_
      refine j_iand C dX9_divide_238 ?_
      refine j_iload C dX9_divide_239 4 rfl ?_
      refine j_if_le (tgt := 267) C dX9_divide_241 (by decide) (fun hc => ?_) (fun hc => ?_)
      · have hw := hw.1 hc
        exact J.sub (X9_divide_j267_ok C K ho_v0 hr_g1 ho_g1 hr_g2 ho_g2 hr_g3 ho_g3 hr_g4 ho_g4 ih v3 v4 v5 v6 (((D.1 g2 v6.toNatClampNeg) <<< (v5 &&& 31)) &&& 1073741823) v6 g2 D hw) [0, 1, 2, 3, 4] rfl
      · have hw := hw.2 hc
        refine j_iload C dX9_divide_244 3 rfl ?_
        refine j_if_le (tgt := 267) C dX9_divide_246 (by decide) (fun hc => ?_) (fun hc => ?_)
        · have hw := hw.1 hc
          exact J.sub (X9_divide_j267_ok C K ho_v0 hr_g1 ho_g1 hr_g2 ho_g2 hr_g3 ho_g3 hr_g4 ho_g4 ih v3 v4 v5 v6 (((D.1 g2 v6.toNatClampNeg) <<< (v5 &&& 31)) &&& 1073741823) v6 g2 D hw) [0, 1, 2, 3, 4] rfl
        · have hw := hw.2 hc
          refine j_aload_n C dX9_divide_249 rfl 0 rfl ?_
          refine gf_9_3 C ho_v0 hr_g2 k_767 dX9_divide_250 ?_
          refine j_iload C dX9_divide_253 4 rfl ?_
          refine j_iconst (v := 1) C dX9_divide_255 (by decide) ?_
          refine j_isub C dX9_divide_256 ?_
          obtain ⟨hi2, hw⟩ := hw
          refine j_iald C ho_g2 hi2 dX9_divide_257 ?_
          refine j_bipush (v := 30) C dX9_divide_258 (by decide) ?_
          refine j_iload C dX9_divide_260 3 rfl ?_
          refine j_isub C dX9_divide_262 ?_
          refine j_ishr C dX9_divide_263 ?_
          refine j_goto (tgt := 268) C dX9_divide_264 (by decide) ?_
          exact J.sub (X9_divide_j268_ok C K ho_v0 hr_g1 ho_g1 hr_g2 ho_g2 hr_g3 ho_g3 hr_g4 ho_g4 ih v3 v4 v5 v6 ((D.1 g2 (v6 - 1).toNatClampNeg) >>> ((30 - v5) &&& 31)) (((D.1 g2 v6.toNatClampNeg) <<< (v5 &&& 31)) &&& 1073741823) v6 g2 D hw) [0, 1, 2, 3, 4] rfl
def X9_divide_j209 (G : Shp) (post : Dat → Prop) (v0 : Nat) (v1 : Int32) (v2 : Int32) (g1 : Nat) (g2 : Nat) (g3 : Nat) (g4 : Nat) (v3 : Int32) (v4 : Int32) (v5 : Int32) (s0 : Int32) (s1 : Int32) (s2 : Nat) (D : Dat) : Prop := (isO G s2 11 ∧ vp_in s1 (G.2.2.1 s2) ∧ ∃ n, X9_divide_l215 G post v0 v1 v2 g1 g2 g3 g4 n v3 v4 v5 (v3 - 1) (dI D s2 s1.toNatClampNeg s0))
set_option maxRecDepth 100000 in
set_option maxHeartbeats 4000000 in
theorem X9_divide_j209_ok {κ : Ctx} {G : Shp} {post : Dat → Prop} {v0 : Nat} {v1 : Int32} {v2 : Int32} {g1 : Nat} {g2 : Nat} {g3 : Nat} {g4 : Nat} (C : Cx κ cX9_divide RX9 (rmN 2) 7) (K : RtV κ cX9_divide G post) (ho_v0 : isO G v0 9) (hr_g1 : G.2.2.2 v0 1 = some g1) (ho_g1 : isO G g1 11) (hr_g2 : G.2.2.2 v0 3 = some g2) (ho_g2 : isO G g2 11) (hr_g3 : G.2.2.2 v0 4 = some g3) (ho_g3 : isO G g3 11) (hr_g4 : G.2.2.2 v0 5 = some g4) (ho_g4 : isO G g4 11) (v3 : Int32) (v4 : Int32) (v5 : Int32) (s0 : Int32) (s1 : Int32) (s2 : Nat) (D : Dat) (hw : X9_divide_j209 G post v0 v1 v2 g1 g2 g3 g4 v3 v4 v5 s0 s1 s2 D) : J κ 0 0 G D 209 [(0, .ref v0), (3, .int v3), (4, .int v4), (5, .int v5)] [.int s0, .int s1, .ref s2] := by
  unfold X9_divide_j209 at hw
  obtain ⟨ho1, hw⟩ := hw
  obtain ⟨hi2, hw⟩ := hw
  refine j_iast C ho1 hi2 dX9_divide_209 ?_
  refine j_iload_n C dX9_divide_210 rfl 1 rfl ?_
  refine j_iconst (v := 1) C dX9_divide_211 (by decide) ?_
  refine j_isub C dX9_divide_212 ?_
  refine j_istore C dX9_divide_213 (by decide) rfl ?_
  obtain ⟨n, hw⟩ := hw
  exact J.sub (X9_divide_l215_ok C K ho_v0 hr_g1 ho_g1 hr_g2 ho_g2 hr_g3 ho_g3 hr_g4 ho_g4 n v3 v4 v5 (v3 - 1) (dI D s2 s1.toNatClampNeg s0) hw) [1, 2, 3, 4, 0] rfl
def X9_divide_j173 (G : Shp) (post : Dat → Prop) (v0 : Nat) (v1 : Int32) (v2 : Int32) (g1 : Nat) (g2 : Nat) (g3 : Nat) (g4 : Nat) (k114 : Int32 → Int32 → Int32 → Int32 → Dat → Prop) (v3 : Int32) (v4 : Int32) (v5 : Int32) (v6 : Int32) (s0 : Int32) (s1 : Int32) (s2 : Int32) (s3 : Nat) (D : Dat) : Prop := (isO G s3 11 ∧ vp_in s2 (G.2.2.1 s3) ∧ k114 v3 v4 v5 (v6 + 1) (dI D s3 s2.toNatClampNeg (s1 ||| s0)))
set_option maxRecDepth 100000 in
set_option maxHeartbeats 4000000 in
theorem X9_divide_j173_ok {κ : Ctx} {G : Shp} {post : Dat → Prop} {v0 : Nat} {v1 : Int32} {v2 : Int32} {g1 : Nat} {g2 : Nat} {g3 : Nat} {g4 : Nat} (C : Cx κ cX9_divide RX9 (rmN 2) 7) (K : RtV κ cX9_divide G post) (ho_v0 : isO G v0 9) (hr_g1 : G.2.2.2 v0 1 = some g1) (ho_g1 : isO G g1 11) (hr_g2 : G.2.2.2 v0 3 = some g2) (ho_g2 : isO G g2 11) (hr_g3 : G.2.2.2 v0 4 = some g3) (ho_g3 : isO G g3 11) (hr_g4 : G.2.2.2 v0 5 = some g4) (ho_g4 : isO G g4 11) {k114 : Int32 → Int32 → Int32 → Int32 → Dat → Prop} (hk114 : ∀ (v3 : Int32) (v4 : Int32) (v5 : Int32) (v6 : Int32) (D : Dat), k114 v3 v4 v5 v6 D → J κ 0 0 G D 114 [(0, .ref v0), (2, .int v2), (3, .int v3), (4, .int v4), (5, .int v5), (6, .int v6)] []) (v3 : Int32) (v4 : Int32) (v5 : Int32) (v6 : Int32) (s0 : Int32) (s1 : Int32) (s2 : Int32) (s3 : Nat) (D : Dat) (hw : X9_divide_j173 G post v0 v1 v2 g1 g2 g3 g4 k114 v3 v4 v5 v6 s0 s1 s2 s3 D) : J κ 0 0 G D 173 [(0, .ref v0), (2, .int v2), (3, .int v3), (4, .int v4), (5, .int v5), (6, .int v6)] [.int s0, .int s1, .int s2, .ref s3] := by
  unfold X9_divide_j173 at hw
  refine j_ior C dX9_divide_173 ?_
  obtain ⟨ho1, hw⟩ := hw
  obtain ⟨hi2, hw⟩ := hw
  refine j_iast C ho1 hi2 dX9_divide_174 ?_
  refine j_iinc (v := v6 + 1) C dX9_divide_175 5 rfl rfl (by decide) rfl ?_
  refine j_goto (tgt := 114) C dX9_divide_178 (by decide) ?_
  exact J.sub (hk114 v3 v4 v5 (v6 + 1) (dI D s3 s2.toNatClampNeg (s1 ||| s0)) hw) [1, 2, 3, 4, 5, 0] rfl
def X9_divide_j172 (G : Shp) (post : Dat → Prop) (v0 : Nat) (v1 : Int32) (v2 : Int32) (g1 : Nat) (g2 : Nat) (g3 : Nat) (g4 : Nat) (k114 : Int32 → Int32 → Int32 → Int32 → Dat → Prop) (v3 : Int32) (v4 : Int32) (v5 : Int32) (v6 : Int32) (s0 : Int32) (s1 : Int32) (s2 : Nat) (D : Dat) : Prop := X9_divide_j173 G post v0 v1 v2 g1 g2 g3 g4 k114 v3 v4 v5 v6 0 s0 s1 s2 D
set_option maxRecDepth 100000 in
set_option maxHeartbeats 4000000 in
theorem X9_divide_j172_ok {κ : Ctx} {G : Shp} {post : Dat → Prop} {v0 : Nat} {v1 : Int32} {v2 : Int32} {g1 : Nat} {g2 : Nat} {g3 : Nat} {g4 : Nat} (C : Cx κ cX9_divide RX9 (rmN 2) 7) (K : RtV κ cX9_divide G post) (ho_v0 : isO G v0 9) (hr_g1 : G.2.2.2 v0 1 = some g1) (ho_g1 : isO G g1 11) (hr_g2 : G.2.2.2 v0 3 = some g2) (ho_g2 : isO G g2 11) (hr_g3 : G.2.2.2 v0 4 = some g3) (ho_g3 : isO G g3 11) (hr_g4 : G.2.2.2 v0 5 = some g4) (ho_g4 : isO G g4 11) {k114 : Int32 → Int32 → Int32 → Int32 → Dat → Prop} (hk114 : ∀ (v3 : Int32) (v4 : Int32) (v5 : Int32) (v6 : Int32) (D : Dat), k114 v3 v4 v5 v6 D → J κ 0 0 G D 114 [(0, .ref v0), (2, .int v2), (3, .int v3), (4, .int v4), (5, .int v5), (6, .int v6)] []) (v3 : Int32) (v4 : Int32) (v5 : Int32) (v6 : Int32) (s0 : Int32) (s1 : Int32) (s2 : Nat) (D : Dat) (hw : X9_divide_j172 G post v0 v1 v2 g1 g2 g3 g4 k114 v3 v4 v5 v6 s0 s1 s2 D) : J κ 0 0 G D 172 [(0, .ref v0), (2, .int v2), (3, .int v3), (4, .int v4), (5, .int v5), (6, .int v6)] [.int s0, .int s1, .ref s2] := by
  unfold X9_divide_j172 at hw
  refine j_iconst (v := 0) C dX9_divide_172 (by decide) ?_
  exact J.sub (X9_divide_j173_ok C K ho_v0 hr_g1 ho_g1 hr_g2 ho_g2 hr_g3 ho_g3 hr_g4 ho_g4 hk114 v3 v4 v5 v6 0 s0 s1 s2 D hw) [0, 1, 2, 3, 4, 5] rfl
def X9_divide_l114_b (G : Shp) (post : Dat → Prop) (v0 : Nat) (v1 : Int32) (v2 : Int32) (g1 : Nat) (g2 : Nat) (g3 : Nat) (g4 : Nat) (rec : Int32 → Int32 → Int32 → Int32 → Dat → Prop) (v3 : Int32) (v4 : Int32) (v5 : Int32) (v6 : Int32) (D : Dat) : Prop := ((v4 ≤ v6 → ((v5 ≤ 0 → X9_divide_j209 G post v0 v1 v2 g1 g2 g3 g4 v3 v4 v5 0 v3 g2 D) ∧ (¬ (v5 ≤ 0) → (vp_in (v3 - 1) (G.2.2.1 g2) ∧ X9_divide_j209 G post v0 v1 v2 g1 g2 g3 g4 v3 v4 v5 ((D.1 g2 (v3 - 1).toNatClampNeg) >>> ((30 - v5) &&& 31)) v3 g2 D)))) ∧ (¬ (v4 ≤ v6) → (vp_in ((v2 + 1) + v6) (G.2.2.1 g1) ∧ ((v6 ≤ 0 → X9_divide_j172 G post v0 v1 v2 g1 g2 g3 g4 rec v3 v4 v5 v6 (((D.1 g1 ((v2 + 1) + v6).toNatClampNeg) <<< (v5 &&& 31)) &&& 1073741823) v6 g3 D) ∧ (¬ (v6 ≤ 0) → ((v5 ≤ 0 → X9_divide_j172 G post v0 v1 v2 g1 g2 g3 g4 rec v3 v4 v5 v6 (((D.1 g1 ((v2 + 1) + v6).toNatClampNeg) <<< (v5 &&& 31)) &&& 1073741823) v6 g3 D) ∧ (¬ (v5 ≤ 0) → (vp_in (v2 + v6) (G.2.2.1 g1) ∧ X9_divide_j173 G post v0 v1 v2 g1 g2 g3 g4 rec v3 v4 v5 v6 ((D.1 g1 (v2 + v6).toNatClampNeg) >>> ((30 - v5) &&& 31)) (((D.1 g1 ((v2 + 1) + v6).toNatClampNeg) <<< (v5 &&& 31)) &&& 1073741823) v6 g3 D))))))))
def X9_divide_l114 (G : Shp) (post : Dat → Prop) (v0 : Nat) (v1 : Int32) (v2 : Int32) (g1 : Nat) (g2 : Nat) (g3 : Nat) (g4 : Nat) : Nat → Int32 → Int32 → Int32 → Int32 → Dat → Prop
  | 0 => fun _ _ _ _ _ => False
  | n + 1 => X9_divide_l114_b G post v0 v1 v2 g1 g2 g3 g4 (X9_divide_l114 G post v0 v1 v2 g1 g2 g3 g4 n)
set_option maxRecDepth 100000 in
set_option maxHeartbeats 4000000 in
theorem X9_divide_l114_ok {κ : Ctx} {G : Shp} {post : Dat → Prop} {v0 : Nat} {v1 : Int32} {v2 : Int32} {g1 : Nat} {g2 : Nat} {g3 : Nat} {g4 : Nat} (C : Cx κ cX9_divide RX9 (rmN 2) 7) (K : RtV κ cX9_divide G post) (ho_v0 : isO G v0 9) (hr_g1 : G.2.2.2 v0 1 = some g1) (ho_g1 : isO G g1 11) (hr_g2 : G.2.2.2 v0 3 = some g2) (ho_g2 : isO G g2 11) (hr_g3 : G.2.2.2 v0 4 = some g3) (ho_g3 : isO G g3 11) (hr_g4 : G.2.2.2 v0 5 = some g4) (ho_g4 : isO G g4 11) : ∀ (n : Nat) (v3 : Int32) (v4 : Int32) (v5 : Int32) (v6 : Int32) (D : Dat), X9_divide_l114 G post v0 v1 v2 g1 g2 g3 g4 n v3 v4 v5 v6 D → J κ 0 0 G D 114 [(0, .ref v0), (2, .int v2), (3, .int v3), (4, .int v4), (5, .int v5), (6, .int v6)] [] := by
  intro n
  induction n with
  | zero => intro v3 v4 v5 v6 D hw; exact hw.elim
  | succ n ih =>
    intro v3 v4 v5 v6 D hw
    have hw : X9_divide_l114_b G post v0 v1 v2 g1 g2 g3 g4 (X9_divide_l114 G post v0 v1 v2 g1 g2 g3 g4 n) v3 v4 v5 v6 D := hw
    unfold X9_divide_l114_b at hw
    refine j_iload C dX9_divide_114 5 rfl ?_
    refine j_iload C dX9_divide_116 3 rfl ?_
    refine j_icmp_ge (tgt := 181) C dX9_divide_118 (by decide) (fun hc => ?_) (fun hc => ?_)
    · have hw := hw.1 hc
      refine j_aload_n C dX9_divide_181 rfl 0 rfl ?_
      refine gf_9_3 C ho_v0 hr_g2 k_767 dX9_divide_182 ?_
      refine j_iload_n C dX9_divide_185 rfl 2 rfl ?_
      refine j_iload C dX9_divide_186 4 rfl ?_
      refine j_if_le (tgt := 208) C dX9_divide_188 (by decide) (fun hc => ?_) (fun hc => ?_)
      · have hw := hw.1 hc
        refine j_iconst (v := 0) C dX9_divide_208 (by decide) ?_
        exact J.sub (X9_divide_j209_ok C K ho_v0 hr_g1 ho_g1 hr_g2 ho_g2 hr_g3 ho_g3 hr_g4 ho_g4 v3 v4 v5 0 v3 g2 D hw) [0, 2, 3, 4] rfl
      · have hw := hw.2 hc
        refine j_aload_n C dX9_divide_191 rfl 0 rfl ?_
        refine gf_9_3 C ho_v0 hr_g2 k_767 dX9_divide_192 ?_
        refine j_iload_n C dX9_divide_195 rfl 2 rfl ?_
        refine j_iconst (v := 1) C dX9_divide_196 (by decide) ?_
        refine j_isub C dX9_divide_197 ?_
        obtain ⟨hi1, hw⟩ := hw
        refine j_iald C ho_g2 hi1 dX9_divide_198 ?_
        refine j_bipush (v := 30) C dX9_divide_199 (by decide) ?_
        refine j_iload C dX9_divide_201 4 rfl ?_
        refine j_isub C dX9_divide_203 ?_
        refine j_ishr C dX9_divide_204 ?_
        refine j_goto (tgt := 209) C dX9_divide_205 (by decide) ?_
        exact J.sub (X9_divide_j209_ok C K ho_v0 hr_g1 ho_g1 hr_g2 ho_g2 hr_g3 ho_g3 hr_g4 ho_g4 v3 v4 v5 ((D.1 g2 (v3 - 1).toNatClampNeg) >>> ((30 - v5) &&& 31)) v3 g2 D hw) [0, 2, 3, 4] rfl
    · have hw := hw.2 hc
      refine j_aload_n C dX9_divide_121 rfl 0 rfl ?_
      refine gf_9_4 C ho_v0 hr_g3 k_768 dX9_divide_122 ?_
      refine j_iload C dX9_divide_125 5 rfl ?_
      refine j_aload_n C dX9_divide_127 rfl 0 rfl ?_
      refine gf_9_1 C ho_v0 hr_g1 k_765 dX9_divide_128 ?_
      refine j_iload_n C dX9_divide_131 rfl 1 rfl ?_
      refine j_iconst (v := 1) C dX9_divide_132 (by decide) ?_
      refine j_iadd C dX9_divide_133 ?_
      refine j_iload C dX9_divide_134 5 rfl ?_
      refine j_iadd C dX9_divide_136 ?_
      obtain ⟨hi2, hw⟩ := hw
      refine j_iald C ho_g1 hi2 dX9_divide_137 ?_
      refine j_iload C dX9_divide_138 4 rfl ?_
      refine j_ishl C dX9_divide_140 ?_
      refine j_ldc (v := 1073741823) C k_1019 dX9_divide_141 ?_
      refine j_iand C dX9_divide_143 ?_
      refine j_iload C dX9_divide_144 5 rfl ?_
      refine j_if_le (tgt := 172) C dX9_divide_146 (by decide) (fun hc => ?_) (fun hc => ?_)
      · have hw := hw.1 hc
        exact J.sub (X9_divide_j172_ok C K ho_v0 hr_g1 ho_g1 hr_g2 ho_g2 hr_g3 ho_g3 hr_g4 ho_g4 ih v3 v4 v5 v6 (((D.1 g1 ((v2 + 1) + v6).toNatClampNeg) <<< (v5 &&& 31)) &&& 1073741823) v6 g3 D hw) [0, 1, 2, 3, 4, 5] rfl
      · have hw := hw.2 hc
        refine j_iload C dX9_divide_149 4 rfl ?_
        refine j_if_le (tgt := 172) C dX9_divide_151 (by decide) (fun hc => ?_) (fun hc => ?_)
        · have hw := hw.1 hc
          exact J.sub (X9_divide_j172_ok C K ho_v0 hr_g1 ho_g1 hr_g2 ho_g2 hr_g3 ho_g3 hr_g4 ho_g4 ih v3 v4 v5 v6 (((D.1 g1 ((v2 + 1) + v6).toNatClampNeg) <<< (v5 &&& 31)) &&& 1073741823) v6 g3 D hw) [0, 1, 2, 3, 4, 5] rfl
        · have hw := hw.2 hc
          refine j_aload_n C dX9_divide_154 rfl 0 rfl ?_
          refine gf_9_1 C ho_v0 hr_g1 k_765 dX9_divide_155 ?_
          refine j_iload_n C dX9_divide_158 rfl 1 rfl ?_
          refine j_iload C dX9_divide_159 5 rfl ?_
          refine j_iadd C dX9_divide_161 ?_
          obtain ⟨hi3, hw⟩ := hw
          refine j_iald C ho_g1 hi3 dX9_divide_162 ?_
          refine j_bipush (v := 30) C dX9_divide_163 (by decide) ?_
          refine j_iload C dX9_divide_165 4 rfl ?_
          refine j_isub C dX9_divide_167 ?_
          refine j_ishr C dX9_divide_168 ?_
          refine j_goto (tgt := 173) C dX9_divide_169 (by decide) ?_
          exact J.sub (X9_divide_j173_ok C K ho_v0 hr_g1 ho_g1 hr_g2 ho_g2 hr_g3 ho_g3 hr_g4 ho_g4 ih v3 v4 v5 v6 ((D.1 g1 (v2 + v6).toNatClampNeg) >>> ((30 - v5) &&& 31)) (((D.1 g1 ((v2 + 1) + v6).toNatClampNeg) <<< (v5 &&& 31)) &&& 1073741823) v6 g3 D hw) [0, 1, 2, 3, 4, 5] rfl
def X9_divide_l88_b (G : Shp) (post : Dat → Prop) (v0 : Nat) (v1 : Int32) (v2 : Int32) (g1 : Nat) (g2 : Nat) (g3 : Nat) (g4 : Nat) (rec : Int32 → Int32 → Int32 → Dat → Prop) (v3 : Int32) (v4 : Int32) (v5 : Int32) (D : Dat) : Prop := (vp_in (v2 + v4) (G.2.2.1 g1) ∧ ((536870912 ≤ ((D.1 g1 (v2 + v4).toNatClampNeg) <<< (v5 &&& 31)) → ∃ n, X9_divide_l114 G post v0 v1 v2 g1 g2 g3 g4 n v3 v4 v5 0 D) ∧ (¬ (536870912 ≤ ((D.1 g1 (v2 + v4).toNatClampNeg) <<< (v5 &&& 31))) → rec v3 v4 (v5 + 1) D)))
def X9_divide_l88 (G : Shp) (post : Dat → Prop) (v0 : Nat) (v1 : Int32) (v2 : Int32) (g1 : Nat) (g2 : Nat) (g3 : Nat) (g4 : Nat) : Nat → Int32 → Int32 → Int32 → Dat → Prop
  | 0 => fun _ _ _ _ => False
  | n + 1 => X9_divide_l88_b G post v0 v1 v2 g1 g2 g3 g4 (X9_divide_l88 G post v0 v1 v2 g1 g2 g3 g4 n)
set_option maxRecDepth 100000 in
set_option maxHeartbeats 4000000 in
theorem X9_divide_l88_ok {κ : Ctx} {G : Shp} {post : Dat → Prop} {v0 : Nat} {v1 : Int32} {v2 : Int32} {g1 : Nat} {g2 : Nat} {g3 : Nat} {g4 : Nat} (C : Cx κ cX9_divide RX9 (rmN 2) 7) (K : RtV κ cX9_divide G post) (ho_v0 : isO G v0 9) (hr_g1 : G.2.2.2 v0 1 = some g1) (ho_g1 : isO G g1 11) (hr_g2 : G.2.2.2 v0 3 = some g2) (ho_g2 : isO G g2 11) (hr_g3 : G.2.2.2 v0 4 = some g3) (ho_g3 : isO G g3 11) (hr_g4 : G.2.2.2 v0 5 = some g4) (ho_g4 : isO G g4 11) : ∀ (n : Nat) (v3 : Int32) (v4 : Int32) (v5 : Int32) (D : Dat), X9_divide_l88 G post v0 v1 v2 g1 g2 g3 g4 n v3 v4 v5 D → J κ 0 0 G D 88 [(0, .ref v0), (2, .int v2), (3, .int v3), (4, .int v4), (5, .int v5)] [] := by
  intro n
  induction n with
  | zero => intro v3 v4 v5 D hw; exact hw.elim
  | succ n ih =>
    intro v3 v4 v5 D hw
    have hw : X9_divide_l88_b G post v0 v1 v2 g1 g2 g3 g4 (X9_divide_l88 G post v0 v1 v2 g1 g2 g3 g4 n) v3 v4 v5 D := hw
    unfold X9_divide_l88_b at hw
    refine j_aload_n C dX9_divide_88 rfl 0 rfl ?_
    refine gf_9_1 C ho_v0 hr_g1 k_765 dX9_divide_89 ?_
    refine j_iload_n C dX9_divide_92 rfl 1 rfl ?_
    refine j_iload C dX9_divide_93 3 rfl ?_
    refine j_iadd C dX9_divide_95 ?_
    obtain ⟨hi1, hw⟩ := hw
    refine j_iald C ho_g1 hi1 dX9_divide_96 ?_
    refine j_iload C dX9_divide_97 4 rfl ?_
    refine j_ishl C dX9_divide_99 ?_
    refine j_ldc (v := 536870912) C k_1036 dX9_divide_100 ?_
    refine j_icmp_ge (tgt := 111) C dX9_divide_102 (by decide) (fun hc => ?_) (fun hc => ?_)
    · have hw := hw.1 hc
      refine j_iconst (v := 0) C dX9_divide_111 (by decide) ?_
      refine j_istore C dX9_divide_112 (by decide) rfl ?_
      obtain ⟨n, hw⟩ := hw
      exact J.sub (X9_divide_l114_ok C K ho_v0 hr_g1 ho_g1 hr_g2 ho_g2 hr_g3 ho_g3 hr_g4 ho_g4 n v3 v4 v5 0 D hw) [1, 2, 3, 4, 5, 0] rfl
    · have hw := hw.2 hc
      refine j_iinc (v := v5 + 1) C dX9_divide_105 4 rfl rfl (by decide) rfl ?_
      refine j_goto (tgt := 88) C dX9_divide_108 (by decide) ?_
      exact J.sub (ih v3 v4 (v5 + 1) D hw) [1, 2, 3, 4, 0] rfl
def X9_divide_l16_b (G : Shp) (post : Dat → Prop) (v0 : Nat) (v1 : Int32) (v2 : Int32) (g1 : Nat) (g2 : Nat) (g3 : Nat) (g4 : Nat) (rec : Int32 → Int32 → Int32 → Dat → Prop) (v3 : Int32) (v4 : Int32) (v5 : Int32) (D : Dat) : Prop := ((v3 ≤ v5 → X9_compareSizes_wp G (dI (dI D v0 6 v3) v0 7 0) v0 v1 v2 (fun r1 D2 => ((0 ≤ r1 → ((¬ v4 = 1 → ∃ n, X9_divide_l88 G post v0 v1 v2 g1 g2 g3 g4 n v3 v4 0 D2) ∧ (v4 = 1 → (vp_in (v2 + 1) (G.2.2.1 g1) ∧ X9_divideShort_wp G D2 v0 (D2.1 g1 (v2 + 1).toNatClampNeg) (fun D5 => post D5))))) ∧ (¬ (0 ≤ r1) → post D2)))) ∧ (¬ (v3 ≤ v5) → (vp_in ((v1 + 1) + v5) (G.2.2.1 g1) ∧ vp_in v5 (G.2.2.1 g2) ∧ rec v3 v4 (v5 + 1) (dI D g2 v5.toNatClampNeg (D.1 g1 ((v1 + 1) + v5).toNatClampNeg)))))
def X9_divide_l16 (G : Shp) (post : Dat → Prop) (v0 : Nat) (v1 : Int32) (v2 : Int32) (g1 : Nat) (g2 : Nat) (g3 : Nat) (g4 : Nat) : Nat → Int32 → Int32 → Int32 → Dat → Prop
  | 0 => fun _ _ _ _ => False
  | n + 1 => X9_divide_l16_b G post v0 v1 v2 g1 g2 g3 g4 (X9_divide_l16 G post v0 v1 v2 g1 g2 g3 g4 n)
set_option maxRecDepth 100000 in
set_option maxHeartbeats 4000000 in
theorem X9_divide_l16_ok {κ : Ctx} {G : Shp} {post : Dat → Prop} {v0 : Nat} {v1 : Int32} {v2 : Int32} {g1 : Nat} {g2 : Nat} {g3 : Nat} {g4 : Nat} (C : Cx κ cX9_divide RX9 (rmN 2) 7) (K : RtV κ cX9_divide G post) (ho_v0 : isO G v0 9) (hr_g1 : G.2.2.2 v0 1 = some g1) (ho_g1 : isO G g1 11) (hr_g2 : G.2.2.2 v0 3 = some g2) (ho_g2 : isO G g2 11) (hr_g3 : G.2.2.2 v0 4 = some g3) (ho_g3 : isO G g3 11) (hr_g4 : G.2.2.2 v0 5 = some g4) (ho_g4 : isO G g4 11) : ∀ (n : Nat) (v3 : Int32) (v4 : Int32) (v5 : Int32) (D : Dat), X9_divide_l16 G post v0 v1 v2 g1 g2 g3 g4 n v3 v4 v5 D → J κ 0 0 G D 16 [(0, .ref v0), (1, .int v1), (2, .int v2), (3, .int v3), (4, .int v4), (5, .int v5)] [] := by
  intro n
  induction n with
  | zero => intro v3 v4 v5 D hw; exact hw.elim
  | succ n ih =>
    intro v3 v4 v5 D hw
    have hw : X9_divide_l16_b G post v0 v1 v2 g1 g2 g3 g4 (X9_divide_l16 G post v0 v1 v2 g1 g2 g3 g4 n) v3 v4 v5 D := hw
    unfold X9_divide_l16_b at hw
    refine j_iload C dX9_divide_16 5 rfl ?_
    refine j_iload_n C dX9_divide_18 rfl 3 rfl ?_
    refine j_icmp_ge (tgt := 46) C dX9_divide_19 (by decide) (fun hc => ?_) (fun hc => ?_)
    · have hw := hw.1 hc
      refine j_aload_n C dX9_divide_46 rfl 0 rfl ?_
      refine j_iload_n C dX9_divide_47 rfl 3 rfl ?_
      refine pf_9_6 C ho_v0 k_770 dX9_divide_48 ?_
      refine j_aload_n C dX9_divide_51 rfl 0 rfl ?_
      refine j_iconst (v := 0) C dX9_divide_52 (by decide) ?_
      refine pf_9_7 C ho_v0 k_771 dX9_divide_53 ?_
      refine j_aload_n C dX9_divide_56 rfl 0 rfl ?_
      refine j_iload_n C dX9_divide_57 rfl 1 rfl ?_
      refine j_iload_n C dX9_divide_58 rfl 2 rfl ?_
      refine j_cVI (As := [.int v1, .int v2]) (st := []) C (X9_compareSizes_ok κ.2.1 G (dI (dI D v0 6 v3) v0 7 0) v0 v1 v2 _ hw) ho_v0 rfl k_1020 mv_X9_compareSizes ⟨by decide, by decide⟩ ⟨rfl, rfl⟩ rfl rfl (Nat.le_of_ble_eq_true rfl) ⟨Nat.zero_le _, Nat.zero_le _⟩ dX9_divide_59 (fun r1 D2 hw => ?_)
      refine j_if_ge (tgt := 66) C dX9_divide_62 (by decide) (fun hc => ?_) (fun hc => ?_)
      · have hw := hw.1 hc
        refine j_iload C dX9_divide_66 4 rfl ?_
        refine j_iconst (v := 1) C dX9_divide_68 (by decide) ?_
        refine j_icmp_ne (tgt := 85) C dX9_divide_69 (by decide) (fun hc => ?_) (fun hc => ?_)
        · have hw := hw.1 hc
          refine j_iconst (v := 0) C dX9_divide_85 (by decide) ?_
          refine j_istore C dX9_divide_86 (by decide) rfl ?_
          obtain ⟨n, hw⟩ := hw
          exact J.sub (X9_divide_l88_ok C K ho_v0 hr_g1 ho_g1 hr_g2 ho_g2 hr_g3 ho_g3 hr_g4 ho_g4 n v3 v4 0 D2 hw) [1, 3, 4, 5, 0] rfl
        · have hw := hw.2 hc
          refine j_aload_n C dX9_divide_72 rfl 0 rfl ?_
          refine j_aload_n C dX9_divide_73 rfl 0 rfl ?_
          refine gf_9_1 C ho_v0 hr_g1 k_765 dX9_divide_74 ?_
          refine j_iload_n C dX9_divide_77 rfl 2 rfl ?_
          refine j_iconst (v := 1) C dX9_divide_78 (by decide) ?_
          refine j_iadd C dX9_divide_79 ?_
          obtain ⟨hi3, hw⟩ := hw
          refine j_iald C ho_g1 hi3 dX9_divide_80 ?_
          refine j_cVV (As := [.int (D2.1 g1 (v2 + 1).toNatClampNeg)]) (st := []) C (X9_divideShort_ok κ.2.1 G D2 v0 (D2.1 g1 (v2 + 1).toNatClampNeg) _ hw) ho_v0 rfl k_1032 mv_X9_divideShort ⟨by decide, by decide⟩ ⟨rfl, rfl⟩ rfl rfl (Nat.le_of_ble_eq_true rfl) ⟨Nat.zero_le _, Nat.zero_le _⟩ dX9_divide_81 (fun D5 hw => ?_)
          exact K _ _ _ dX9_divide_84 hw
      · have hw := hw.2 hc
        exact K _ _ _ dX9_divide_65 hw
    · have hw := hw.2 hc
      refine j_aload_n C dX9_divide_22 rfl 0 rfl ?_
      refine gf_9_3 C ho_v0 hr_g2 k_767 dX9_divide_23 ?_
      refine j_iload C dX9_divide_26 5 rfl ?_
      refine j_aload_n C dX9_divide_28 rfl 0 rfl ?_
      refine gf_9_1 C ho_v0 hr_g1 k_765 dX9_divide_29 ?_
      refine j_iload_n C dX9_divide_32 rfl 1 rfl ?_
      refine j_iconst (v := 1) C dX9_divide_33 (by decide) ?_
      refine j_iadd C dX9_divide_34 ?_
      refine j_iload C dX9_divide_35 5 rfl ?_
      refine j_iadd C dX9_divide_37 ?_
      obtain ⟨hi6, hw⟩ := hw
      refine j_iald C ho_g1 hi6 dX9_divide_38 ?_
      obtain ⟨hi7, hw⟩ := hw
      refine j_iast C ho_g2 hi7 dX9_divide_39 ?_
      refine j_iinc (v := v5 + 1) C dX9_divide_40 5 rfl rfl (by decide) rfl ?_
      refine j_goto (tgt := 16) C dX9_divide_43 (by decide) ?_
      exact J.sub (ih v3 v4 (v5 + 1) (dI D g2 v5.toNatClampNeg (D.1 g1 ((v1 + 1) + v5).toNatClampNeg)) hw) [1, 2, 3, 4, 5, 0] rfl
def X9_divide_wp (G : Shp) (D : Dat) (v0 : Nat) (v1 : Int32) (v2 : Int32) (post : Dat → Prop) : Prop := isO G v0 9 ∧ ∃ g1, G.2.2.2 v0 1 = some g1 ∧ isO G g1 11 ∧ ∃ g2, G.2.2.2 v0 3 = some g2 ∧ isO G g2 11 ∧ ∃ g3, G.2.2.2 v0 4 = some g3 ∧ isO G g3 11 ∧ ∃ g4, G.2.2.2 v0 5 = some g4 ∧ isO G g4 11 ∧ X9_size_wp G D v0 v1 (fun r1 D2 => X9_size_wp G D2 v0 v2 (fun r3 D4 => ∃ n, X9_divide_l16 G post v0 v1 v2 g1 g2 g3 g4 n r1 r3 0 D4))
set_option maxRecDepth 100000 in
set_option maxHeartbeats 4000000 in
theorem X9_divide_ok (l : Launch) (G : Shp) (D : Dat) (v0 : Nat) (v1 : Int32) (v2 : Int32) (post : Dat → Prop) (hw : X9_divide_wp G D v0 v1 v2 post) : CtV l yX9_divide cX9_divide 7 (rmN 2) [.ref v0, .int v1, .int v2] G D post := by
  obtain ⟨ho_v0, g1, hr_g1, ho_g1, g2, hr_g2, ho_g2, g3, hr_g3, ho_g3, g4, hr_g4, ho_g4, hw⟩ := hw
  refine ctV_of (by decide) rfl (Nat.le_of_ble_eq_true rfl) ?_
  intro κ hκ C K
  subst hκ
  have C : Cx κ cX9_divide RX9 (rmN 2) 7 := C
  refine j_aload_n C dX9_divide_0 rfl 0 rfl ?_
  refine j_iload_n C dX9_divide_1 rfl 1 rfl ?_
  refine j_cVI (As := [.int v1]) (st := []) C (X9_size_ok κ.2.1 G D v0 v1 _ hw) ho_v0 rfl k_998 mv_X9_size ⟨by decide, by decide⟩ ⟨rfl, rfl⟩ rfl rfl (Nat.le_of_ble_eq_true rfl) ⟨Nat.zero_le _, Nat.zero_le _⟩ dX9_divide_2 (fun r1 D2 hw => ?_)
  refine j_istore_n C dX9_divide_5 rfl (by decide) rfl ?_
  refine j_aload_n C dX9_divide_6 rfl 1 rfl ?_
  refine j_iload_n C dX9_divide_7 rfl 3 rfl ?_
  refine j_cVI (As := [.int v2]) (st := []) C (X9_size_ok κ.2.1 G D2 v0 v2 _ hw) ho_v0 rfl k_998 mv_X9_size ⟨by decide, by decide⟩ ⟨rfl, rfl⟩ rfl rfl (Nat.le_of_ble_eq_true rfl) ⟨Nat.zero_le _, Nat.zero_le _⟩ dX9_divide_8 (fun r3 D4 hw => ?_)
  refine j_istore C dX9_divide_11 (by decide) rfl ?_
  refine j_iconst (v := 0) C dX9_divide_13 (by decide) ?_
  refine j_istore C dX9_divide_14 (by decide) rfl ?_
  obtain ⟨n, hw⟩ := hw
  exact J.sub (X9_divide_l16_ok C K ho_v0 hr_g1 ho_g1 hr_g2 ho_g2 hr_g3 ho_g3 hr_g4 ho_g4 n r1 r3 0 D4 hw) [3, 4, 5, 2, 1, 0] rfl
