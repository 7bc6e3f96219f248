/-! X6_addTimes -/
def X6_addTimes_l18_b (G : Shp) (post : Dat → Prop) (v0 : Nat) (v1 : Nat) (v2 : Int64) (g1 : Nat) (g2 : Nat) (rec : Int64 → Int32 → Dat → Prop) (v4 : Int64) (v6 : Int32) (D : Dat) : Prop := (((D.1 v1 1) ≤ v6 → post (dI D v0 1 (mxI (D.1 v0 1) (D.1 v1 1)))) ∧ (¬ ((D.1 v1 1) ≤ v6) → (vp_in v6 (G.2.2.1 g1) ∧ vp_in v6 (G.2.2.1 g2) ∧ vp_in v6 (G.2.2.1 g1) ∧ rec v4 (v6 + 1) (dJ D g1 v6.toNatClampNeg ((D.2 g1 v6.toNatClampNeg) + ((D.2 g2 v6.toNatClampNeg) * v4))))))
def X6_addTimes_l18 (G : Shp) (post : Dat → Prop) (v0 : Nat) (v1 : Nat) (v2 : Int64) (g1 : Nat) (g2 : Nat) : Nat → Int64 → Int32 → Dat → Prop
  | 0 => fun _ _ _ => False
  | n + 1 => X6_addTimes_l18_b G post v0 v1 v2 g1 g2 (X6_addTimes_l18 G post v0 v1 v2 g1 g2 n)
set_option maxRecDepth 100000 in
set_option maxHeartbeats 4000000 in
theorem X6_addTimes_l18_ok {κ : Ctx} {G : Shp} {post : Dat → Prop} {v0 : Nat} {v1 : Nat} {v2 : Int64} {g1 : Nat} {g2 : Nat} (C : Cx κ cX6_addTimes RX6 (rmN 1) 7) (K : RtV κ cX6_addTimes G post) (ho_v0 : isO G v0 6) (ho_v1 : isO G v1 0) (hr_g1 : G.2.2.2 v0 0 = some g1) (ho_g1 : isO G g1 12) (hr_g2 : G.2.2.2 v1 0 = some g2) (ho_g2 : isO G g2 12) : ∀ (n : Nat) (v4 : Int64) (v6 : Int32) (D : Dat), X6_addTimes_l18 G post v0 v1 v2 g1 g2 n v4 v6 D → J κ 0 0 G D 18 [(0, .ref v0), (1, .ref v1), (4, .long v4), (6, .int v6)] [] := by
  intro n
  induction n with
  | zero => intro v4 v6 D hw; exact hw.elim
  | succ n ih =>
    intro v4 v6 D hw
    have hw : X6_addTimes_l18_b G post v0 v1 v2 g1 g2 (X6_addTimes_l18 G post v0 v1 v2 g1 g2 n) v4 v6 D := hw
    unfold X6_addTimes_l18_b at hw
    refine j_iload C dX6_addTimes_18 3 rfl ?_
    refine j_aload_n C dX6_addTimes_20 rfl 1 rfl ?_
    refine gf_0_1 C ho_v1 k_46 dX6_addTimes_21 ?_
    refine j_icmp_ge (tgt := 53) C dX6_addTimes_24 (by decide) (fun hc => ?_) (fun hc => ?_)
    · have hw := hw.1 hc
      refine j_aload_n C dX6_addTimes_53 rfl 0 rfl ?_
      refine j_aload_n C dX6_addTimes_54 rfl 0 rfl ?_
      refine gf_6_1 C ho_v0 k_129 dX6_addTimes_55 ?_
      refine j_aload_n C dX6_addTimes_58 rfl 1 rfl ?_
      refine gf_0_1 C ho_v1 k_46 dX6_addTimes_59 ?_
      refine j_mxI C k_502 ⟨by decide, Nat.le_of_ble_eq_true rfl⟩ ⟨Nat.zero_le _, Nat.zero_le _⟩ dX6_addTimes_62 ?_
      refine pf_6_1 C ho_v0 k_129 dX6_addTimes_65 ?_
      exact K _ _ _ dX6_addTimes_68 hw
    · have hw := hw.2 hc
      refine j_aload_n C dX6_addTimes_27 rfl 0 rfl ?_
      refine gf_6_0 C ho_v0 hr_g1 k_128 dX6_addTimes_28 ?_
      refine j_iload C dX6_addTimes_31 3 rfl ?_
      refine j_dup2 C dX6_addTimes_33 rfl rfl ?_
      obtain ⟨hi1, hw⟩ := hw
      refine j_lald C ho_g1 hi1 dX6_addTimes_34 ?_
      refine j_aload_n C dX6_addTimes_35 rfl 1 rfl ?_
      refine gf_0_0 C ho_v1 hr_g2 k_44 dX6_addTimes_36 ?_
      refine j_iload C dX6_addTimes_39 3 rfl ?_
      obtain ⟨hi2, hw⟩ := hw
      refine j_lald C ho_g2 hi2 dX6_addTimes_41 ?_
      refine j_lload C dX6_addTimes_42 2 rfl ?_
      refine j_lmul C dX6_addTimes_44 ?_
      refine j_ladd C dX6_addTimes_45 ?_
      obtain ⟨hi3, hw⟩ := hw
      refine j_last C ho_g1 hi3 dX6_addTimes_46 ?_
      refine j_iinc (v := v6 + 1) C dX6_addTimes_47 3 rfl rfl (by decide) rfl ?_
      refine j_goto (tgt := 18) C dX6_addTimes_50 (by decide) ?_
      exact J.sub (ih v4 (v6 + 1) (dJ D g1 v6.toNatClampNeg ((D.2 g1 v6.toNatClampNeg) + ((D.2 g2 v6.toNatClampNeg) * v4))) hw) [1, 2, 3, 0] rfl
def X6_addTimes_j13 (G : Shp) (post : Dat → Prop) (v0 : Nat) (v1 : Nat) (v2 : Int64) (g1 : Nat) (g2 : Nat) (s0 : Int64) (D : Dat) : Prop := ∃ n, X6_addTimes_l18 G post v0 v1 v2 g1 g2 n s0 0 D
set_option maxRecDepth 100000 in
set_option maxHeartbeats 4000000 in
theorem X6_addTimes_j13_ok {κ : Ctx} {G : Shp} {post : Dat → Prop} {v0 : Nat} {v1 : Nat} {v2 : Int64} {g1 : Nat} {g2 : Nat} (C : Cx κ cX6_addTimes RX6 (rmN 1) 7) (K : RtV κ cX6_addTimes G post) (ho_v0 : isO G v0 6) (ho_v1 : isO G v1 0) (hr_g1 : G.2.2.2 v0 0 = some g1) (ho_g1 : isO G g1 12) (hr_g2 : G.2.2.2 v1 0 = some g2) (ho_g2 : isO G g2 12) (s0 : Int64) (D : Dat) (hw : X6_addTimes_j13 G post v0 v1 v2 g1 g2 s0 D) : J κ 0 0 G D 13 [(0, .ref v0), (1, .ref v1)] [.long s0] := by
  unfold X6_addTimes_j13 at hw
  refine j_lstore C dX6_addTimes_13 (by decide) rfl ?_
  refine j_iconst (v := 0) C dX6_addTimes_15 (by decide) ?_
  refine j_istore C dX6_addTimes_16 (by decide) rfl ?_
  obtain ⟨n, hw⟩ := hw
  exact J.sub (X6_addTimes_l18_ok C K ho_v0 ho_v1 hr_g1 ho_g1 hr_g2 ho_g2 n s0 0 D hw) [2, 3, 1, 0] rfl
def X6_addTimes_wp (G : Shp) (D : Dat) (v0 : Nat) (v1 : Nat) (v2 : Int64) (post : Dat → Prop) : Prop := isO G v0 6 ∧ isO G v1 0 ∧ ∃ g1, G.2.2.2 v0 0 = some g1 ∧ isO G g1 12 ∧ ∃ g2, G.2.2.2 v1 0 = some g2 ∧ isO G g2 12 ∧ (((D.1 v1 2) = 0 → X6_addTimes_j13 G post v0 v1 v2 g1 g2 v2 D) ∧ (¬ ((D.1 v1 2) = 0) → X6_addTimes_j13 G post v0 v1 v2 g1 g2 (-v2) D))
set_option maxRecDepth 100000 in
set_option maxHeartbeats 4000000 in
theorem X6_addTimes_ok (l : Launch) (G : Shp) (D : Dat) (v0 : Nat) (v1 : Nat) (v2 : Int64) (post : Dat → Prop) (hw : X6_addTimes_wp G D v0 v1 v2 post) : CtV l yX6_addTimes cX6_addTimes 7 (rmN 1) [.ref v0, .ref v1, .long v2] G D post := by
  obtain ⟨ho_v0, ho_v1, g1, hr_g1, ho_g1, g2, hr_g2, ho_g2, hw⟩ := hw
  refine ctV_of (by decide) rfl (Nat.le_of_ble_eq_true rfl) ?_
  intro κ hκ C K
  subst hκ
  have C : Cx κ cX6_addTimes RX6 (rmN 1) 7 := C
  refine j_aload_n C dX6_addTimes_0 rfl 1 rfl ?_
  refine gf_0_2 C ho_v1 k_48 dX6_addTimes_1 ?_
  refine j_if_eq (tgt := 12) C dX6_addTimes_4 (by decide) (fun hc => ?_) (fun hc => ?_)
  · have hw := hw.1 hc
    refine j_lload_n C dX6_addTimes_12 rfl 2 rfl ?_
    exact J.sub (X6_addTimes_j13_ok C K ho_v0 ho_v1 hr_g1 ho_g1 hr_g2 ho_g2 v2 D hw) [0, 1] rfl
  · have hw := hw.2 hc
    refine j_lload_n C dX6_addTimes_7 rfl 2 rfl ?_
    refine j_lneg C dX6_addTimes_8 ?_
    refine j_goto (tgt := 13) C dX6_addTimes_9 (by decide) ?_
    exact J.sub (X6_addTimes_j13_ok C K ho_v0 ho_v1 hr_g1 ho_g1 hr_g2 ho_g2 (-v2) D hw) [0, 1] rfl
/-! X6_clear -/
def X6_clear_wp (G : Shp) (D : Dat) (v0 : Nat) (post : Dat → Prop) : Prop := isO G v0 6 ∧ ∃ g1, G.2.2.2 v0 0 = some g1 ∧ isO G g1 12 ∧ J7_fill_d0a16_wp G D g1 0 (fun D2 => post (dI D2 v0 1 0))
set_option maxRecDepth 100000 in
set_option maxHeartbeats 4000000 in
theorem X6_clear_ok (l : Launch) (G : Shp) (D : Dat) (v0 : Nat) (post : Dat → Prop) (hw : X6_clear_wp G D v0 post) : CtV l yX6_clear cX6_clear 1 (rmN 1) [.ref v0] G D post := by
  obtain ⟨ho_v0, g1, hr_g1, ho_g1, hw⟩ := hw
  refine ctV_of (by decide) rfl (Nat.le_of_ble_eq_true rfl) ?_
  intro κ hκ C K
  subst hκ
  have C : Cx κ cX6_clear RX6 (rmN 1) 1 := C
  refine j_aload_n C dX6_clear_0 rfl 0 rfl ?_
  refine gf_6_0 C ho_v0 hr_g1 k_128 dX6_clear_1 ?_
  refine j_lconst (v := 0) C dX6_clear_4 (by decide) ?_
  refine j_cSV (As := [.ref g1, .long 0]) (st := []) C (J7_fill_d0a16_ok κ.2.1 G D g1 0 _ hw) k_497 ms_J7_fill_d0a16 ⟨by decide, by decide⟩ ⟨rfl, rfl⟩ rfl rfl (Nat.le_of_ble_eq_true rfl) ⟨Nat.zero_le _, Nat.zero_le _⟩ dX6_clear_5 (fun D2 hw => ?_)
  refine j_aload_n C dX6_clear_8 rfl 0 rfl ?_
  refine j_iconst (v := 0) C dX6_clear_9 (by decide) ?_
  refine pf_6_1 C ho_v0 k_129 dX6_clear_10 ?_
  exact K _ _ _ dX6_clear_13 hw
/-! X7_add -/
def X7_add_j16 (G : Shp) (post : Int32 → Dat → Prop) (v0 : Nat) (v1 : Int32) (g1 : Nat) (D : Dat) : Prop := (isB 0 ∧ post 0 D)
set_option maxRecDepth 100000 in
set_option maxHeartbeats 4000000 in
theorem X7_add_j16_ok {κ : Ctx} {G : Shp} {post : Int32 → Dat → Prop} {v0 : Nat} {v1 : Int32} {g1 : Nat} (C : Cx κ cX7_add RX7 (rmN 1) 2) (K : RtI κ cX7_add .boolean G post) (ho_v0 : isO G v0 7) (hr_g1 : G.2.2.2 v0 0 = some g1) (ho_g1 : isO G g1 13) (D : Dat) (hw : X7_add_j16 G post v0 v1 g1 D) : J κ 0 0 G D 16 [] [] := by
  unfold X7_add_j16 at hw
  refine j_iconst (v := 0) C dX7_add_16 (by decide) ?_
  obtain ⟨hb1, hw⟩ := hw
  exact K _ _ _ _ dX7_add_17 (isB_n hb1) hw
def X7_add_wp (G : Shp) (D : Dat) (v0 : Nat) (v1 : Int32) (post : Int32 → Dat → Prop) : Prop := isO G v0 7 ∧ ∃ g1, G.2.2.2 v0 0 = some g1 ∧ isO G g1 13 ∧ X8_isTick_wp G D v1 (fun r1 D2 => ((r1 = 0 → X7_add_j16 G post v0 v1 g1 D2) ∧ (¬ (r1 = 0) → (vp_in v1 (G.2.2.1 g1) ∧ (((D2.1 g1 v1.toNatClampNeg) = 0 → (vp_in v1 (G.2.2.1 g1) ∧ isB 1 ∧ post 1 (dI (dI D2 g1 v1.toNatClampNeg (vp_nar .boolean 1)) v0 1 (((dI D2 g1 v1.toNatClampNeg (vp_nar .boolean 1)).1 v0 1) + 1)))) ∧ (¬ ((D2.1 g1 v1.toNatClampNeg) = 0) → X7_add_j16 G post v0 v1 g1 D2))))))
set_option maxRecDepth 100000 in
set_option maxHeartbeats 4000000 in
theorem X7_add_ok (l : Launch) (G : Shp) (D : Dat) (v0 : Nat) (v1 : Int32) (post : Int32 → Dat → Prop) (hw : X7_add_wp G D v0 v1 post) : CtI l yX7_add cX7_add 2 .boolean (rmN 1) [.ref v0, .int v1] G D post := by
  obtain ⟨ho_v0, g1, hr_g1, ho_g1, hw⟩ := hw
  refine ctI_of (by decide) rfl (Nat.le_of_ble_eq_true rfl) ?_
  intro κ hκ C K
  subst hκ
  have C : Cx κ cX7_add RX7 (rmN 1) 2 := C
  refine j_iload_n C dX7_add_0 rfl 1 rfl ?_
  refine j_cNI (As := [.int v1]) (st := []) C (X8_isTick_ok κ.2.1 G D v1 _ hw) nw_324 ms_X8_isTick ⟨by decide, by decide⟩ ⟨rfl, rfl⟩ rfl rfl (Nat.le_of_ble_eq_true rfl) ⟨Nat.zero_le _, Nat.zero_le _⟩ dX7_add_1 (fun r1 D2 hw => ?_)
  refine j_if_eq (tgt := 16) C dX7_add_4 (by decide) (fun hc => ?_) (fun hc => ?_)
  · have hw := hw.1 hc
    exact J.sub (X7_add_j16_ok C K ho_v0 hr_g1 ho_g1 D2 hw) [] rfl
  · have hw := hw.2 hc
    refine j_aload_n C dX7_add_7 rfl 0 rfl ?_
    refine gf_7_0 C ho_v0 hr_g1 k_71 dX7_add_8 ?_
    refine j_iload_n C dX7_add_11 rfl 1 rfl ?_
    obtain ⟨hi3, hw⟩ := hw
    refine j_zald C ho_g1 hi3 dX7_add_12 ?_
    refine j_if_eq (tgt := 18) C dX7_add_13 (by decide) (fun hc => ?_) (fun hc => ?_)
    · have hw := hw.1 hc
      refine j_aload_n C dX7_add_18 rfl 0 rfl ?_
      refine gf_7_0 C ho_v0 hr_g1 k_71 dX7_add_19 ?_
      refine j_iload_n C dX7_add_22 rfl 1 rfl ?_
      refine j_iconst (v := 1) C dX7_add_23 (by decide) ?_
      obtain ⟨hi4, hw⟩ := hw
      refine j_zast C ho_g1 hi4 dX7_add_24 ?_
      refine j_aload_n C dX7_add_25 rfl 0 rfl ?_
      refine j_dup C dX7_add_26 rfl ?_
      refine gf_7_1 C ho_v0 k_72 dX7_add_27 ?_
      refine j_iconst (v := 1) C dX7_add_30 (by decide) ?_
      refine j_iadd C dX7_add_31 ?_
      refine pf_7_1 C ho_v0 k_72 dX7_add_32 ?_
      refine j_iconst (v := 1) C dX7_add_35 (by decide) ?_
      obtain ⟨hb5, hw⟩ := hw
      exact K _ _ _ _ dX7_add_36 (isB_n hb5) hw
    · have hw := hw.2 hc
      exact J.sub (X7_add_j16_ok C K ho_v0 hr_g1 ho_g1 D2 hw) [] rfl
/-! X7_has -/
def X7_has_j21 (G : Shp) (post : Int32 → Dat → Prop) (v0 : Nat) (v1 : Int32) (g1 : Nat) (s0 : Int32) (D : Dat) : Prop := (isB s0 ∧ post s0 D)
set_option maxRecDepth 100000 in
set_option maxHeartbeats 4000000 in
theorem X7_has_j21_ok {κ : Ctx} {G : Shp} {post : Int32 → Dat → Prop} {v0 : Nat} {v1 : Int32} {g1 : Nat} (C : Cx κ cX7_has RX7 (rmN 1) 2) (K : RtI κ cX7_has .boolean G post) (ho_v0 : isO G v0 7) (hr_g1 : G.2.2.2 v0 0 = some g1) (ho_g1 : isO G g1 13) (s0 : Int32) (D : Dat) (hw : X7_has_j21 G post v0 v1 g1 s0 D) : J κ 0 0 G D 21 [] [.int s0] := by
  unfold X7_has_j21 at hw
  obtain ⟨hb1, hw⟩ := hw
  exact K _ _ _ _ dX7_has_21 (isB_n hb1) hw
def X7_has_j20 (G : Shp) (post : Int32 → Dat → Prop) (v0 : Nat) (v1 : Int32) (g1 : Nat) (D : Dat) : Prop := X7_has_j21 G post v0 v1 g1 0 D
set_option maxRecDepth 100000 in
set_option maxHeartbeats 4000000 in
theorem X7_has_j20_ok {κ : Ctx} {G : Shp} {post : Int32 → Dat → Prop} {v0 : Nat} {v1 : Int32} {g1 : Nat} (C : Cx κ cX7_has RX7 (rmN 1) 2) (K : RtI κ cX7_has .boolean G post) (ho_v0 : isO G v0 7) (hr_g1 : G.2.2.2 v0 0 = some g1) (ho_g1 : isO G g1 13) (D : Dat) (hw : X7_has_j20 G post v0 v1 g1 D) : J κ 0 0 G D 20 [] [] := by
  unfold X7_has_j20 at hw
  refine j_iconst (v := 0) C dX7_has_20 (by decide) ?_
  exact J.sub (X7_has_j21_ok C K ho_v0 hr_g1 ho_g1 0 D hw) [] rfl
def X7_has_wp (G : Shp) (D : Dat) (v0 : Nat) (v1 : Int32) (post : Int32 → Dat → Prop) : Prop := isO G v0 7 ∧ ∃ g1, G.2.2.2 v0 0 = some g1 ∧ isO G g1 13 ∧ X8_isTick_wp G D v1 (fun r1 D2 => ((r1 = 0 → X7_has_j20 G post v0 v1 g1 D2) ∧ (¬ (r1 = 0) → (vp_in v1 (G.2.2.1 g1) ∧ (((D2.1 g1 v1.toNatClampNeg) = 0 → X7_has_j20 G post v0 v1 g1 D2) ∧ (¬ ((D2.1 g1 v1.toNatClampNeg) = 0) → X7_has_j21 G post v0 v1 g1 1 D2))))))
set_option maxRecDepth 100000 in
set_option maxHeartbeats 4000000 in
theorem X7_has_ok (l : Launch) (G : Shp) (D : Dat) (v0 : Nat) (v1 : Int32) (post : Int32 → Dat → Prop) (hw : X7_has_wp G D v0 v1 post) : CtI l yX7_has cX7_has 2 .boolean (rmN 1) [.ref v0, .int v1] G D post := by
  obtain ⟨ho_v0, g1, hr_g1, ho_g1, hw⟩ := hw
  refine ctI_of (by decide) rfl (Nat.le_of_ble_eq_true rfl) ?_
  intro κ hκ C K
  subst hκ
  have C : Cx κ cX7_has RX7 (rmN 1) 2 := C
  refine j_iload_n C dX7_has_0 rfl 1 rfl ?_
  refine j_cNI (As := [.int v1]) (st := []) C (X8_isTick_ok κ.2.1 G D v1 _ hw) nw_324 ms_X8_isTick ⟨by decide, by decide⟩ ⟨rfl, rfl⟩ rfl rfl (Nat.le_of_ble_eq_true rfl) ⟨Nat.zero_le _, Nat.zero_le _⟩ dX7_has_1 (fun r1 D2 hw => ?_)
  refine j_if_eq (tgt := 20) C dX7_has_4 (by decide) (fun hc => ?_) (fun hc => ?_)
  · have hw := hw.1 hc
    exact J.sub (X7_has_j20_ok C K ho_v0 hr_g1 ho_g1 D2 hw) [] rfl
  · have hw := hw.2 hc
    refine j_aload_n C dX7_has_7 rfl 0 rfl ?_
    refine gf_7_0 C ho_v0 hr_g1 k_71 dX7_has_8 ?_
    refine j_iload_n C dX7_has_11 rfl 1 rfl ?_
    obtain ⟨hi3, hw⟩ := hw
    refine j_zald C ho_g1 hi3 dX7_has_12 ?_
    refine j_if_eq (tgt := 20) C dX7_has_13 (by decide) (fun hc => ?_) (fun hc => ?_)
    · have hw := hw.1 hc
      exact J.sub (X7_has_j20_ok C K ho_v0 hr_g1 ho_g1 D2 hw) [] rfl
    · have hw := hw.2 hc
      refine j_iconst (v := 1) C dX7_has_16 (by decide) ?_
      refine j_goto (tgt := 21) C dX7_has_17 (by decide) ?_
      exact J.sub (X7_has_j21_ok C K ho_v0 hr_g1 ho_g1 1 D2 hw) [] rfl
/-! X8_areFourRows -/
def X8_areFourRows_j80 (G : Shp) (post : Int32 → Dat → Prop) (v0 : Nat) (v1 : Int32) (v2 : Int32) (v3 : Int32) (v4 : Int32) (s0 : Int32) (D : Dat) : Prop := (isB s0 ∧ post s0 D)
set_option maxRecDepth 100000 in
set_option maxHeartbeats 4000000 in
theorem X8_areFourRows_j80_ok {κ : Ctx} {G : Shp} {post : Int32 → Dat → Prop} {v0 : Nat} {v1 : Int32} {v2 : Int32} {v3 : Int32} {v4 : Int32} (C : Cx κ cX8_areFourRows RX8 (rmN 1) 5) (K : RtI κ cX8_areFourRows .boolean G post) (ho_v0 : isO G v0 8) (s0 : Int32) (D : Dat) (hw : X8_areFourRows_j80 G post v0 v1 v2 v3 v4 s0 D) : J κ 0 0 G D 80 [] [.int s0] := by
  unfold X8_areFourRows_j80 at hw
  obtain ⟨hb1, hw⟩ := hw
  exact K _ _ _ _ dX8_areFourRows_80 (isB_n hb1) hw
def X8_areFourRows_j79 (G : Shp) (post : Int32 → Dat → Prop) (v0 : Nat) (v1 : Int32) (v2 : Int32) (v3 : Int32) (v4 : Int32) (D : Dat) : Prop := X8_areFourRows_j80 G post v0 v1 v2 v3 v4 0 D
set_option maxRecDepth 100000 in
set_option maxHeartbeats 4000000 in
theorem X8_areFourRows_j79_ok {κ : Ctx} {G : Shp} {post : Int32 → Dat → Prop} {v0 : Nat} {v1 : Int32} {v2 : Int32} {v3 : Int32} {v4 : Int32} (C : Cx κ cX8_areFourRows RX8 (rmN 1) 5) (K : RtI κ cX8_areFourRows .boolean G post) (ho_v0 : isO G v0 8) (D : Dat) (hw : X8_areFourRows_j79 G post v0 v1 v2 v3 v4 D) : J κ 0 0 G D 79 [] [] := by
  unfold X8_areFourRows_j79 at hw
  refine j_iconst (v := 0) C dX8_areFourRows_79 (by decide) ?_
  exact J.sub (X8_areFourRows_j80_ok C K ho_v0 0 D hw) [] rfl
def X8_areFourRows_j42 (G : Shp) (post : Int32 → Dat → Prop) (v0 : Nat) (v1 : Int32) (v2 : Int32) (v3 : Int32) (v4 : Int32) (D : Dat) : Prop := ((v1 = v2 → X8_areFourRows_j79 G post v0 v1 v2 v3 v4 D) ∧ (¬ (v1 = v2) → ((v1 = v3 → X8_areFourRows_j79 G post v0 v1 v2 v3 v4 D) ∧ (¬ (v1 = v3) → ((v1 = v4 → X8_areFourRows_j79 G post v0 v1 v2 v3 v4 D) ∧ (¬ (v1 = v4) → ((v2 = v3 → X8_areFourRows_j79 G post v0 v1 v2 v3 v4 D) ∧ (¬ (v2 = v3) → ((v2 = v4 → X8_areFourRows_j79 G post v0 v1 v2 v3 v4 D) ∧ (¬ (v2 = v4) → ((v3 = v4 → X8_areFourRows_j79 G post v0 v1 v2 v3 v4 D) ∧ (¬ (v3 = v4) → X8_areFourRows_j80 G post v0 v1 v2 v3 v4 1 D))))))))))))
set_option maxRecDepth 100000 in
set_option maxHeartbeats 4000000 in
theorem X8_areFourRows_j42_ok {κ : Ctx} {G : Shp} {post : Int32 → Dat → Prop} {v0 : Nat} {v1 : Int32} {v2 : Int32} {v3 : Int32} {v4 : Int32} (C : Cx κ cX8_areFourRows RX8 (rmN 1) 5) (K : RtI κ cX8_areFourRows .boolean G post) (ho_v0 : isO G v0 8) (D : Dat) (hw : X8_areFourRows_j42 G post v0 v1 v2 v3 v4 D) : J κ 0 0 G D 42 [(1, .int v1), (2, .int v2), (3, .int v3), (4, .int v4)] [] := by
  unfold X8_areFourRows_j42 at hw
  refine j_iload_n C dX8_areFourRows_42 rfl 0 rfl ?_
  refine j_iload_n C dX8_areFourRows_43 rfl 1 rfl ?_
  refine j_icmp_eq (tgt := 79) C dX8_areFourRows_44 (by decide) (fun hc => ?_) (fun hc => ?_)
  · have hw := hw.1 hc
    exact J.sub (X8_areFourRows_j79_ok C K ho_v0 D hw) [] rfl
  · have hw := hw.2 hc
    refine j_iload_n C dX8_areFourRows_47 rfl 0 rfl ?_
    refine j_iload_n C dX8_areFourRows_48 rfl 2 rfl ?_
    refine j_icmp_eq (tgt := 79) C dX8_areFourRows_49 (by decide) (fun hc => ?_) (fun hc => ?_)
    · have hw := hw.1 hc
      exact J.sub (X8_areFourRows_j79_ok C K ho_v0 D hw) [] rfl
    · have hw := hw.2 hc
      refine j_iload_n C dX8_areFourRows_52 rfl 0 rfl ?_
      refine j_iload C dX8_areFourRows_53 3 rfl ?_
      refine j_icmp_eq (tgt := 79) C dX8_areFourRows_55 (by decide) (fun hc => ?_) (fun hc => ?_)
      · have hw := hw.1 hc
        exact J.sub (X8_areFourRows_j79_ok C K ho_v0 D hw) [] rfl
      · have hw := hw.2 hc
        refine j_iload_n C dX8_areFourRows_58 rfl 1 rfl ?_
        refine j_iload_n C dX8_areFourRows_59 rfl 2 rfl ?_
        refine j_icmp_eq (tgt := 79) C dX8_areFourRows_60 (by decide) (fun hc => ?_) (fun hc => ?_)
        · have hw := hw.1 hc
          exact J.sub (X8_areFourRows_j79_ok C K ho_v0 D hw) [] rfl
        · have hw := hw.2 hc
          refine j_iload_n C dX8_areFourRows_63 rfl 1 rfl ?_
          refine j_iload C dX8_areFourRows_64 3 rfl ?_
          refine j_icmp_eq (tgt := 79) C dX8_areFourRows_66 (by decide) (fun hc => ?_) (fun hc => ?_)
          · have hw := hw.1 hc
            exact J.sub (X8_areFourRows_j79_ok C K ho_v0 D hw) [] rfl
          · have hw := hw.2 hc
            refine j_iload_n C dX8_areFourRows_69 rfl 2 rfl ?_
            refine j_iload C dX8_areFourRows_70 3 rfl ?_
            refine j_icmp_eq (tgt := 79) C dX8_areFourRows_72 (by decide) (fun hc => ?_) (fun hc => ?_)
            · have hw := hw.1 hc
              exact J.sub (X8_areFourRows_j79_ok C K ho_v0 D hw) [] rfl
            · have hw := hw.2 hc
              refine j_iconst (v := 1) C dX8_areFourRows_75 (by decide) ?_
              refine j_goto (tgt := 80) C dX8_areFourRows_76 (by decide) ?_
              exact J.sub (X8_areFourRows_j80_ok C K ho_v0 1 D hw) [] rfl
def X8_areFourRows_j25 (G : Shp) (post : Int32 → Dat → Prop) (v0 : Nat) (v1 : Int32) (v2 : Int32) (v3 : Int32) (v4 : Int32) (D : Dat) : Prop := (isB 0 ∧ post 0 D)
set_option maxRecDepth 100000 in
set_option maxHeartbeats 4000000 in
theorem X8_areFourRows_j25_ok {κ : Ctx} {G : Shp} {post : Int32 → Dat → Prop} {v0 : Nat} {v1 : Int32} {v2 : Int32} {v3 : Int32} {v4 : Int32} (C : Cx κ cX8_areFourRows RX8 (rmN 1) 5) (K : RtI κ cX8_areFourRows .boolean G post) (ho_v0 : isO G v0 8) (D : Dat) (hw : X8_areFourRows_j25 G post v0 v1 v2 v3 v4 D) : J κ 0 0 G D 25 [] [] := by
  unfold X8_areFourRows_j25 at hw
  refine j_iconst (v := 0) C dX8_areFourRows_25 (by decide) ?_
  obtain ⟨hb1, hw⟩ := hw
  exact K _ _ _ _ dX8_areFourRows_26 (isB_n hb1) hw
def X8_areFourRows_wp (G : Shp) (D : Dat) (v0 : Nat) (v1 : Int32) (v2 : Int32) (v3 : Int32) (v4 : Int32) (post : Int32 → Dat → Prop) : Prop := isO G v0 8 ∧ X8_rowOf_wp G D v0 v1 (fun r1 D2 => (r1 = none → X8_areFourRows_j25 G post v0 v1 v2 v3 v4 D2) ∧ (∀ y3, r1 = some y3 → X8_rowOf_wp G D2 v0 v2 (fun r4 D5 => (r4 = none → X8_areFourRows_j25 G post v0 v1 v2 v3 v4 D5) ∧ (∀ y6, r4 = some y6 → X8_rowOf_wp G D5 v0 v4 (fun r7 D8 => (r7 = none → X8_areFourRows_j25 G post v0 v1 v2 v3 v4 D8) ∧ (∀ y9, r7 = some y9 → ((v3 = (-1) → X8_areFourRows_j42 G post v0 v1 v2 v3 v4 D8) ∧ (¬ (v3 = (-1)) → X8_rowOf_wp G D8 v0 v3 (fun r10 D11 => (r10 = none → (isB 0 ∧ post 0 D11)) ∧ (∀ y12, r10 = some y12 → X8_areFourRows_j42 G post v0 v1 v2 v3 v4 D11))))))))))
set_option maxRecDepth 100000 in
set_option maxHeartbeats 4000000 in
theorem X8_areFourRows_ok (l : Launch) (G : Shp) (D : Dat) (v0 : Nat) (v1 : Int32) (v2 : Int32) (v3 : Int32) (v4 : Int32) (post : Int32 → Dat → Prop) (hw : X8_areFourRows_wp G D v0 v1 v2 v3 v4 post) : CtI l yX8_areFourRows cX8_areFourRows 5 .boolean (rmN 1) [.ref v0, .int v1, .int v2, .int v3, .int v4] G D post := by
  obtain ⟨ho_v0, hw⟩ := hw
  refine ctI_of (by decide) rfl (Nat.le_of_ble_eq_true rfl) ?_
  intro κ hκ C K
  subst hκ
  have C : Cx κ cX8_areFourRows RX8 (rmN 1) 5 := C
  refine j_aload_n C dX8_areFourRows_0 rfl 0 rfl ?_
  refine j_iload_n C dX8_areFourRows_1 rfl 1 rfl ?_
  refine j_cVQ (As := [.int v1]) (st := []) C (X8_rowOf_ok κ.2.1 G D v0 v1 _ hw) ho_v0 rfl k_299 mv_X8_rowOf ⟨by decide, by decide⟩ ⟨rfl, rfl⟩ rfl rfl (Nat.le_of_ble_eq_true rfl) ⟨Nat.zero_le _, Nat.zero_le _⟩ dX8_areFourRows_2 (fun r1 D2 hw => ?_)
  refine j_ifnull (tgt := 25) C dX8_areFourRows_5 (by decide) (fun hc => ?_) (fun y3 hc => ?_)
  · have hw := hw.1 hc
    exact J.sub (X8_areFourRows_j25_ok C K ho_v0 D2 hw) [] rfl
  · replace hw := hw.2 y3 hc
    subst hc
    show J κ 0 0 G D2 8 [(0, .ref v0), (1, .int v1), (2, .int v2), (3, .int v3), (4, .int v4)] []
    refine j_aload_n C dX8_areFourRows_8 rfl 0 rfl ?_
    refine j_iload_n C dX8_areFourRows_9 rfl 2 rfl ?_
    refine j_cVQ (As := [.int v2]) (st := []) C (X8_rowOf_ok κ.2.1 G D2 v0 v2 _ hw) ho_v0 rfl k_299 mv_X8_rowOf ⟨by decide, by decide⟩ ⟨rfl, rfl⟩ rfl rfl (Nat.le_of_ble_eq_true rfl) ⟨Nat.zero_le _, Nat.zero_le _⟩ dX8_areFourRows_10 (fun r4 D5 hw => ?_)
    refine j_ifnull (tgt := 25) C dX8_areFourRows_13 (by decide) (fun hc => ?_) (fun y6 hc => ?_)
    · have hw := hw.1 hc
      exact J.sub (X8_areFourRows_j25_ok C K ho_v0 D5 hw) [] rfl
    · replace hw := hw.2 y6 hc
      subst hc
      show J κ 0 0 G D5 16 [(0, .ref v0), (1, .int v1), (2, .int v2), (3, .int v3), (4, .int v4)] []
      refine j_aload_n C dX8_areFourRows_16 rfl 0 rfl ?_
      refine j_iload C dX8_areFourRows_17 4 rfl ?_
      refine j_cVQ (As := [.int v4]) (st := []) C (X8_rowOf_ok κ.2.1 G D5 v0 v4 _ hw) ho_v0 rfl k_299 mv_X8_rowOf ⟨by decide, by decide⟩ ⟨rfl, rfl⟩ rfl rfl (Nat.le_of_ble_eq_true rfl) ⟨Nat.zero_le _, Nat.zero_le _⟩ dX8_areFourRows_19 (fun r7 D8 hw => ?_)
      refine j_ifnonnull (tgt := 27) C dX8_areFourRows_22 (by decide) (fun y9 hc => ?_) (fun hc => ?_)
      · replace hw := hw.2 y9 hc
        subst hc
        show J κ 0 0 G D8 27 [(0, .ref v0), (1, .int v1), (2, .int v2), (3, .int v3), (4, .int v4)] []
        refine j_iload_n C dX8_areFourRows_27 rfl 3 rfl ?_
        refine j_iconst (v := (-1)) C dX8_areFourRows_28 (by decide) ?_
        refine j_icmp_eq (tgt := 42) C dX8_areFourRows_29 (by decide) (fun hc => ?_) (fun hc => ?_)
        · have hw := hw.1 hc
          exact J.sub (X8_areFourRows_j42_ok C K ho_v0 D8 hw) [1, 2, 3, 4] rfl
        · have hw := hw.2 hc
          refine j_aload_n C dX8_areFourRows_32 rfl 0 rfl ?_
          refine j_iload_n C dX8_areFourRows_33 rfl 3 rfl ?_
          refine j_cVQ (As := [.int v3]) (st := []) C (X8_rowOf_ok κ.2.1 G D8 v0 v3 _ hw) ho_v0 rfl k_299 mv_X8_rowOf ⟨by decide, by decide⟩ ⟨rfl, rfl⟩ rfl rfl (Nat.le_of_ble_eq_true rfl) ⟨Nat.zero_le _, Nat.zero_le _⟩ dX8_areFourRows_34 (fun r10 D11 hw => ?_)
          refine j_ifnonnull (tgt := 42) C dX8_areFourRows_37 (by decide) (fun y12 hc => ?_) (fun hc => ?_)
          · replace hw := hw.2 y12 hc
            subst hc
            show J κ 0 0 G D11 42 [(0, .ref v0), (1, .int v1), (2, .int v2), (3, .int v3), (4, .int v4)] []
            exact J.sub (X8_areFourRows_j42_ok C K ho_v0 D11 hw) [1, 2, 3, 4] rfl
          · have hw := hw.1 hc
            refine j_iconst (v := 0) C dX8_areFourRows_40 (by decide) ?_
            obtain ⟨hb13, hw⟩ := hw
            exact K _ _ _ _ dX8_areFourRows_41 (isB_n hb13) hw
      · have hw := hw.1 hc
        exact J.sub (X8_areFourRows_j25_ok C K ho_v0 D8 hw) [] rfl
/-! X8_feast -/
def X8_feast_wp (G : Shp) (D : Dat) (v0 : Nat) (v1 : Int32) (post : Int32 → Dat → Prop) : Prop := isO G v0 8 ∧ X8_rowOf_wp G D v0 v1 (fun r1 D2 => (r1 = none → X8_giveNone_wp G D2 v0 1 (fun r4 D5 => post r4 D5)) ∧ (∀ y3, r1 = some y3 → (isO G y3 3 ∧ (((D2.1 y3 5) < 2 → X8_give_wp G (dI D2 y3 5 ((D2.1 y3 5) + 1)) v0 (((dI D2 y3 5 ((D2.1 y3 5) + 1)).1 y3 5) - 1) (fun r7 D8 => post r7 D8)) ∧ (¬ ((D2.1 y3 5) < 2) → X8_giveNone_wp G D2 v0 3 (fun r9 D10 => post r9 D10))))))
set_option maxRecDepth 100000 in
set_option maxHeartbeats 4000000 in
theorem X8_feast_ok (l : Launch) (G : Shp) (D : Dat) (v0 : Nat) (v1 : Int32) (post : Int32 → Dat → Prop) (hw : X8_feast_wp G D v0 v1 post) : CtI l yX8_feast cX8_feast 3 .int (rmN 1) [.ref v0, .int v1] G D post := by
  obtain ⟨ho_v0, hw⟩ := hw
  refine ctI_of (by decide) rfl (Nat.le_of_ble_eq_true rfl) ?_
  intro κ hκ C K
  subst hκ
  have C : Cx κ cX8_feast RX8 (rmN 1) 3 := C
  refine j_aload_n C dX8_feast_0 rfl 0 rfl ?_
  refine j_iload_n C dX8_feast_1 rfl 1 rfl ?_
  refine j_cVQ (As := [.int v1]) (st := []) C (X8_rowOf_ok κ.2.1 G D v0 v1 _ hw) ho_v0 rfl k_299 mv_X8_rowOf ⟨by decide, by decide⟩ ⟨rfl, rfl⟩ rfl rfl (Nat.le_of_ble_eq_true rfl) ⟨Nat.zero_le _, Nat.zero_le _⟩ dX8_feast_2 (fun r1 D2 hw => ?_)
  refine j_astore_nO C dX8_feast_5 rfl (by decide) rfl ?_
  refine j_aload_nO C dX8_feast_6 rfl 0 rfl ?_
  refine j_ifnonnull (tgt := 16) C dX8_feast_7 (by decide) (fun y3 hc => ?_) (fun hc => ?_)
  · replace hw := hw.2 y3 hc
    subst hc
    show J κ 0 0 G D2 16 [(2, .ref y3), (0, .ref v0), (1, .int v1)] []
    refine j_aload_n C dX8_feast_16 rfl 0 rfl ?_
    obtain ⟨ho6, hw⟩ := hw
    refine gf_3_5 C ho6 k_98 dX8_feast_17 ?_
    refine j_iconst (v := 2) C dX8_feast_20 (by decide) ?_
    refine j_icmp_lt (tgt := 30) C dX8_feast_21 (by decide) (fun hc => ?_) (fun hc => ?_)
    · have hw := hw.1 hc
      refine j_aload_n C dX8_feast_30 rfl 0 rfl ?_
      refine j_dup C dX8_feast_31 rfl ?_
      refine gf_3_5 C ho6 k_98 dX8_feast_32 ?_
      refine j_iconst (v := 1) C dX8_feast_35 (by decide) ?_
      refine j_iadd C dX8_feast_36 ?_
      refine pf_3_5 C ho6 k_98 dX8_feast_37 ?_
      refine j_aload_n C dX8_feast_40 rfl 1 rfl ?_
      refine j_aload_n C dX8_feast_41 rfl 0 rfl ?_
      refine gf_3_5 C ho6 k_98 dX8_feast_42 ?_
      refine j_iconst (v := 1) C dX8_feast_45 (by decide) ?_
      refine j_isub C dX8_feast_46 ?_
      refine j_cVI (As := [.int (((dI D2 y3 5 ((D2.1 y3 5) + 1)).1 y3 5) - 1)]) (st := []) C (X8_give_ok κ.2.1 G (dI D2 y3 5 ((D2.1 y3 5) + 1)) v0 (((dI D2 y3 5 ((D2.1 y3 5) + 1)).1 y3 5) - 1) _ hw) ho_v0 rfl k_354 mv_X8_give ⟨by decide, by decide⟩ ⟨rfl, rfl⟩ rfl rfl (Nat.le_of_ble_eq_true rfl) ⟨Nat.zero_le _, Nat.zero_le _⟩ dX8_feast_47 (fun r7 D8 hw => ?_)
      exact K _ _ _ _ dX8_feast_50 rfl hw
    · have hw := hw.2 hc
      refine j_aload_n C dX8_feast_24 rfl 1 rfl ?_
      refine j_iconst (v := 3) C dX8_feast_25 (by decide) ?_
      refine j_cVI (As := [.int 3]) (st := []) C (X8_giveNone_ok κ.2.1 G D2 v0 3 _ hw) ho_v0 rfl k_349 mv_X8_giveNone ⟨by decide, by decide⟩ ⟨rfl, rfl⟩ rfl rfl (Nat.le_of_ble_eq_true rfl) ⟨Nat.zero_le _, Nat.zero_le _⟩ dX8_feast_26 (fun r9 D10 hw => ?_)
      exact K _ _ _ _ dX8_feast_29 rfl hw
  · have hw := hw.1 hc
    refine j_aload_n C dX8_feast_10 rfl 1 rfl ?_
    refine j_iconst (v := 1) C dX8_feast_11 (by decide) ?_
    refine j_cVI (As := [.int 1]) (st := []) C (X8_giveNone_ok κ.2.1 G D2 v0 1 _ hw) ho_v0 rfl k_349 mv_X8_giveNone ⟨by decide, by decide⟩ ⟨rfl, rfl⟩ rfl rfl (Nat.le_of_ble_eq_true rfl) ⟨Nat.zero_le _, Nat.zero_le _⟩ dX8_feast_12 (fun r4 D5 hw => ?_)
    exact K _ _ _ _ dX8_feast_15 rfl hw
/-! X8_model -/
def X8_model_j39 (G : Shp) (post : Int32 → Dat → Prop) (v0 : Nat) (v1 : Int32) (v2 : Int32) (v3 : Int32) (v4 : Nat) (D : Dat) : Prop := (isO G v4 3 ∧ isB v2 ∧ X8_done_wp G (dI (dI D v4 6 v2) v4 7 v3) v0 (fun r3 D4 => (isB r3 ∧ post r3 D4)))
set_option maxRecDepth 100000 in
set_option maxHeartbeats 4000000 in
theorem X8_model_j39_ok {κ : Ctx} {G : Shp} {post : Int32 → Dat → Prop} {v0 : Nat} {v1 : Int32} {v2 : Int32} {v3 : Int32} (C : Cx κ cX8_model RX8 (rmN 1) 5) (K : RtI κ cX8_model .boolean G post) (ho_v0 : isO G v0 8) (v4 : Nat) (D : Dat) (hw : X8_model_j39 G post v0 v1 v2 v3 v4 D) : J κ 0 0 G D 39 [(0, .ref v0), (2, .int v2), (3, .int v3), (4, .ref v4)] [] := by
  unfold X8_model_j39 at hw
  refine j_aload C dX8_model_39 3 rfl ?_
  refine j_iload_n C dX8_model_41 rfl 1 rfl ?_
  obtain ⟨ho1, hw⟩ := hw
  obtain ⟨hb2, hw⟩ := hw
  refine pf_3_6 C ho1 hb2 k_101 dX8_model_42 ?_
  refine j_aload C dX8_model_45 3 rfl ?_
  refine j_iload_n C dX8_model_47 rfl 2 rfl ?_
  refine pf_3_7 C ho1 k_104 dX8_model_48 ?_
  refine j_aload_n C dX8_model_51 rfl 0 rfl ?_
  refine j_cVI (As := []) (st := []) C (X8_done_ok κ.2.1 G (dI (dI D v4 6 v2) v4 7 v3) v0 _ hw) ho_v0 rfl k_325 mv_X8_done ⟨by decide, by decide⟩ ⟨rfl, rfl⟩ rfl rfl (Nat.le_of_ble_eq_true rfl) ⟨Nat.zero_le _, Nat.zero_le _⟩ dX8_model_52 (fun r3 D4 hw => ?_)
  obtain ⟨hb5, hw⟩ := hw
  exact K _ _ _ _ dX8_model_55 (isB_n hb5) hw
def X8_model_j33 (G : Shp) (post : Int32 → Dat → Prop) (v0 : Nat) (v1 : Int32) (v2 : Int32) (v3 : Int32) (D : Dat) : Prop := X8_refuse_wp G D v0 2 (fun r1 D2 => (isB r1 ∧ post r1 D2))
set_option maxRecDepth 100000 in
set_option maxHeartbeats 4000000 in
theorem X8_model_j33_ok {κ : Ctx} {G : Shp} {post : Int32 → Dat → Prop} {v0 : Nat} {v1 : Int32} {v2 : Int32} {v3 : Int32} (C : Cx κ cX8_model RX8 (rmN 1) 5) (K : RtI κ cX8_model .boolean G post) (ho_v0 : isO G v0 8) (D : Dat) (hw : X8_model_j33 G post v0 v1 v2 v3 D) : J κ 0 0 G D 33 [(0, .ref v0)] [] := by
  unfold X8_model_j33 at hw
  refine j_aload_n C dX8_model_33 rfl 0 rfl ?_
  refine j_iconst (v := 2) C dX8_model_34 (by decide) ?_
  refine j_cVI (As := [.int 2]) (st := []) C (X8_refuse_ok κ.2.1 G D v0 2 _ hw) ho_v0 rfl k_306 mv_X8_refuse ⟨by decide, by decide⟩ ⟨rfl, rfl⟩ rfl rfl (Nat.le_of_ble_eq_true rfl) ⟨Nat.zero_le _, Nat.zero_le _⟩ dX8_model_35 (fun r1 D2 hw => ?_)
  obtain ⟨hb3, hw⟩ := hw
  exact K _ _ _ _ dX8_model_38 (isB_n hb3) hw
def X8_model_wp (G : Shp) (D : Dat) (v0 : Nat) (v1 : Int32) (v2 : Int32) (v3 : Int32) (post : Int32 → Dat → Prop) : Prop := isO G v0 8 ∧ X8_rowOf_wp G D v0 v1 (fun r1 D2 => (r1 = none → X8_refuse_wp G D2 v0 1 (fun r4 D5 => (isB r4 ∧ post r4 D5))) ∧ (∀ y3, r1 = some y3 → ((v3 = 0 → X8_model_j39 G post v0 v1 v2 v3 y3 D2) ∧ (¬ (v3 = 0) → ((v3 < 2 → X8_model_j33 G post v0 v1 v2 v3 D2) ∧ (¬ (v3 < 2) → ((v3 ≤ 7 → X8_model_j39 G post v0 v1 v2 v3 y3 D2) ∧ (¬ (v3 ≤ 7) → X8_model_j33 G post v0 v1 v2 v3 D2))))))))
set_option maxRecDepth 100000 in
set_option maxHeartbeats 4000000 in
theorem X8_model_ok (l : Launch) (G : Shp) (D : Dat) (v0 : Nat) (v1 : Int32) (v2 : Int32) (v3 : Int32) (post : Int32 → Dat → Prop) (hw : X8_model_wp G D v0 v1 v2 v3 post) : CtI l yX8_model cX8_model 5 .boolean (rmN 1) [.ref v0, .int v1, .int v2, .int v3] G D post := by
  obtain ⟨ho_v0, hw⟩ := hw
  refine ctI_of (by decide) rfl (Nat.le_of_ble_eq_true rfl) ?_
  intro κ hκ C K
  subst hκ
  have C : Cx κ cX8_model RX8 (rmN 1) 5 := C
  refine j_aload_n C dX8_model_0 rfl 0 rfl ?_
  refine j_iload_n C dX8_model_1 rfl 1 rfl ?_
  refine j_cVQ (As := [.int v1]) (st := []) C (X8_rowOf_ok κ.2.1 G D v0 v1 _ hw) ho_v0 rfl k_299 mv_X8_rowOf ⟨by decide, by decide⟩ ⟨rfl, rfl⟩ rfl rfl (Nat.le_of_ble_eq_true rfl) ⟨Nat.zero_le _, Nat.zero_le _⟩ dX8_model_2 (fun r1 D2 hw => ?_)
  refine j_astoreO C dX8_model_5 (by decide) rfl ?_
  refine j_aloadO C dX8_model_7 0 rfl ?_
  refine j_ifnonnull (tgt := 18) C dX8_model_9 (by decide) (fun y3 hc => ?_) (fun hc => ?_)
  · replace hw := hw.2 y3 hc
    subst hc
    show J κ 0 0 G D2 18 [(4, .ref y3), (0, .ref v0), (1, .int v1), (2, .int v2), (3, .int v3)] []
    refine j_iload_n C dX8_model_18 rfl 4 rfl ?_
    refine j_if_eq (tgt := 39) C dX8_model_19 (by decide) (fun hc => ?_) (fun hc => ?_)
    · have hw := hw.1 hc
      exact J.sub (X8_model_j39_ok C K ho_v0 y3 D2 hw) [1, 3, 4, 0] rfl
    · have hw := hw.2 hc
      refine j_iload_n C dX8_model_22 rfl 4 rfl ?_
      refine j_iconst (v := 2) C dX8_model_23 (by decide) ?_
      refine j_icmp_lt (tgt := 33) C dX8_model_24 (by decide) (fun hc => ?_) (fun hc => ?_)
      · have hw := hw.1 hc
        exact J.sub (X8_model_j33_ok C K ho_v0 D2 hw) [1] rfl
      · have hw := hw.2 hc
        refine j_iload_n C dX8_model_27 rfl 4 rfl ?_
        refine j_bipush (v := 7) C dX8_model_28 (by decide) ?_
        refine j_icmp_le (tgt := 39) C dX8_model_30 (by decide) (fun hc => ?_) (fun hc => ?_)
        · have hw := hw.1 hc
          exact J.sub (X8_model_j39_ok C K ho_v0 y3 D2 hw) [1, 3, 4, 0] rfl
        · have hw := hw.2 hc
          exact J.sub (X8_model_j33_ok C K ho_v0 D2 hw) [1] rfl
  · have hw := hw.1 hc
    refine j_aload_n C dX8_model_12 rfl 1 rfl ?_
    refine j_iconst (v := 1) C dX8_model_13 (by decide) ?_
    refine j_cVI (As := [.int 1]) (st := []) C (X8_refuse_ok κ.2.1 G D2 v0 1 _ hw) ho_v0 rfl k_306 mv_X8_refuse ⟨by decide, by decide⟩ ⟨rfl, rfl⟩ rfl rfl (Nat.le_of_ble_eq_true rfl) ⟨Nat.zero_le _, Nat.zero_le _⟩ dX8_model_14 (fun r4 D5 hw => ?_)
    obtain ⟨hb6, hw⟩ := hw
    exact K _ _ _ _ dX8_model_17 (isB_n hb6) hw
/-! X9_compareSizes -/
def X9_compareSizes_j85 (G : Shp) (post : Int32 → Dat → Prop) (v0 : Nat) (v1 : Int32) (v2 : Int32) (g1 : Nat) (s0 : Int32) (D : Dat) : Prop := post s0 D
set_option maxRecDepth 100000 in
set_option maxHeartbeats 4000000 in
theorem X9_compareSizes_j85_ok {κ : Ctx} {G : Shp} {post : Int32 → Dat → Prop} {v0 : Nat} {v1 : Int32} {v2 : Int32} {g1 : Nat} (C : Cx κ cX9_compareSizes RX9 (rmN 1) 5) (K : RtI κ cX9_compareSizes .int G post) (ho_v0 : isO G v0 9) (hr_g1 : G.2.2.2 v0 1 = some g1) (ho_g1 : isO G g1 11) (s0 : Int32) (D : Dat) (hw : X9_compareSizes_j85 G post v0 v1 v2 g1 s0 D) : J κ 0 0 G D 85 [] [.int s0] := by
  unfold X9_compareSizes_j85 at hw
  exact K _ _ _ _ dX9_compareSizes_85 rfl hw
def X9_compareSizes_l33_b (G : Shp) (post : Int32 → Dat → Prop) (v0 : Nat) (v1 : Int32) (v2 : Int32) (g1 : Nat) (rec : Int32 → Dat → Prop) (v4 : Int32) (D : Dat) : Prop := ((v4 ≤ 0 → post 0 D) ∧ (¬ (v4 ≤ 0) → (vp_in (v1 + v4) (G.2.2.1 g1) ∧ vp_in (v2 + v4) (G.2.2.1 g1) ∧ (((D.1 g1 (v1 + v4).toNatClampNeg) = (D.1 g1 (v2 + v4).toNatClampNeg) → rec (v4 + (-1)) D) ∧ (¬ ((D.1 g1 (v1 + v4).toNatClampNeg) = (D.1 g1 (v2 + v4).toNatClampNeg)) → (vp_in (v1 + v4) (G.2.2.1 g1) ∧ vp_in (v2 + v4) (G.2.2.1 g1) ∧ (((D.1 g1 (v1 + v4).toNatClampNeg) ≤ (D.1 g1 (v2 + v4).toNatClampNeg) → X9_compareSizes_j85 G post v0 v1 v2 g1 (-1) D) ∧ (¬ ((D.1 g1 (v1 + v4).toNatClampNeg) ≤ (D.1 g1 (v2 + v4).toNatClampNeg)) → X9_compareSizes_j85 G post v0 v1 v2 g1 1 D))))))))
def X9_compareSizes_l33 (G : Shp) (post : Int32 → Dat → Prop) (v0 : Nat) (v1 : Int32) (v2 : Int32) (g1 : Nat) : Nat → Int32 → Dat → Prop
  | 0 => fun _ _ => False
  | n + 1 => X9_compareSizes_l33_b G post v0 v1 v2 g1 (X9_compareSizes_l33 G post v0 v1 v2 g1 n)
set_option maxRecDepth 100000 in
set_option maxHeartbeats 4000000 in
theorem X9_compareSizes_l33_ok {κ : Ctx} {G : Shp} {post : Int32 → Dat → Prop} {v0 : Nat} {v1 : Int32} {v2 : Int32} {g1 : Nat} (C : Cx κ cX9_compareSizes RX9 (rmN 1) 5) (K : RtI κ cX9_compareSizes .int G post) (ho_v0 : isO G v0 9) (hr_g1 : G.2.2.2 v0 1 = some g1) (ho_g1 : isO G g1 11) : ∀ (n : Nat) (v4 : Int32) (D : Dat), X9_compareSizes_l33 G post v0 v1 v2 g1 n v4 D → J κ 0 0 G D 33 [(0, .ref v0), (1, .int v1), (2, .int v2), (4, .int v4)] [] := by
  intro n
  induction n with
  | zero => intro v4 D hw; exact hw.elim
  | succ n ih =>
    intro v4 D hw
    have hw : X9_compareSizes_l33_b G post v0 v1 v2 g1 (X9_compareSizes_l33 G post v0 v1 v2 g1 n) v4 D := hw
    unfold X9_compareSizes_l33_b at hw
    refine j_iload C dX9_compareSizes_33 3 rfl ?_
    refine j_if_le (tgt := 92) C dX9_compareSizes_35 (by decide) (fun hc => ?_) (fun hc => ?_)
    · have hw := hw.1 hc
      refine j_iconst (v := 0) C dX9_compareSizes_92 (by decide) ?_
      exact K _ _ _ _ dX9_compareSizes_93 rfl hw
    · have hw := hw.2 hc
      refine j_aload_n C dX9_compareSizes_38 rfl 0 rfl ?_
      refine gf_9_1 C ho_v0 hr_g1 k_765 dX9_compareSizes_39 ?_
      refine j_iload_n C dX9_compareSizes_42 rfl 1 rfl ?_
      refine j_iload C dX9_compareSizes_43 3 rfl ?_
      refine j_iadd C dX9_compareSizes_45 ?_
      obtain ⟨hi1, hw⟩ := hw
      refine j_iald C ho_g1 hi1 dX9_compareSizes_46 ?_
      refine j_aload_n C dX9_compareSizes_47 rfl 0 rfl ?_
      refine gf_9_1 C ho_v0 hr_g1 k_765 dX9_compareSizes_48 ?_
      refine j_iload_n C dX9_compareSizes_51 rfl 2 rfl ?_
      refine j_iload C dX9_compareSizes_52 3 rfl ?_
      refine j_iadd C dX9_compareSizes_54 ?_
      obtain ⟨hi2, hw⟩ := hw
      refine j_iald C ho_g1 hi2 dX9_compareSizes_55 ?_
      refine j_icmp_eq (tgt := 86) C dX9_compareSizes_56 (by decide) (fun hc => ?_) (fun hc => ?_)
      · have hw := hw.1 hc
        refine j_iinc (v := v4 + (-1)) C dX9_compareSizes_86 3 rfl rfl (by decide) rfl ?_
        refine j_goto (tgt := 33) C dX9_compareSizes_89 (by decide) ?_
        exact J.sub (ih (v4 + (-1)) D hw) [1, 2, 3, 0] rfl
      · have hw := hw.2 hc
        refine j_aload_n C dX9_compareSizes_59 rfl 0 rfl ?_
        refine gf_9_1 C ho_v0 hr_g1 k_765 dX9_compareSizes_60 ?_
        refine j_iload_n C dX9_compareSizes_63 rfl 1 rfl ?_
        refine j_iload C dX9_compareSizes_64 3 rfl ?_
        refine j_iadd C dX9_compareSizes_66 ?_
        obtain ⟨hi3, hw⟩ := hw
        refine j_iald C ho_g1 hi3 dX9_compareSizes_67 ?_
        refine j_aload_n C dX9_compareSizes_68 rfl 0 rfl ?_
        refine gf_9_1 C ho_v0 hr_g1 k_765 dX9_compareSizes_69 ?_
        refine j_iload_n C dX9_compareSizes_72 rfl 2 rfl ?_
        refine j_iload C dX9_compareSizes_73 3 rfl ?_
        refine j_iadd C dX9_compareSizes_75 ?_
        obtain ⟨hi4, hw⟩ := hw
        refine j_iald C ho_g1 hi4 dX9_compareSizes_76 ?_
        refine j_icmp_le (tgt := 84) C dX9_compareSizes_77 (by decide) (fun hc => ?_) (fun hc => ?_)
        · have hw := hw.1 hc
          refine j_iconst (v := (-1)) C dX9_compareSizes_84 (by decide) ?_
          exact J.sub (X9_compareSizes_j85_ok C K ho_v0 hr_g1 ho_g1 (-1) D hw) [] rfl
        · have hw := hw.2 hc
          refine j_iconst (v := 1) C dX9_compareSizes_80 (by decide) ?_
          refine j_goto (tgt := 85) C dX9_compareSizes_81 (by decide) ?_
          exact J.sub (X9_compareSizes_j85_ok C K ho_v0 hr_g1 ho_g1 1 D hw) [] rfl
def X9_compareSizes_j29 (G : Shp) (post : Int32 → Dat → Prop) (v0 : Nat) (v1 : Int32) (v2 : Int32) (g1 : Nat) (s0 : Int32) (D : Dat) : Prop := post s0 D
set_option maxRecDepth 100000 in
set_option maxHeartbeats 4000000 in
theorem X9_compareSizes_j29_ok {κ : Ctx} {G : Shp} {post : Int32 → Dat → Prop} {v0 : Nat} {v1 : Int32} {v2 : Int32} {g1 : Nat} (C : Cx κ cX9_compareSizes RX9 (rmN 1) 5) (K : RtI κ cX9_compareSizes .int G post) (ho_v0 : isO G v0 9) (hr_g1 : G.2.2.2 v0 1 = some g1) (ho_g1 : isO G g1 11) (s0 : Int32) (D : Dat) (hw : X9_compareSizes_j29 G post v0 v1 v2 g1 s0 D) : J κ 0 0 G D 29 [] [.int s0] := by
  unfold X9_compareSizes_j29 at hw
  exact K _ _ _ _ dX9_compareSizes_29 rfl hw
def X9_compareSizes_wp (G : Shp) (D : Dat) (v0 : Nat) (v1 : Int32) (v2 : Int32) (post : Int32 → Dat → Prop) : Prop := isO G v0 9 ∧ ∃ g1, G.2.2.2 v0 1 = some g1 ∧ isO G g1 11 ∧ X9_size_wp G D v0 v1 (fun r1 D2 => X9_size_wp G D2 v0 v2 (fun r3 D4 => ((r1 = r3 → ∃ n, X9_compareSizes_l33 G post v0 v1 v2 g1 n r1 D4) ∧ (¬ (r1 = r3) → X9_size_wp G D4 v0 v2 (fun r5 D6 => ((r1 ≤ r5 → X9_compareSizes_j29 G post v0 v1 v2 g1 (-1) D6) ∧ (¬ (r1 ≤ r5) → X9_compareSizes_j29 G post v0 v1 v2 g1 1 D6)))))))
set_option maxRecDepth 100000 in
set_option maxHeartbeats 4000000 in
theorem X9_compareSizes_ok (l : Launch) (G : Shp) (D : Dat) (v0 : Nat) (v1 : Int32) (v2 : Int32) (post : Int32 → Dat → Prop) (hw : X9_compareSizes_wp G D v0 v1 v2 post) : CtI l yX9_compareSizes cX9_compareSizes 5 .int (rmN 1) [.ref v0, .int v1, .int v2] G D post := by
  obtain ⟨ho_v0, g1, hr_g1, ho_g1, hw⟩ := hw
  refine ctI_of (by decide) rfl (Nat.le_of_ble_eq_true rfl) ?_
  intro κ hκ C K
  subst hκ
  have C : Cx κ cX9_compareSizes RX9 (rmN 1) 5 := C
  refine j_aload_n C dX9_compareSizes_0 rfl 0 rfl ?_
  refine j_iload_n C dX9_compareSizes_1 rfl 1 rfl ?_
  refine j_cVI (As := [.int v1]) (st := []) C (X9_size_ok κ.2.1 G D v0 v1 _ hw) ho_v0 rfl k_998 mv_X9_size ⟨by decide, by decide⟩ ⟨rfl, rfl⟩ rfl rfl (Nat.le_of_ble_eq_true rfl) ⟨Nat.zero_le _, Nat.zero_le _⟩ dX9_compareSizes_2 (fun r1 D2 hw => ?_)
  refine j_istore_n C dX9_compareSizes_5 rfl (by decide) rfl ?_
  refine j_iload_n C dX9_compareSizes_6 rfl 0 rfl ?_
  refine j_aload_n C dX9_compareSizes_7 rfl 1 rfl ?_
  refine j_iload_n C dX9_compareSizes_8 rfl 3 rfl ?_
  refine j_cVI (As := [.int v2]) (st := [.int r1]) C (X9_size_ok κ.2.1 G D2 v0 v2 _ hw) ho_v0 rfl k_998 mv_X9_size ⟨by decide, by decide⟩ ⟨rfl, rfl⟩ rfl rfl (Nat.le_of_ble_eq_true rfl) ⟨Nat.zero_le _, Nat.zero_le _⟩ dX9_compareSizes_9 (fun r3 D4 hw => ?_)
  refine j_icmp_eq (tgt := 30) C dX9_compareSizes_12 (by decide) (fun hc => ?_) (fun hc => ?_)
  · have hw := hw.1 hc
    refine j_iload_n C dX9_compareSizes_30 rfl 0 rfl ?_
    refine j_istore C dX9_compareSizes_31 (by decide) rfl ?_
    obtain ⟨n, hw⟩ := hw
    exact J.sub (X9_compareSizes_l33_ok C K ho_v0 hr_g1 ho_g1 n r1 D4 hw) [2, 3, 4, 0] rfl
  · have hw := hw.2 hc
    refine j_iload_n C dX9_compareSizes_15 rfl 0 rfl ?_
    refine j_aload_n C dX9_compareSizes_16 rfl 1 rfl ?_
    refine j_iload_n C dX9_compareSizes_17 rfl 3 rfl ?_
    refine j_cVI (As := [.int v2]) (st := [.int r1]) C (X9_size_ok κ.2.1 G D4 v0 v2 _ hw) ho_v0 rfl k_998 mv_X9_size ⟨by decide, by decide⟩ ⟨rfl, rfl⟩ rfl rfl (Nat.le_of_ble_eq_true rfl) ⟨Nat.zero_le _, Nat.zero_le _⟩ dX9_compareSizes_18 (fun r5 D6 hw => ?_)
    refine j_icmp_le (tgt := 28) C dX9_compareSizes_21 (by decide) (fun hc => ?_) (fun hc => ?_)
    · have hw := hw.1 hc
      refine j_iconst (v := (-1)) C dX9_compareSizes_28 (by decide) ?_
      exact J.sub (X9_compareSizes_j29_ok C K ho_v0 hr_g1 ho_g1 (-1) D6 hw) [] rfl
    · have hw := hw.2 hc
      refine j_iconst (v := 1) C dX9_compareSizes_24 (by decide) ?_
      refine j_goto (tgt := 29) C dX9_compareSizes_25 (by decide) ?_
      exact J.sub (X9_compareSizes_j29_ok C K ho_v0 hr_g1 ho_g1 1 D6 hw) [] rfl
/-! X9_copy -/
def X9_copy_l15_b (G : Shp) (post : Int32 → Dat → Prop) (v0 : Nat) (v1 : Int32) (g1 : Nat) (rec : Int32 → Int32 → Int32 → Dat → Prop) (v2 : Int32) (v3 : Int32) (v4 : Int32) (D : Dat) : Prop := ((v2 < v4 → post v3 D) ∧ (¬ (v2 < v4) → (vp_in (v1 + v4) (G.2.2.1 g1) ∧ vp_in (v3 + v4) (G.2.2.1 g1) ∧ rec v2 v3 (v4 + 1) (dI D g1 (v3 + v4).toNatClampNeg (D.1 g1 (v1 + v4).toNatClampNeg)))))
def X9_copy_l15 (G : Shp) (post : Int32 → Dat → Prop) (v0 : Nat) (v1 : Int32) (g1 : Nat) : Nat → Int32 → Int32 → Int32 → Dat → Prop
  | 0 => fun _ _ _ _ => False
  | n + 1 => X9_copy_l15_b G post v0 v1 g1 (X9_copy_l15 G post v0 v1 g1 n)
set_option maxRecDepth 100000 in
set_option maxHeartbeats 4000000 in
theorem X9_copy_l15_ok {κ : Ctx} {G : Shp} {post : Int32 → Dat → Prop} {v0 : Nat} {v1 : Int32} {g1 : Nat} (C : Cx κ cX9_copy RX9 (rmN 1) 5) (K : RtI κ cX9_copy .int G post) (ho_v0 : isO G v0 9) (hr_g1 : G.2.2.2 v0 1 = some g1) (ho_g1 : isO G g1 11) : ∀ (n : Nat) (v2 : Int32) (v3 : Int32) (v4 : Int32) (D : Dat), X9_copy_l15 G post v0 v1 g1 n v2 v3 v4 D → J κ 0 0 G D 15 [(0, .ref v0), (1, .int v1), (2, .int v2), (3, .int v3), (4, .int v4)] [] := by
  intro n
  induction n with
  | zero => intro v2 v3 v4 D hw; exact hw.elim
  | succ n ih =>
    intro v2 v3 v4 D hw
    have hw : X9_copy_l15_b G post v0 v1 g1 (X9_copy_l15 G post v0 v1 g1 n) v2 v3 v4 D := hw
    unfold X9_copy_l15_b at hw
    refine j_iload C dX9_copy_15 4 rfl ?_
    refine j_iload_n C dX9_copy_17 rfl 2 rfl ?_
    refine j_icmp_gt (tgt := 45) C dX9_copy_18 (by decide) (fun hc => ?_) (fun hc => ?_)
    · have hw := hw.1 hc
      refine j_iload_n C dX9_copy_45 rfl 3 rfl ?_
      exact K _ _ _ _ dX9_copy_46 rfl hw
    · have hw := hw.2 hc
      refine j_aload_n C dX9_copy_21 rfl 0 rfl ?_
      refine gf_9_1 C ho_v0 hr_g1 k_765 dX9_copy_22 ?_
      refine j_iload_n C dX9_copy_25 rfl 3 rfl ?_
      refine j_iload C dX9_copy_26 4 rfl ?_
      refine j_iadd C dX9_copy_28 ?_
      refine j_aload_n C dX9_copy_29 rfl 0 rfl ?_
      refine gf_9_1 C ho_v0 hr_g1 k_765 dX9_copy_30 ?_
      refine j_iload_n C dX9_copy_33 rfl 1 rfl ?_
      refine j_iload C dX9_copy_34 4 rfl ?_
      refine j_iadd C dX9_copy_36 ?_
      obtain ⟨hi1, hw⟩ := hw
      refine j_iald C ho_g1 hi1 dX9_copy_37 ?_
      obtain ⟨hi2, hw⟩ := hw
      refine j_iast C ho_g1 hi2 dX9_copy_38 ?_
      refine j_iinc (v := v4 + 1) C dX9_copy_39 4 rfl rfl (by decide) rfl ?_
      refine j_goto (tgt := 15) C dX9_copy_42 (by decide) ?_
      exact J.sub (ih v2 v3 (v4 + 1) (dI D g1 (v3 + v4).toNatClampNeg (D.1 g1 (v1 + v4).toNatClampNeg)) hw) [1, 2, 3, 4, 0] rfl
def X9_copy_wp (G : Shp) (D : Dat) (v0 : Nat) (v1 : Int32) (post : Int32 → Dat → Prop) : Prop := isO G v0 9 ∧ ∃ g1, G.2.2.2 v0 1 = some g1 ∧ isO G g1 11 ∧ X9_size_wp G D v0 v1 (fun r1 D2 => X9_room_wp G D2 v0 r1 (fun r3 D4 => ∃ n, X9_copy_l15 G post v0 v1 g1 n r1 r3 0 D4))
set_option maxRecDepth 100000 in
set_option maxHeartbeats 4000000 in
theorem X9_copy_ok (l : Launch) (G : Shp) (D : Dat) (v0 : Nat) (v1 : Int32) (post : Int32 → Dat → Prop) (hw : X9_copy_wp G D v0 v1 post) : CtI l yX9_copy cX9_copy 5 .int (rmN 1) [.ref v0, .int v1] G D post := by
  obtain ⟨ho_v0, g1, hr_g1, ho_g1, hw⟩ := hw
  refine ctI_of (by decide) rfl (Nat.le_of_ble_eq_true rfl) ?_
  intro κ hκ C K
  subst hκ
  have C : Cx κ cX9_copy RX9 (rmN 1) 5 := C
  refine j_aload_n C dX9_copy_0 rfl 0 rfl ?_
  refine j_iload_n C dX9_copy_1 rfl 1 rfl ?_
  refine j_cVI (As := [.int v1]) (st := []) C (X9_size_ok κ.2.1 G D v0 v1 _ hw) ho_v0 rfl k_998 mv_X9_size ⟨by decide, by decide⟩ ⟨rfl, rfl⟩ rfl rfl (Nat.le_of_ble_eq_true rfl) ⟨Nat.zero_le _, Nat.zero_le _⟩ dX9_copy_2 (fun r1 D2 hw => ?_)
  refine j_istore_n C dX9_copy_5 rfl (by decide) rfl ?_
  refine j_aload_n C dX9_copy_6 rfl 1 rfl ?_
  refine j_iload_n C dX9_copy_7 rfl 0 rfl ?_
  refine j_cVI (As := [.int r1]) (st := []) C (X9_room_ok κ.2.1 G D2 v0 r1 _ hw) ho_v0 rfl k_981 mv_X9_room ⟨by decide, by decide⟩ ⟨rfl, rfl⟩ rfl rfl (Nat.le_of_ble_eq_true rfl) ⟨Nat.zero_le _, Nat.zero_le _⟩ dX9_copy_8 (fun r3 D4 hw => ?_)
  refine j_istore_n C dX9_copy_11 rfl (by decide) rfl ?_
  refine j_iconst (v := 0) C dX9_copy_12 (by decide) ?_
  refine j_istore C dX9_copy_13 (by decide) rfl ?_
  obtain ⟨n, hw⟩ := hw
  exact J.sub (X9_copy_l15_ok C K ho_v0 hr_g1 ho_g1 n r1 r3 0 D4 hw) [3, 4, 2, 1, 0] rfl
/-! X9_counts -/
def X9_counts_j31 (G : Shp) (post : Int32 → Dat → Prop) (v0 : Nat) (v1 : Int32) (v2 : Int32) (g1 : Nat) (g2 : Nat) (s0 : Int32) (D : Dat) : Prop := (isB s0 ∧ post s0 D)
set_option maxRecDepth 100000 in
set_option maxHeartbeats 4000000 in
theorem X9_counts_j31_ok {κ : Ctx} {G : Shp} {post : Int32 → Dat → Prop} {v0 : Nat} {v1 : Int32} {v2 : Int32} {g1 : Nat} {g2 : Nat} (C : Cx κ cX9_counts RX9 (rmN 1) 3) (K : RtI κ cX9_counts .boolean G post) (ho_v0 : isO G v0 9) (hr_g1 : G.2.2.2 v0 15 = some g1) (ho_g1 : isO G g1 13) (hr_g2 : G.2.2.2 v0 16 = some g2) (ho_g2 : isO G g2 13) (s0 : Int32) (D : Dat) (hw : X9_counts_j31 G post v0 v1 v2 g1 g2 s0 D) : J κ 0 0 G D 31 [] [.int s0] := by
  unfold X9_counts_j31 at hw
  obtain ⟨hb1, hw⟩ := hw
  exact K _ _ _ _ dX9_counts_31 (isB_n hb1) hw
def X9_counts_j30 (G : Shp) (post : Int32 → Dat → Prop) (v0 : Nat) (v1 : Int32) (v2 : Int32) (g1 : Nat) (g2 : Nat) (D : Dat) : Prop := X9_counts_j31 G post v0 v1 v2 g1 g2 0 D
set_option maxRecDepth 100000 in
set_option maxHeartbeats 4000000 in
theorem X9_counts_j30_ok {κ : Ctx} {G : Shp} {post : Int32 → Dat → Prop} {v0 : Nat} {v1 : Int32} {v2 : Int32} {g1 : Nat} {g2 : Nat} (C : Cx κ cX9_counts RX9 (rmN 1) 3) (K : RtI κ cX9_counts .boolean G post) (ho_v0 : isO G v0 9) (hr_g1 : G.2.2.2 v0 15 = some g1) (ho_g1 : isO G g1 13) (hr_g2 : G.2.2.2 v0 16 = some g2) (ho_g2 : isO G g2 13) (D : Dat) (hw : X9_counts_j30 G post v0 v1 v2 g1 g2 D) : J κ 0 0 G D 30 [] [] := by
  unfold X9_counts_j30 at hw
  refine j_iconst (v := 0) C dX9_counts_30 (by decide) ?_
  exact J.sub (X9_counts_j31_ok C K ho_v0 hr_g1 ho_g1 hr_g2 ho_g2 0 D hw) [] rfl
def X9_counts_wp (G : Shp) (D : Dat) (v0 : Nat) (v1 : Int32) (v2 : Int32) (post : Int32 → Dat → Prop) : Prop := isO G v0 9 ∧ ∃ g1, G.2.2.2 v0 15 = some g1 ∧ isO G g1 13 ∧ ∃ g2, G.2.2.2 v0 16 = some g2 ∧ isO G g2 13 ∧ X9_spot_wp G D v1 v2 (fun r1 D2 => (vp_in r1 (G.2.2.1 g1) ∧ (((D2.1 g1 r1.toNatClampNeg) = 0 → X9_counts_j30 G post v0 v1 v2 g1 g2 D2) ∧ (¬ ((D2.1 g1 r1.toNatClampNeg) = 0) → X9_spot_wp G D2 v1 v2 (fun r4 D5 => (vp_in r4 (G.2.2.1 g2) ∧ ((¬ (D5.1 g2 r4.toNatClampNeg) = 0 → X9_counts_j30 G post v0 v1 v2 g1 g2 D5) ∧ ((D5.1 g2 r4.toNatClampNeg) = 0 → X9_counts_j31 G post v0 v1 v2 g1 g2 1 D5))))))))
set_option maxRecDepth 100000 in
set_option maxHeartbeats 4000000 in
theorem X9_counts_ok (l : Launch) (G : Shp) (D : Dat) (v0 : Nat) (v1 : Int32) (v2 : Int32) (post : Int32 → Dat → Prop) (hw : X9_counts_wp G D v0 v1 v2 post) : CtI l yX9_counts cX9_counts 3 .boolean (rmN 1) [.ref v0, .int v1, .int v2] G D post := by
  obtain ⟨ho_v0, g1, hr_g1, ho_g1, g2, hr_g2, ho_g2, hw⟩ := hw
  refine ctI_of (by decide) rfl (Nat.le_of_ble_eq_true rfl) ?_
  intro κ hκ C K
  subst hκ
  have C : Cx κ cX9_counts RX9 (rmN 1) 3 := C
  refine j_aload_n C dX9_counts_0 rfl 0 rfl ?_
  refine gf_9_15 C ho_v0 hr_g1 k_779 dX9_counts_1 ?_
  refine j_iload_n C dX9_counts_4 rfl 1 rfl ?_
  refine j_iload_n C dX9_counts_5 rfl 2 rfl ?_
  refine j_cSI (As := [.int v1, .int v2]) (st := [.ref g1]) C (X9_spot_ok κ.2.1 G D v1 v2 _ hw) k_882 ms_X9_spot ⟨by decide, by decide⟩ ⟨rfl, rfl⟩ rfl rfl (Nat.le_of_ble_eq_true rfl) ⟨Nat.zero_le _, Nat.zero_le _⟩ dX9_counts_6 (fun r1 D2 hw => ?_)
  obtain ⟨hi3, hw⟩ := hw
  refine j_zald C ho_g1 hi3 dX9_counts_9 ?_
  refine j_if_eq (tgt := 30) C dX9_counts_10 (by decide) (fun hc => ?_) (fun hc => ?_)
  · have hw := hw.1 hc
    exact J.sub (X9_counts_j30_ok C K ho_v0 hr_g1 ho_g1 hr_g2 ho_g2 D2 hw) [] rfl
  · have hw := hw.2 hc
    refine j_aload_n C dX9_counts_13 rfl 0 rfl ?_
    refine gf_9_16 C ho_v0 hr_g2 k_780 dX9_counts_14 ?_
    refine j_iload_n C dX9_counts_17 rfl 1 rfl ?_
    refine j_iload_n C dX9_counts_18 rfl 2 rfl ?_
    refine j_cSI (As := [.int v1, .int v2]) (st := [.ref g2]) C (X9_spot_ok κ.2.1 G D2 v1 v2 _ hw) k_882 ms_X9_spot ⟨by decide, by decide⟩ ⟨rfl, rfl⟩ rfl rfl (Nat.le_of_ble_eq_true rfl) ⟨Nat.zero_le _, Nat.zero_le _⟩ dX9_counts_19 (fun r4 D5 hw => ?_)
    obtain ⟨hi6, hw⟩ := hw
    refine j_zald C ho_g2 hi6 dX9_counts_22 ?_
    refine j_if_ne (tgt := 30) C dX9_counts_23 (by decide) (fun hc => ?_) (fun hc => ?_)
    · have hw := hw.1 hc
      exact J.sub (X9_counts_j30_ok C K ho_v0 hr_g1 ho_g1 hr_g2 ho_g2 D5 hw) [] rfl
    · have hw := hw.2 hc
      refine j_iconst (v := 1) C dX9_counts_26 (by decide) ?_
      refine j_goto (tgt := 31) C dX9_counts_27 (by decide) ?_
      exact J.sub (X9_counts_j31_ok C K ho_v0 hr_g1 ho_g1 hr_g2 ho_g2 1 D5 hw) [] rfl
/-! X9_feast -/
def X9_feast_l31_b (G : Shp) (post : Int32 → Dat → Prop) (v0 : Nat) (v1 : Int32) (g1 : Nat) (g2 : Nat) (rec : Int32 → Dat → Prop) (v2 : Int32) (D : Dat) : Prop := ((40 ≤ v2 → (vp_in v1 (G.2.2.1 g1) ∧ vp_in v1 (G.2.2.1 g1) ∧ vp_in v1 (G.2.2.1 g1) ∧ post (((dI (dI D g1 v1.toNatClampNeg ((D.1 g1 v1.toNatClampNeg) + 1)) v0 0 0).1 g1 v1.toNatClampNeg) - 1) (dI (dI D g1 v1.toNatClampNeg ((D.1 g1 v1.toNatClampNeg) + 1)) v0 0 0))) ∧ (¬ (40 ≤ v2) → (vp_in v1 (G.2.2.1 g1) ∧ vp_in ((40 * ((2 * v1) + (D.1 g1 v1.toNatClampNeg))) + v2) (G.2.2.1 g2) ∧ rec (v2 + 1) (dI D g2 ((40 * ((2 * v1) + (D.1 g1 v1.toNatClampNeg))) + v2).toNatClampNeg (vp_nar .boolean 0)))))
def X9_feast_l31 (G : Shp) (post : Int32 → Dat → Prop) (v0 : Nat) (v1 : Int32) (g1 : Nat) (g2 : Nat) : Nat → Int32 → Dat → Prop
  | 0 => fun _ _ => False
  | n + 1 => X9_feast_l31_b G post v0 v1 g1 g2 (X9_feast_l31 G post v0 v1 g1 g2 n)
set_option maxRecDepth 100000 in
set_option maxHeartbeats 4000000 in
theorem X9_feast_l31_ok {κ : Ctx} {G : Shp} {post : Int32 → Dat → Prop} {v0 : Nat} {v1 : Int32} {g1 : Nat} {g2 : Nat} (C : Cx κ cX9_feast RX9 (rmN 1) 3) (K : RtI κ cX9_feast .int G post) (ho_v0 : isO G v0 9) (hr_g1 : G.2.2.2 v0 14 = some g1) (ho_g1 : isO G g1 11) (hr_g2 : G.2.2.2 v0 18 = some g2) (ho_g2 : isO G g2 13) : ∀ (n : Nat) (v2 : Int32) (D : Dat), X9_feast_l31 G post v0 v1 g1 g2 n v2 D → J κ 0 0 G D 31 [(0, .ref v0), (1, .int v1), (2, .int v2)] [] := by
  intro n
  induction n with
  | zero => intro v2 D hw; exact hw.elim
  | succ n ih =>
    intro v2 D hw
    have hw : X9_feast_l31_b G post v0 v1 g1 g2 (X9_feast_l31 G post v0 v1 g1 g2 n) v2 D := hw
    unfold X9_feast_l31_b at hw
    refine j_iload_n C dX9_feast_31 rfl 2 rfl ?_
    refine j_bipush (v := 40) C dX9_feast_32 (by decide) ?_
    refine j_icmp_ge (tgt := 64) C dX9_feast_34 (by decide) (fun hc => ?_) (fun hc => ?_)
    · have hw := hw.1 hc
      refine j_aload_n C dX9_feast_64 rfl 0 rfl ?_
      refine gf_9_14 C ho_v0 hr_g1 k_778 dX9_feast_65 ?_
      refine j_iload_n C dX9_feast_68 rfl 1 rfl ?_
      refine j_dup2 C dX9_feast_69 rfl rfl ?_
      obtain ⟨hi1, hw⟩ := hw
      refine j_iald C ho_g1 hi1 dX9_feast_70 ?_
      refine j_iconst (v := 1) C dX9_feast_71 (by decide) ?_
      refine j_iadd C dX9_feast_72 ?_
      obtain ⟨hi2, hw⟩ := hw
      refine j_iast C ho_g1 hi2 dX9_feast_73 ?_
      refine j_aload_n C dX9_feast_74 rfl 0 rfl ?_
      refine j_iconst (v := 0) C dX9_feast_75 (by decide) ?_
      refine pf_9_0 C ho_v0 k_764 dX9_feast_76 ?_
      refine j_aload_n C dX9_feast_79 rfl 0 rfl ?_
      refine gf_9_14 C ho_v0 hr_g1 k_778 dX9_feast_80 ?_
      refine j_iload_n C dX9_feast_83 rfl 1 rfl ?_
      obtain ⟨hi3, hw⟩ := hw
      refine j_iald C ho_g1 hi3 dX9_feast_84 ?_
      refine j_iconst (v := 1) C dX9_feast_85 (by decide) ?_
      refine j_isub C dX9_feast_86 ?_
      exact K _ _ _ _ dX9_feast_87 rfl hw
    · have hw := hw.2 hc
      refine j_aload_n C dX9_feast_37 rfl 0 rfl ?_
      refine gf_9_18 C ho_v0 hr_g2 k_782 dX9_feast_38 ?_
      refine j_bipush (v := 40) C dX9_feast_41 (by decide) ?_
      refine j_iconst (v := 2) C dX9_feast_43 (by decide) ?_
      refine j_iload_n C dX9_feast_44 rfl 1 rfl ?_
      refine j_imul C dX9_feast_45 ?_
      refine j_aload_n C dX9_feast_46 rfl 0 rfl ?_
      refine gf_9_14 C ho_v0 hr_g1 k_778 dX9_feast_47 ?_
      refine j_iload_n C dX9_feast_50 rfl 1 rfl ?_
      obtain ⟨hi4, hw⟩ := hw
      refine j_iald C ho_g1 hi4 dX9_feast_51 ?_
      refine j_iadd C dX9_feast_52 ?_
      refine j_imul C dX9_feast_53 ?_
      refine j_iload_n C dX9_feast_54 rfl 2 rfl ?_
      refine j_iadd C dX9_feast_55 ?_
      refine j_iconst (v := 0) C dX9_feast_56 (by decide) ?_
      obtain ⟨hi5, hw⟩ := hw
      refine j_zast C ho_g2 hi5 dX9_feast_57 ?_
      refine j_iinc (v := v2 + 1) C dX9_feast_58 2 rfl rfl (by decide) rfl ?_
      refine j_goto (tgt := 31) C dX9_feast_61 (by decide) ?_
      exact J.sub (ih (v2 + 1) (dI D g2 ((40 * ((2 * v1) + (D.1 g1 v1.toNatClampNeg))) + v2).toNatClampNeg (vp_nar .boolean 0)) hw) [1, 2, 0] rfl
def X9_feast_wp (G : Shp) (D : Dat) (v0 : Nat) (v1 : Int32) (post : Int32 → Dat → Prop) : Prop := isO G v0 9 ∧ ∃ g1, G.2.2.2 v0 14 = some g1 ∧ isO G g1 11 ∧ ∃ g2, G.2.2.2 v0 18 = some g2 ∧ isO G g2 13 ∧ X9_isRow_wp G D v1 (fun r1 D2 => ((¬ r1 = 0 → (vp_in v1 (G.2.2.1 g1) ∧ ((¬ (D2.1 g1 v1.toNatClampNeg) = 2 → ∃ n, X9_feast_l31 G post v0 v1 g1 g2 n 0 D2) ∧ ((D2.1 g1 v1.toNatClampNeg) = 2 → X9_refuse_wp G D2 v0 3 (fun r4 D5 => post r4 D5))))) ∧ (r1 = 0 → X9_refuse_wp G D2 v0 1 (fun r6 D7 => post r6 D7))))
set_option maxRecDepth 100000 in
set_option maxHeartbeats 4000000 in
theorem X9_feast_ok (l : Launch) (G : Shp) (D : Dat) (v0 : Nat) (v1 : Int32) (post : Int32 → Dat → Prop) (hw : X9_feast_wp G D v0 v1 post) : CtI l yX9_feast cX9_feast 3 .int (rmN 1) [.ref v0, .int v1] G D post := by
  obtain ⟨ho_v0, g1, hr_g1, ho_g1, g2, hr_g2, ho_g2, hw⟩ := hw
  refine ctI_of (by decide) rfl (Nat.le_of_ble_eq_true rfl) ?_
  intro κ hκ C K
  subst hκ
  have C : Cx κ cX9_feast RX9 (rmN 1) 3 := C
  refine j_iload_n C dX9_feast_0 rfl 1 rfl ?_
  refine j_cSI (As := [.int v1]) (st := []) C (X9_isRow_ok κ.2.1 G D v1 _ hw) k_867 ms_X9_isRow ⟨by decide, by decide⟩ ⟨rfl, rfl⟩ rfl rfl (Nat.le_of_ble_eq_true rfl) ⟨Nat.zero_le _, Nat.zero_le _⟩ dX9_feast_1 (fun r1 D2 hw => ?_)
  refine j_if_ne (tgt := 13) C dX9_feast_4 (by decide) (fun hc => ?_) (fun hc => ?_)
  · have hw := hw.1 hc
    refine j_aload_n C dX9_feast_13 rfl 0 rfl ?_
    refine gf_9_14 C ho_v0 hr_g1 k_778 dX9_feast_14 ?_
    refine j_iload_n C dX9_feast_17 rfl 1 rfl ?_
    obtain ⟨hi3, hw⟩ := hw
    refine j_iald C ho_g1 hi3 dX9_feast_18 ?_
    refine j_iconst (v := 2) C dX9_feast_19 (by decide) ?_
    refine j_icmp_ne (tgt := 29) C dX9_feast_20 (by decide) (fun hc => ?_) (fun hc => ?_)
    · have hw := hw.1 hc
      refine j_iconst (v := 0) C dX9_feast_29 (by decide) ?_
      refine j_istore_n C dX9_feast_30 rfl (by decide) rfl ?_
      obtain ⟨n, hw⟩ := hw
      exact J.sub (X9_feast_l31_ok C K ho_v0 hr_g1 ho_g1 hr_g2 ho_g2 n 0 D2 hw) [1, 2, 0] rfl
    · have hw := hw.2 hc
      refine j_aload_n C dX9_feast_23 rfl 0 rfl ?_
      refine j_iconst (v := 3) C dX9_feast_24 (by decide) ?_
      refine j_cVI (As := [.int 3]) (st := []) C (X9_refuse_ok κ.2.1 G D2 v0 3 _ hw) ho_v0 rfl k_897 mv_X9_refuse ⟨by decide, by decide⟩ ⟨rfl, rfl⟩ rfl rfl (Nat.le_of_ble_eq_true rfl) ⟨Nat.zero_le _, Nat.zero_le _⟩ dX9_feast_25 (fun r4 D5 hw => ?_)
      exact K _ _ _ _ dX9_feast_28 rfl hw
  · have hw := hw.2 hc
    refine j_aload_n C dX9_feast_7 rfl 0 rfl ?_
    refine j_iconst (v := 1) C dX9_feast_8 (by decide) ?_
    refine j_cVI (As := [.int 1]) (st := []) C (X9_refuse_ok κ.2.1 G D2 v0 1 _ hw) ho_v0 rfl k_897 mv_X9_refuse ⟨by decide, by decide⟩ ⟨rfl, rfl⟩ rfl rfl (Nat.le_of_ble_eq_true rfl) ⟨Nat.zero_le _, Nat.zero_le _⟩ dX9_feast_9 (fun r6 D7 hw => ?_)
    exact K _ _ _ _ dX9_feast_12 rfl hw
/-! X9_fill -/
def X9_fill_l69_b (G : Shp) (post : Int32 → Dat → Prop) (v0 : Nat) (v1 : Int32) (v2 : Int32) (v3 : Int32) (v4 : Int32) (v5 : Int32) (g1 : Nat) (g2 : Nat) (rec : Int32 → Dat → Prop) (v6 : Int32) (D : Dat) : Prop := ((v3 ≤ v6 → X9_is_wp G D v0 0 (fun r1 D2 => (isB r1 ∧ post r1 D2))) ∧ (¬ (v3 ≤ v6) → X9_spot_wp G D v1 (v2 + v6) (fun r4 D5 => (vp_in r4 (G.2.2.1 g1) ∧ X9_spot_wp G (dI D5 g1 r4.toNatClampNeg (v4 + (v6 * v5))) v1 (v2 + v6) (fun r7 D8 => (vp_in r7 (G.2.2.1 g2) ∧ rec (v6 + 1) (dI D8 g2 r7.toNatClampNeg (vp_nar .boolean 1))))))))
def X9_fill_l69 (G : Shp) (post : Int32 → Dat → Prop) (v0 : Nat) (v1 : Int32) (v2 : Int32) (v3 : Int32) (v4 : Int32) (v5 : Int32) (g1 : Nat) (g2 : Nat) : Nat → Int32 → Dat → Prop
  | 0 => fun _ _ => False
  | n + 1 => X9_fill_l69_b G post v0 v1 v2 v3 v4 v5 g1 g2 (X9_fill_l69 G post v0 v1 v2 v3 v4 v5 g1 g2 n)
set_option maxRecDepth 100000 in
set_option maxHeartbeats 4000000 in
theorem X9_fill_l69_ok {κ : Ctx} {G : Shp} {post : Int32 → Dat → Prop} {v0 : Nat} {v1 : Int32} {v2 : Int32} {v3 : Int32} {v4 : Int32} {v5 : Int32} {g1 : Nat} {g2 : Nat} (C : Cx κ cX9_fill RX9 (rmN 1) 7) (K : RtI κ cX9_fill .boolean G post) (ho_v0 : isO G v0 9) (hr_g1 : G.2.2.2 v0 10 = some g1) (ho_g1 : isO G g1 11) (hr_g2 : G.2.2.2 v0 15 = some g2) (ho_g2 : isO G g2 13) : ∀ (n : Nat) (v6 : Int32) (D : Dat), X9_fill_l69 G post v0 v1 v2 v3 v4 v5 g1 g2 n v6 D → J κ 0 0 G D 69 [(0, .ref v0), (1, .int v1), (2, .int v2), (3, .int v3), (4, .int v4), (5, .int v5), (6, .int v6)] [] := by
  intro n
  induction n with
  | zero => intro v6 D hw; exact hw.elim
  | succ n ih =>
    intro v6 D hw
    have hw : X9_fill_l69_b G post v0 v1 v2 v3 v4 v5 g1 g2 (X9_fill_l69 G post v0 v1 v2 v3 v4 v5 g1 g2 n) v6 D := hw
    unfold X9_fill_l69_b at hw
    refine j_iload C dX9_fill_69 6 rfl ?_
    refine j_iload_n C dX9_fill_71 rfl 3 rfl ?_
    refine j_icmp_ge (tgt := 116) C dX9_fill_72 (by decide) (fun hc => ?_) (fun hc => ?_)
    · have hw := hw.1 hc
      refine j_aload_n C dX9_fill_116 rfl 0 rfl ?_
      refine j_iconst (v := 0) C dX9_fill_117 (by decide) ?_
      refine j_cVI (As := [.int 0]) (st := []) C (X9_is_ok κ.2.1 G D v0 0 _ hw) ho_v0 rfl k_873 mv_X9_is ⟨by decide, by decide⟩ ⟨rfl, rfl⟩ rfl rfl (Nat.le_of_ble_eq_true rfl) ⟨Nat.zero_le _, Nat.zero_le _⟩ dX9_fill_118 (fun r1 D2 hw => ?_)
      obtain ⟨hb3, hw⟩ := hw
      exact K _ _ _ _ dX9_fill_121 (isB_n hb3) hw
    · have hw := hw.2 hc
      refine j_aload_n C dX9_fill_75 rfl 0 rfl ?_
      refine gf_9_10 C ho_v0 hr_g1 k_774 dX9_fill_76 ?_
      refine j_iload_n C dX9_fill_79 rfl 1 rfl ?_
      refine j_iload_n C dX9_fill_80 rfl 2 rfl ?_
      refine j_iload C dX9_fill_81 6 rfl ?_
      refine j_iadd C dX9_fill_83 ?_
      refine j_cSI (As := [.int v1, .int (v2 + v6)]) (st := [.ref g1]) C (X9_spot_ok κ.2.1 G D v1 (v2 + v6) _ hw) k_882 ms_X9_spot ⟨by decide, by decide⟩ ⟨rfl, rfl⟩ rfl rfl (Nat.le_of_ble_eq_true rfl) ⟨Nat.zero_le _, Nat.zero_le _⟩ dX9_fill_84 (fun r4 D5 hw => ?_)
      refine j_iload C dX9_fill_87 4 rfl ?_
      refine j_iload C dX9_fill_89 6 rfl ?_
      refine j_iload C dX9_fill_91 5 rfl ?_
      refine j_imul C dX9_fill_93 ?_
      refine j_iadd C dX9_fill_94 ?_
      obtain ⟨hi6, hw⟩ := hw
      refine j_iast C ho_g1 hi6 dX9_fill_95 ?_
      refine j_aload_n C dX9_fill_96 rfl 0 rfl ?_
      refine gf_9_15 C ho_v0 hr_g2 k_779 dX9_fill_97 ?_
      refine j_iload_n C dX9_fill_100 rfl 1 rfl ?_
      refine j_iload_n C dX9_fill_101 rfl 2 rfl ?_
      refine j_iload C dX9_fill_102 6 rfl ?_
      refine j_iadd C dX9_fill_104 ?_
      refine j_cSI (As := [.int v1, .int (v2 + v6)]) (st := [.ref g2]) C (X9_spot_ok κ.2.1 G (dI D5 g1 r4.toNatClampNeg (v4 + (v6 * v5))) v1 (v2 + v6) _ hw) k_882 ms_X9_spot ⟨by decide, by decide⟩ ⟨rfl, rfl⟩ rfl rfl (Nat.le_of_ble_eq_true rfl) ⟨Nat.zero_le _, Nat.zero_le _⟩ dX9_fill_105 (fun r7 D8 hw => ?_)
      refine j_iconst (v := 1) C dX9_fill_108 (by decide) ?_
      obtain ⟨hi9, hw⟩ := hw
      refine j_zast C ho_g2 hi9 dX9_fill_109 ?_
      refine j_iinc (v := v6 + 1) C dX9_fill_110 6 rfl rfl (by decide) rfl ?_
      refine j_goto (tgt := 69) C dX9_fill_113 (by decide) ?_
      exact J.sub (ih (v6 + 1) (dI D8 g2 r7.toNatClampNeg (vp_nar .boolean 1)) hw) [1, 2, 3, 4, 5, 6, 0] rfl
def X9_fill_j60 (G : Shp) (post : Int32 → Dat → Prop) (v0 : Nat) (v1 : Int32) (v2 : Int32) (v3 : Int32) (v4 : Int32) (v5 : Int32) (g1 : Nat) (g2 : Nat) (D : Dat) : Prop := X9_is_wp G D v0 2 (fun r1 D2 => (isB r1 ∧ post r1 D2))
set_option maxRecDepth 100000 in
set_option maxHeartbeats 4000000 in
theorem X9_fill_j60_ok {κ : Ctx} {G : Shp} {post : Int32 → Dat → Prop} {v0 : Nat} {v1 : Int32} {v2 : Int32} {v3 : Int32} {v4 : Int32} {v5 : Int32} {g1 : Nat} {g2 : Nat} (C : Cx κ cX9_fill RX9 (rmN 1) 7) (K : RtI κ cX9_fill .boolean G post) (ho_v0 : isO G v0 9) (hr_g1 : G.2.2.2 v0 10 = some g1) (ho_g1 : isO G g1 11) (hr_g2 : G.2.2.2 v0 15 = some g2) (ho_g2 : isO G g2 13) (D : Dat) (hw : X9_fill_j60 G post v0 v1 v2 v3 v4 v5 g1 g2 D) : J κ 0 0 G D 60 [(0, .ref v0)] [] := by
  unfold X9_fill_j60 at hw
  refine j_aload_n C dX9_fill_60 rfl 0 rfl ?_
  refine j_iconst (v := 2) C dX9_fill_61 (by decide) ?_
  refine j_cVI (As := [.int 2]) (st := []) C (X9_is_ok κ.2.1 G D v0 2 _ hw) ho_v0 rfl k_873 mv_X9_is ⟨by decide, by decide⟩ ⟨rfl, rfl⟩ rfl rfl (Nat.le_of_ble_eq_true rfl) ⟨Nat.zero_le _, Nat.zero_le _⟩ dX9_fill_62 (fun r1 D2 hw => ?_)
  obtain ⟨hb3, hw⟩ := hw
  exact K _ _ _ _ dX9_fill_65 (isB_n hb3) hw
def X9_fill_j14 (G : Shp) (post : Int32 → Dat → Prop) (v0 : Nat) (v1 : Int32) (v2 : Int32) (v3 : Int32) (v4 : Int32) (v5 : Int32) (g1 : Nat) (g2 : Nat) (D : Dat) : Prop := X9_is_wp G D v0 1 (fun r1 D2 => (isB r1 ∧ post r1 D2))
set_option maxRecDepth 100000 in
set_option maxHeartbeats 4000000 in
theorem X9_fill_j14_ok {κ : Ctx} {G : Shp} {post : Int32 → Dat → Prop} {v0 : Nat} {v1 : Int32} {v2 : Int32} {v3 : Int32} {v4 : Int32} {v5 : Int32} {g1 : Nat} {g2 : Nat} (C : Cx κ cX9_fill RX9 (rmN 1) 7) (K : RtI κ cX9_fill .boolean G post) (ho_v0 : isO G v0 9) (hr_g1 : G.2.2.2 v0 10 = some g1) (ho_g1 : isO G g1 11) (hr_g2 : G.2.2.2 v0 15 = some g2) (ho_g2 : isO G g2 13) (D : Dat) (hw : X9_fill_j14 G post v0 v1 v2 v3 v4 v5 g1 g2 D) : J κ 0 0 G D 14 [(0, .ref v0)] [] := by
  unfold X9_fill_j14 at hw
  refine j_aload_n C dX9_fill_14 rfl 0 rfl ?_
  refine j_iconst (v := 1) C dX9_fill_15 (by decide) ?_
  refine j_cVI (As := [.int 1]) (st := []) C (X9_is_ok κ.2.1 G D v0 1 _ hw) ho_v0 rfl k_873 mv_X9_is ⟨by decide, by decide⟩ ⟨rfl, rfl⟩ rfl rfl (Nat.le_of_ble_eq_true rfl) ⟨Nat.zero_le _, Nat.zero_le _⟩ dX9_fill_16 (fun r1 D2 hw => ?_)
  obtain ⟨hb3, hw⟩ := hw
  exact K _ _ _ _ dX9_fill_19 (isB_n hb3) hw
def X9_fill_wp (G : Shp) (D : Dat) (v0 : Nat) (v1 : Int32) (v2 : Int32) (v3 : Int32) (v4 : Int32) (v5 : Int32) (post : Int32 → Dat → Prop) : Prop := isO G v0 9 ∧ ∃ g1, G.2.2.2 v0 10 = some g1 ∧ isO G g1 11 ∧ ∃ g2, G.2.2.2 v0 15 = some g2 ∧ isO G g2 13 ∧ X9_isRow_wp G D v1 (fun r1 D2 => ((r1 = 0 → X9_fill_j14 G post v0 v1 v2 v3 v4 v5 g1 g2 D2) ∧ (¬ (r1 = 0) → X9_isTick_wp G D2 v2 (fun r3 D4 => ((¬ r3 = 0 → ((v3 < 1 → X9_fill_j60 G post v0 v1 v2 v3 v4 v5 g1 g2 D4) ∧ (¬ (v3 < 1) → (((40 - v2) < v3 → X9_fill_j60 G post v0 v1 v2 v3 v4 v5 g1 g2 D4) ∧ (¬ ((40 - v2) < v3) → X9_isNumber_wp G D4 v4.toInt64 (fun r5 D6 => ((r5 = 0 → X9_fill_j60 G post v0 v1 v2 v3 v4 v5 g1 g2 D6) ∧ (¬ (r5 = 0) → X9_isNumber_wp G D6 (v4.toInt64 + ((v3.toInt64 - 1) * v5.toInt64)) (fun r7 D8 => ((¬ r7 = 0 → ∃ n, X9_fill_l69 G post v0 v1 v2 v3 v4 v5 g1 g2 n 0 D8) ∧ (r7 = 0 → X9_fill_j60 G post v0 v1 v2 v3 v4 v5 g1 g2 D8))))))))))) ∧ (r3 = 0 → X9_fill_j14 G post v0 v1 v2 v3 v4 v5 g1 g2 D4))))))
set_option maxRecDepth 100000 in
set_option maxHeartbeats 4000000 in
theorem X9_fill_ok (l : Launch) (G : Shp) (D : Dat) (v0 : Nat) (v1 : Int32) (v2 : Int32) (v3 : Int32) (v4 : Int32) (v5 : Int32) (post : Int32 → Dat → Prop) (hw : X9_fill_wp G D v0 v1 v2 v3 v4 v5 post) : CtI l yX9_fill cX9_fill 7 .boolean (rmN 1) [.ref v0, .int v1, .int v2, .int v3, .int v4, .int v5] G D post := by
  obtain ⟨ho_v0, g1, hr_g1, ho_g1, g2, hr_g2, ho_g2, hw⟩ := hw
  refine ctI_of (by decide) rfl (Nat.le_of_ble_eq_true rfl) ?_
  intro κ hκ C K
  subst hκ
  have C : Cx κ cX9_fill RX9 (rmN 1) 7 := C
  refine j_iload_n C dX9_fill_0 rfl 1 rfl ?_
  refine j_cSI (As := [.int v1]) (st := []) C (X9_isRow_ok κ.2.1 G D v1 _ hw) k_867 ms_X9_isRow ⟨by decide, by decide⟩ ⟨rfl, rfl⟩ rfl rfl (Nat.le_of_ble_eq_true rfl) ⟨Nat.zero_le _, Nat.zero_le _⟩ dX9_fill_1 (fun r1 D2 hw => ?_)
  refine j_if_eq (tgt := 14) C dX9_fill_4 (by decide) (fun hc => ?_) (fun hc => ?_)
  · have hw := hw.1 hc
    exact J.sub (X9_fill_j14_ok C K ho_v0 hr_g1 ho_g1 hr_g2 ho_g2 D2 hw) [0] rfl
  · have hw := hw.2 hc
    refine j_iload_n C dX9_fill_7 rfl 2 rfl ?_
    refine j_cSI (As := [.int v2]) (st := []) C (X9_isTick_ok κ.2.1 G D2 v2 _ hw) k_870 ms_X9_isTick ⟨by decide, by decide⟩ ⟨rfl, rfl⟩ rfl rfl (Nat.le_of_ble_eq_true rfl) ⟨Nat.zero_le _, Nat.zero_le _⟩ dX9_fill_8 (fun r3 D4 hw => ?_)
    refine j_if_ne (tgt := 20) C dX9_fill_11 (by decide) (fun hc => ?_) (fun hc => ?_)
    · have hw := hw.1 hc
      refine j_iload_n C dX9_fill_20 rfl 3 rfl ?_
      refine j_iconst (v := 1) C dX9_fill_21 (by decide) ?_
      refine j_icmp_lt (tgt := 60) C dX9_fill_22 (by decide) (fun hc => ?_) (fun hc => ?_)
      · have hw := hw.1 hc
        exact J.sub (X9_fill_j60_ok C K ho_v0 hr_g1 ho_g1 hr_g2 ho_g2 D4 hw) [0] rfl
      · have hw := hw.2 hc
        refine j_iload_n C dX9_fill_25 rfl 3 rfl ?_
        refine j_bipush (v := 40) C dX9_fill_26 (by decide) ?_
        refine j_iload_n C dX9_fill_28 rfl 2 rfl ?_
        refine j_isub C dX9_fill_29 ?_
        refine j_icmp_gt (tgt := 60) C dX9_fill_30 (by decide) (fun hc => ?_) (fun hc => ?_)
        · have hw := hw.1 hc
          exact J.sub (X9_fill_j60_ok C K ho_v0 hr_g1 ho_g1 hr_g2 ho_g2 D4 hw) [0] rfl
        · have hw := hw.2 hc
          refine j_iload C dX9_fill_33 4 rfl ?_
          refine j_i2l C dX9_fill_35 ?_
          refine j_cSI (As := [.long v4.toInt64]) (st := []) C (X9_isNumber_ok κ.2.1 G D4 v4.toInt64 _ hw) k_877 ms_X9_isNumber ⟨by decide, by decide⟩ ⟨rfl, rfl⟩ rfl rfl (Nat.le_of_ble_eq_true rfl) ⟨Nat.zero_le _, Nat.zero_le _⟩ dX9_fill_36 (fun r5 D6 hw => ?_)
          refine j_if_eq (tgt := 60) C dX9_fill_39 (by decide) (fun hc => ?_) (fun hc => ?_)
          · have hw := hw.1 hc
            exact J.sub (X9_fill_j60_ok C K ho_v0 hr_g1 ho_g1 hr_g2 ho_g2 D6 hw) [0] rfl
          · have hw := hw.2 hc
            refine j_iload C dX9_fill_42 4 rfl ?_
            refine j_i2l C dX9_fill_44 ?_
            refine j_iload_n C dX9_fill_45 rfl 3 rfl ?_
            refine j_i2l C dX9_fill_46 ?_
            refine j_lconst (v := 1) C dX9_fill_47 (by decide) ?_
            refine j_lsub C dX9_fill_48 ?_
            refine j_iload C dX9_fill_49 5 rfl ?_
            refine j_i2l C dX9_fill_51 ?_
            refine j_lmul C dX9_fill_52 ?_
            refine j_ladd C dX9_fill_53 ?_
            refine j_cSI (As := [.long (v4.toInt64 + ((v3.toInt64 - 1) * v5.toInt64))]) (st := []) C (X9_isNumber_ok κ.2.1 G D6 (v4.toInt64 + ((v3.toInt64 - 1) * v5.toInt64)) _ hw) k_877 ms_X9_isNumber ⟨by decide, by decide⟩ ⟨rfl, rfl⟩ rfl rfl (Nat.le_of_ble_eq_true rfl) ⟨Nat.zero_le _, Nat.zero_le _⟩ dX9_fill_54 (fun r7 D8 hw => ?_)
            refine j_if_ne (tgt := 66) C dX9_fill_57 (by decide) (fun hc => ?_) (fun hc => ?_)
            · have hw := hw.1 hc
              refine j_iconst (v := 0) C dX9_fill_66 (by decide) ?_
              refine j_istore C dX9_fill_67 (by decide) rfl ?_
              obtain ⟨n, hw⟩ := hw
              exact J.sub (X9_fill_l69_ok C K ho_v0 hr_g1 ho_g1 hr_g2 ho_g2 n 0 D8 hw) [1, 2, 3, 4, 5, 6, 0] rfl
            · have hw := hw.2 hc
              exact J.sub (X9_fill_j60_ok C K ho_v0 hr_g1 ho_g1 hr_g2 ho_g2 D8 hw) [0] rfl
    · have hw := hw.2 hc
      exact J.sub (X9_fill_j14_ok C K ho_v0 hr_g1 ho_g1 hr_g2 ho_g2 D4 hw) [0] rfl
/-! X9_gap -/
def X9_gap_j14 (G : Shp) (post : Int32 → Dat → Prop) (v0 : Nat) (v1 : Int32) (v2 : Int32) (g1 : Nat) (D : Dat) : Prop := X9_is_wp G D v0 1 (fun r1 D2 => (isB r1 ∧ post r1 D2))
set_option maxRecDepth 100000 in
set_option maxHeartbeats 4000000 in
theorem X9_gap_j14_ok {κ : Ctx} {G : Shp} {post : Int32 → Dat → Prop} {v0 : Nat} {v1 : Int32} {v2 : Int32} {g1 : Nat} (C : Cx κ cX9_gap RX9 (rmN 1) 3) (K : RtI κ cX9_gap .boolean G post) (ho_v0 : isO G v0 9) (hr_g1 : G.2.2.2 v0 15 = some g1) (ho_g1 : isO G g1 13) (D : Dat) (hw : X9_gap_j14 G post v0 v1 v2 g1 D) : J κ 0 0 G D 14 [(0, .ref v0)] [] := by
  unfold X9_gap_j14 at hw
  refine j_aload_n C dX9_gap_14 rfl 0 rfl ?_
  refine j_iconst (v := 1) C dX9_gap_15 (by decide) ?_
  refine j_cVI (As := [.int 1]) (st := []) C (X9_is_ok κ.2.1 G D v0 1 _ hw) ho_v0 rfl k_873 mv_X9_is ⟨by decide, by decide⟩ ⟨rfl, rfl⟩ rfl rfl (Nat.le_of_ble_eq_true rfl) ⟨Nat.zero_le _, Nat.zero_le _⟩ dX9_gap_16 (fun r1 D2 hw => ?_)
  obtain ⟨hb3, hw⟩ := hw
  exact K _ _ _ _ dX9_gap_19 (isB_n hb3) hw
def X9_gap_wp (G : Shp) (D : Dat) (v0 : Nat) (v1 : Int32) (v2 : Int32) (post : Int32 → Dat → Prop) : Prop := isO G v0 9 ∧ ∃ g1, G.2.2.2 v0 15 = some g1 ∧ isO G g1 13 ∧ X9_isRow_wp G D v1 (fun r1 D2 => ((r1 = 0 → X9_gap_j14 G post v0 v1 v2 g1 D2) ∧ (¬ (r1 = 0) → X9_isTick_wp G D2 v2 (fun r3 D4 => ((¬ r3 = 0 → X9_spot_wp G D4 v1 v2 (fun r5 D6 => (vp_in r5 (G.2.2.1 g1) ∧ ((¬ (D6.1 g1 r5.toNatClampNeg) = 0 → X9_spot_wp G D6 v1 v2 (fun r8 D9 => (vp_in r8 (G.2.2.1 g1) ∧ X9_is_wp G (dI D9 g1 r8.toNatClampNeg (vp_nar .boolean 0)) v0 0 (fun r11 D12 => (isB r11 ∧ post r11 D12))))) ∧ ((D6.1 g1 r5.toNatClampNeg) = 0 → X9_is_wp G D6 v0 5 (fun r14 D15 => (isB r14 ∧ post r14 D15))))))) ∧ (r3 = 0 → X9_gap_j14 G post v0 v1 v2 g1 D4))))))
set_option maxRecDepth 100000 in
set_option maxHeartbeats 4000000 in
theorem X9_gap_ok (l : Launch) (G : Shp) (D : Dat) (v0 : Nat) (v1 : Int32) (v2 : Int32) (post : Int32 → Dat → Prop) (hw : X9_gap_wp G D v0 v1 v2 post) : CtI l yX9_gap cX9_gap 3 .boolean (rmN 1) [.ref v0, .int v1, .int v2] G D post := by
  obtain ⟨ho_v0, g1, hr_g1, ho_g1, hw⟩ := hw
  refine ctI_of (by decide) rfl (Nat.le_of_ble_eq_true rfl) ?_
  intro κ hκ C K
  subst hκ
  have C : Cx κ cX9_gap RX9 (rmN 1) 3 := C
  refine j_iload_n C dX9_gap_0 rfl 1 rfl ?_
  refine j_cSI (As := [.int v1]) (st := []) C (X9_isRow_ok κ.2.1 G D v1 _ hw) k_867 ms_X9_isRow ⟨by decide, by decide⟩ ⟨rfl, rfl⟩ rfl rfl (Nat.le_of_ble_eq_true rfl) ⟨Nat.zero_le _, Nat.zero_le _⟩ dX9_gap_1 (fun r1 D2 hw => ?_)
  refine j_if_eq (tgt := 14) C dX9_gap_4 (by decide) (fun hc => ?_) (fun hc => ?_)
  · have hw := hw.1 hc
    exact J.sub (X9_gap_j14_ok C K ho_v0 hr_g1 ho_g1 D2 hw) [0] rfl
  · have hw := hw.2 hc
    refine j_iload_n C dX9_gap_7 rfl 2 rfl ?_
    refine j_cSI (As := [.int v2]) (st := []) C (X9_isTick_ok κ.2.1 G D2 v2 _ hw) k_870 ms_X9_isTick ⟨by decide, by decide⟩ ⟨rfl, rfl⟩ rfl rfl (Nat.le_of_ble_eq_true rfl) ⟨Nat.zero_le _, Nat.zero_le _⟩ dX9_gap_8 (fun r3 D4 hw => ?_)
    refine j_if_ne (tgt := 20) C dX9_gap_11 (by decide) (fun hc => ?_) (fun hc => ?_)
    · have hw := hw.1 hc
      refine j_aload_n C dX9_gap_20 rfl 0 rfl ?_
      refine gf_9_15 C ho_v0 hr_g1 k_779 dX9_gap_21 ?_
      refine j_iload_n C dX9_gap_24 rfl 1 rfl ?_
      refine j_iload_n C dX9_gap_25 rfl 2 rfl ?_
      refine j_cSI (As := [.int v1, .int v2]) (st := [.ref g1]) C (X9_spot_ok κ.2.1 G D4 v1 v2 _ hw) k_882 ms_X9_spot ⟨by decide, by decide⟩ ⟨rfl, rfl⟩ rfl rfl (Nat.le_of_ble_eq_true rfl) ⟨Nat.zero_le _, Nat.zero_le _⟩ dX9_gap_26 (fun r5 D6 hw => ?_)
      obtain ⟨hi7, hw⟩ := hw
      refine j_zald C ho_g1 hi7 dX9_gap_29 ?_
      refine j_if_ne (tgt := 39) C dX9_gap_30 (by decide) (fun hc => ?_) (fun hc => ?_)
      · have hw := hw.1 hc
        refine j_aload_n C dX9_gap_39 rfl 0 rfl ?_
        refine gf_9_15 C ho_v0 hr_g1 k_779 dX9_gap_40 ?_
        refine j_iload_n C dX9_gap_43 rfl 1 rfl ?_
        refine j_iload_n C dX9_gap_44 rfl 2 rfl ?_
        refine j_cSI (As := [.int v1, .int v2]) (st := [.ref g1]) C (X9_spot_ok κ.2.1 G D6 v1 v2 _ hw) k_882 ms_X9_spot ⟨by decide, by decide⟩ ⟨rfl, rfl⟩ rfl rfl (Nat.le_of_ble_eq_true rfl) ⟨Nat.zero_le _, Nat.zero_le _⟩ dX9_gap_45 (fun r8 D9 hw => ?_)
        refine j_iconst (v := 0) C dX9_gap_48 (by decide) ?_
        obtain ⟨hi10, hw⟩ := hw
        refine j_zast C ho_g1 hi10 dX9_gap_49 ?_
        refine j_aload_n C dX9_gap_50 rfl 0 rfl ?_
        refine j_iconst (v := 0) C dX9_gap_51 (by decide) ?_
        refine j_cVI (As := [.int 0]) (st := []) C (X9_is_ok κ.2.1 G (dI D9 g1 r8.toNatClampNeg (vp_nar .boolean 0)) v0 0 _ hw) ho_v0 rfl k_873 mv_X9_is ⟨by decide, by decide⟩ ⟨rfl, rfl⟩ rfl rfl (Nat.le_of_ble_eq_true rfl) ⟨Nat.zero_le _, Nat.zero_le _⟩ dX9_gap_52 (fun r11 D12 hw => ?_)
        obtain ⟨hb13, hw⟩ := hw
        exact K _ _ _ _ dX9_gap_55 (isB_n hb13) hw
      · have hw := hw.2 hc
        refine j_aload_n C dX9_gap_33 rfl 0 rfl ?_
        refine j_iconst (v := 5) C dX9_gap_34 (by decide) ?_
        refine j_cVI (As := [.int 5]) (st := []) C (X9_is_ok κ.2.1 G D6 v0 5 _ hw) ho_v0 rfl k_873 mv_X9_is ⟨by decide, by decide⟩ ⟨rfl, rfl⟩ rfl rfl (Nat.le_of_ble_eq_true rfl) ⟨Nat.zero_le _, Nat.zero_le _⟩ dX9_gap_35 (fun r14 D15 hw => ?_)
        obtain ⟨hb16, hw⟩ := hw
        exact K _ _ _ _ dX9_gap_38 (isB_n hb16) hw
    · have hw := hw.2 hc
      exact J.sub (X9_gap_j14_ok C K ho_v0 hr_g1 ho_g1 D4 hw) [0] rfl
/-! X9_held -/
def X9_held_l41_b (G : Shp) (post : Int32 → Dat → Prop) (v0 : Nat) (v1 : Int32) (g1 : Nat) (g2 : Nat) (rec : Int32 → Int32 → Int32 → Int32 → Dat → Prop) (v2 : Int32) (v3 : Int32) (v4 : Int32) (v5 : Int32) (D : Dat) : Prop := ((v3 < v5 → post v4 D) ∧ (¬ (v3 < v5) → (vp_in (v2 + v5) (G.2.2.1 g1) ∧ vp_in (v4 + v5) (G.2.2.1 g2) ∧ rec v2 v3 v4 (v5 + 1) (dI D g2 (v4 + v5).toNatClampNeg (D.1 g1 (v2 + v5).toNatClampNeg)))))
def X9_held_l41 (G : Shp) (post : Int32 → Dat → Prop) (v0 : Nat) (v1 : Int32) (g1 : Nat) (g2 : Nat) : Nat → Int32 → Int32 → Int32 → Int32 → Dat → Prop
  | 0 => fun _ _ _ _ _ => False
  | n + 1 => X9_held_l41_b G post v0 v1 g1 g2 (X9_held_l41 G post v0 v1 g1 g2 n)
set_option maxRecDepth 100000 in
set_option maxHeartbeats 4000000 in
theorem X9_held_l41_ok {κ : Ctx} {G : Shp} {post : Int32 → Dat → Prop} {v0 : Nat} {v1 : Int32} {g1 : Nat} {g2 : Nat} (C : Cx κ cX9_held RX9 (rmN 1) 6) (K : RtI κ cX9_held .int G post) (ho_v0 : isO G v0 9) (hr_g1 : G.2.2.2 v0 26 = some g1) (ho_g1 : isO G g1 11) (hr_g2 : G.2.2.2 v0 1 = some g2) (ho_g2 : isO G g2 11) : ∀ (n : Nat) (v2 : Int32) (v3 : Int32) (v4 : Int32) (v5 : Int32) (D : Dat), X9_held_l41 G post v0 v1 g1 g2 n v2 v3 v4 v5 D → J κ 0 0 G D 41 [(0, .ref v0), (2, .int v2), (3, .int v3), (4, .int v4), (5, .int v5)] [] := by
  intro n
  induction n with
  | zero => intro v2 v3 v4 v5 D hw; exact hw.elim
  | succ n ih =>
    intro v2 v3 v4 v5 D hw
    have hw : X9_held_l41_b G post v0 v1 g1 g2 (X9_held_l41 G post v0 v1 g1 g2 n) v2 v3 v4 v5 D := hw
    unfold X9_held_l41_b at hw
    refine j_iload C dX9_held_41 4 rfl ?_
    refine j_iload_n C dX9_held_43 rfl 2 rfl ?_
    refine j_icmp_gt (tgt := 72) C dX9_held_44 (by decide) (fun hc => ?_) (fun hc => ?_)
    · have hw := hw.1 hc
      refine j_iload C dX9_held_72 3 rfl ?_
      exact K _ _ _ _ dX9_held_74 rfl hw
    · have hw := hw.2 hc
      refine j_aload_n C dX9_held_47 rfl 0 rfl ?_
      refine gf_9_1 C ho_v0 hr_g2 k_765 dX9_held_48 ?_
      refine j_iload C dX9_held_51 3 rfl ?_
      refine j_iload C dX9_held_53 4 rfl ?_
      refine j_iadd C dX9_held_55 ?_
      refine j_aload_n C dX9_held_56 rfl 0 rfl ?_
      refine gf_9_26 C ho_v0 hr_g1 k_790 dX9_held_57 ?_
      refine j_iload_n C dX9_held_60 rfl 1 rfl ?_
      refine j_iload C dX9_held_61 4 rfl ?_
      refine j_iadd C dX9_held_63 ?_
      obtain ⟨hi1, hw⟩ := hw
      refine j_iald C ho_g1 hi1 dX9_held_64 ?_
      obtain ⟨hi2, hw⟩ := hw
      refine j_iast C ho_g2 hi2 dX9_held_65 ?_
      refine j_iinc (v := v5 + 1) C dX9_held_66 4 rfl rfl (by decide) rfl ?_
      refine j_goto (tgt := 41) C dX9_held_69 (by decide) ?_
      exact J.sub (ih v2 v3 v4 (v5 + 1) (dI D g2 (v4 + v5).toNatClampNeg (D.1 g1 (v2 + v5).toNatClampNeg)) hw) [1, 2, 3, 4, 0] rfl
def X9_held_j30 (G : Shp) (post : Int32 → Dat → Prop) (v0 : Nat) (v1 : Int32) (g1 : Nat) (g2 : Nat) (v2 : Int32) (s0 : Int32) (D : Dat) : Prop := X9_room_wp G D v0 s0 (fun r1 D2 => ∃ n, X9_held_l41 G post v0 v1 g1 g2 n v2 s0 r1 0 D2)
set_option maxRecDepth 100000 in
set_option maxHeartbeats 4000000 in
theorem X9_held_j30_ok {κ : Ctx} {G : Shp} {post : Int32 → Dat → Prop} {v0 : Nat} {v1 : Int32} {g1 : Nat} {g2 : Nat} (C : Cx κ cX9_held RX9 (rmN 1) 6) (K : RtI κ cX9_held .int G post) (ho_v0 : isO G v0 9) (hr_g1 : G.2.2.2 v0 26 = some g1) (ho_g1 : isO G g1 11) (hr_g2 : G.2.2.2 v0 1 = some g2) (ho_g2 : isO G g2 11) (v2 : Int32) (s0 : Int32) (D : Dat) (hw : X9_held_j30 G post v0 v1 g1 g2 v2 s0 D) : J κ 0 0 G D 30 [(0, .ref v0), (2, .int v2)] [.int s0] := by
  unfold X9_held_j30 at hw
  refine j_istore_n C dX9_held_30 rfl (by decide) rfl ?_
  refine j_aload_n C dX9_held_31 rfl 1 rfl ?_
  refine j_iload_n C dX9_held_32 rfl 0 rfl ?_
  refine j_cVI (As := [.int s0]) (st := []) C (X9_room_ok κ.2.1 G D v0 s0 _ hw) ho_v0 rfl k_981 mv_X9_room ⟨by decide, by decide⟩ ⟨rfl, rfl⟩ rfl rfl (Nat.le_of_ble_eq_true rfl) ⟨Nat.zero_le _, Nat.zero_le _⟩ dX9_held_33 (fun r1 D2 hw => ?_)
  refine j_istore C dX9_held_36 (by decide) rfl ?_
  refine j_iconst (v := 0) C dX9_held_38 (by decide) ?_
  refine j_istore C dX9_held_39 (by decide) rfl ?_
  obtain ⟨n, hw⟩ := hw
  exact J.sub (X9_held_l41_ok C K ho_v0 hr_g1 ho_g1 hr_g2 ho_g2 n v2 s0 r1 0 D2 hw) [3, 4, 2, 1, 0] rfl
def X9_held_wp (G : Shp) (D : Dat) (v0 : Nat) (v1 : Int32) (post : Int32 → Dat → Prop) : Prop := isO G v0 9 ∧ ∃ g1, G.2.2.2 v0 26 = some g1 ∧ isO G g1 11 ∧ ∃ g2, G.2.2.2 v0 1 = some g2 ∧ isO G g2 11 ∧ (vp_in (60 * v1) (G.2.2.1 g1) ∧ ((0 ≤ (D.1 g1 (60 * v1).toNatClampNeg) → (vp_in (60 * v1) (G.2.2.1 g1) ∧ X9_held_j30 G post v0 v1 g1 g2 (60 * v1) (D.1 g1 (60 * v1).toNatClampNeg) D)) ∧ (¬ (0 ≤ (D.1 g1 (60 * v1).toNatClampNeg)) → (vp_in (60 * v1) (G.2.2.1 g1) ∧ X9_held_j30 G post v0 v1 g1 g2 (60 * v1) (-(D.1 g1 (60 * v1).toNatClampNeg)) D))))
set_option maxRecDepth 100000 in
set_option maxHeartbeats 4000000 in
theorem X9_held_ok (l : Launch) (G : Shp) (D : Dat) (v0 : Nat) (v1 : Int32) (post : Int32 → Dat → Prop) (hw : X9_held_wp G D v0 v1 post) : CtI l yX9_held cX9_held 6 .int (rmN 1) [.ref v0, .int v1] G D post := by
  obtain ⟨ho_v0, g1, hr_g1, ho_g1, g2, hr_g2, ho_g2, hw⟩ := hw
  refine ctI_of (by decide) rfl (Nat.le_of_ble_eq_true rfl) ?_
  intro κ hκ C K
  subst hκ
  have C : Cx κ cX9_held RX9 (rmN 1) 6 := C
  refine j_bipush (v := 60) C dX9_held_0 (by decide) ?_
  refine j_iload_n C dX9_held_2 rfl 1 rfl ?_
  refine j_imul C dX9_held_3 ?_
  refine j_istore_n C dX9_held_4 rfl (by decide) rfl ?_
  refine j_aload_n C dX9_held_5 rfl 1 rfl ?_
  refine gf_9_26 C ho_v0 hr_g1 k_790 dX9_held_6 ?_
  refine j_iload_n C dX9_held_9 rfl 0 rfl ?_
  obtain ⟨hi1, hw⟩ := hw
  refine j_iald C ho_g1 hi1 dX9_held_10 ?_
  refine j_if_ge (tgt := 24) C dX9_held_11 (by decide) (fun hc => ?_) (fun hc => ?_)
  · have hw := hw.1 hc
    refine j_aload_n C dX9_held_24 rfl 1 rfl ?_
    refine gf_9_26 C ho_v0 hr_g1 k_790 dX9_held_25 ?_
    refine j_iload_n C dX9_held_28 rfl 0 rfl ?_
    obtain ⟨hi2, hw⟩ := hw
    refine j_iald C ho_g1 hi2 dX9_held_29 ?_
    exact J.sub (X9_held_j30_ok C K ho_v0 hr_g1 ho_g1 hr_g2 ho_g2 (60 * v1) (D.1 g1 (60 * v1).toNatClampNeg) D hw) [1, 0] rfl
  · have hw := hw.2 hc
    refine j_aload_n C dX9_held_14 rfl 1 rfl ?_
    refine gf_9_26 C ho_v0 hr_g1 k_790 dX9_held_15 ?_
    refine j_iload_n C dX9_held_18 rfl 0 rfl ?_
    obtain ⟨hi3, hw⟩ := hw
    refine j_iald C ho_g1 hi3 dX9_held_19 ?_
    refine j_ineg C dX9_held_20 ?_
    refine j_goto (tgt := 30) C dX9_held_21 (by decide) ?_
    exact J.sub (X9_held_j30_ok C K ho_v0 hr_g1 ho_g1 hr_g2 ho_g2 (60 * v1) (-(D.1 g1 (60 * v1).toNatClampNeg)) D hw) [1, 0] rfl
/-! X9_isStrange -/
def X9_isStrange_j43 (G : Shp) (post : Int32 → Dat → Prop) (v0 : Nat) (v1 : Int32) (v2 : Int32) (g1 : Nat) (s0 : Int32) (D : Dat) : Prop := post s0 D
set_option maxRecDepth 100000 in
set_option maxHeartbeats 4000000 in
theorem X9_isStrange_j43_ok {κ : Ctx} {G : Shp} {post : Int32 → Dat → Prop} {v0 : Nat} {v1 : Int32} {v2 : Int32} {g1 : Nat} (C : Cx κ cX9_isStrange RX9 (rmN 1) 3) (K : RtI κ cX9_isStrange .int G post) (ho_v0 : isO G v0 9) (hr_g1 : G.2.2.2 v0 16 = some g1) (ho_g1 : isO G g1 13) (s0 : Int32) (D : Dat) (hw : X9_isStrange_j43 G post v0 v1 v2 g1 s0 D) : J κ 0 0 G D 43 [] [.int s0] := by
  unfold X9_isStrange_j43 at hw
  exact K _ _ _ _ dX9_isStrange_43 rfl hw
def X9_isStrange_j14 (G : Shp) (post : Int32 → Dat → Prop) (v0 : Nat) (v1 : Int32) (v2 : Int32) (g1 : Nat) (D : Dat) : Prop := X9_refuse_wp G D v0 1 (fun r1 D2 => post r1 D2)
set_option maxRecDepth 100000 in
set_option maxHeartbeats 4000000 in
theorem X9_isStrange_j14_ok {κ : Ctx} {G : Shp} {post : Int32 → Dat → Prop} {v0 : Nat} {v1 : Int32} {v2 : Int32} {g1 : Nat} (C : Cx κ cX9_isStrange RX9 (rmN 1) 3) (K : RtI κ cX9_isStrange .int G post) (ho_v0 : isO G v0 9) (hr_g1 : G.2.2.2 v0 16 = some g1) (ho_g1 : isO G g1 13) (D : Dat) (hw : X9_isStrange_j14 G post v0 v1 v2 g1 D) : J κ 0 0 G D 14 [(0, .ref v0)] [] := by
  unfold X9_isStrange_j14 at hw
  refine j_aload_n C dX9_isStrange_14 rfl 0 rfl ?_
  refine j_iconst (v := 1) C dX9_isStrange_15 (by decide) ?_
  refine j_cVI (As := [.int 1]) (st := []) C (X9_refuse_ok κ.2.1 G D v0 1 _ hw) ho_v0 rfl k_897 mv_X9_refuse ⟨by decide, by decide⟩ ⟨rfl, rfl⟩ rfl rfl (Nat.le_of_ble_eq_true rfl) ⟨Nat.zero_le _, Nat.zero_le _⟩ dX9_isStrange_16 (fun r1 D2 hw => ?_)
  exact K _ _ _ _ dX9_isStrange_19 rfl hw
def X9_isStrange_wp (G : Shp) (D : Dat) (v0 : Nat) (v1 : Int32) (v2 : Int32) (post : Int32 → Dat → Prop) : Prop := isO G v0 9 ∧ ∃ g1, G.2.2.2 v0 16 = some g1 ∧ isO G g1 13 ∧ X9_isRow_wp G D v1 (fun r1 D2 => ((r1 = 0 → X9_isStrange_j14 G post v0 v1 v2 g1 D2) ∧ (¬ (r1 = 0) → X9_isTick_wp G D2 v2 (fun r3 D4 => ((¬ r3 = 0 → X9_spot_wp G (dI D4 v0 0 0) v1 v2 (fun r5 D6 => (vp_in r5 (G.2.2.1 g1) ∧ (((D6.1 g1 r5.toNatClampNeg) = 0 → X9_isStrange_j43 G post v0 v1 v2 g1 0 D6) ∧ (¬ ((D6.1 g1 r5.toNatClampNeg) = 0) → X9_isStrange_j43 G post v0 v1 v2 g1 1 D6))))) ∧ (r3 = 0 → X9_isStrange_j14 G post v0 v1 v2 g1 D4))))))
set_option maxRecDepth 100000 in
set_option maxHeartbeats 4000000 in
theorem X9_isStrange_ok (l : Launch) (G : Shp) (D : Dat) (v0 : Nat) (v1 : Int32) (v2 : Int32) (post : Int32 → Dat → Prop) (hw : X9_isStrange_wp G D v0 v1 v2 post) : CtI l yX9_isStrange cX9_isStrange 3 .int (rmN 1) [.ref v0, .int v1, .int v2] G D post := by
  obtain ⟨ho_v0, g1, hr_g1, ho_g1, hw⟩ := hw
  refine ctI_of (by decide) rfl (Nat.le_of_ble_eq_true rfl) ?_
  intro κ hκ C K
  subst hκ
  have C : Cx κ cX9_isStrange RX9 (rmN 1) 3 := C
  refine j_iload_n C dX9_isStrange_0 rfl 1 rfl ?_
  refine j_cSI (As := [.int v1]) (st := []) C (X9_isRow_ok κ.2.1 G D v1 _ hw) k_867 ms_X9_isRow ⟨by decide, by decide⟩ ⟨rfl, rfl⟩ rfl rfl (Nat.le_of_ble_eq_true rfl) ⟨Nat.zero_le _, Nat.zero_le _⟩ dX9_isStrange_1 (fun r1 D2 hw => ?_)
  refine j_if_eq (tgt := 14) C dX9_isStrange_4 (by decide) (fun hc => ?_) (fun hc => ?_)
  · have hw := hw.1 hc
    exact J.sub (X9_isStrange_j14_ok C K ho_v0 hr_g1 ho_g1 D2 hw) [0] rfl
  · have hw := hw.2 hc
    refine j_iload_n C dX9_isStrange_7 rfl 2 rfl ?_
    refine j_cSI (As := [.int v2]) (st := []) C (X9_isTick_ok κ.2.1 G D2 v2 _ hw) k_870 ms_X9_isTick ⟨by decide, by decide⟩ ⟨rfl, rfl⟩ rfl rfl (Nat.le_of_ble_eq_true rfl) ⟨Nat.zero_le _, Nat.zero_le _⟩ dX9_isStrange_8 (fun r3 D4 hw => ?_)
    refine j_if_ne (tgt := 20) C dX9_isStrange_11 (by decide) (fun hc => ?_) (fun hc => ?_)
    · have hw := hw.1 hc
      refine j_aload_n C dX9_isStrange_20 rfl 0 rfl ?_
      refine j_iconst (v := 0) C dX9_isStrange_21 (by decide) ?_
      refine pf_9_0 C ho_v0 k_764 dX9_isStrange_22 ?_
      refine j_aload_n C dX9_isStrange_25 rfl 0 rfl ?_
      refine gf_9_16 C ho_v0 hr_g1 k_780 dX9_isStrange_26 ?_
      refine j_iload_n C dX9_isStrange_29 rfl 1 rfl ?_
      refine j_iload_n C dX9_isStrange_30 rfl 2 rfl ?_
      refine j_cSI (As := [.int v1, .int v2]) (st := [.ref g1]) C (X9_spot_ok κ.2.1 G (dI D4 v0 0 0) v1 v2 _ hw) k_882 ms_X9_spot ⟨by decide, by decide⟩ ⟨rfl, rfl⟩ rfl rfl (Nat.le_of_ble_eq_true rfl) ⟨Nat.zero_le _, Nat.zero_le _⟩ dX9_isStrange_31 (fun r5 D6 hw => ?_)
      obtain ⟨hi7, hw⟩ := hw
      refine j_zald C ho_g1 hi7 dX9_isStrange_34 ?_
      refine j_if_eq (tgt := 42) C dX9_isStrange_35 (by decide) (fun hc => ?_) (fun hc => ?_)
      · have hw := hw.1 hc
        refine j_iconst (v := 0) C dX9_isStrange_42 (by decide) ?_
        exact J.sub (X9_isStrange_j43_ok C K ho_v0 hr_g1 ho_g1 0 D6 hw) [] rfl
      · have hw := hw.2 hc
        refine j_iconst (v := 1) C dX9_isStrange_38 (by decide) ?_
        refine j_goto (tgt := 43) C dX9_isStrange_39 (by decide) ?_
        exact J.sub (X9_isStrange_j43_ok C K ho_v0 hr_g1 ho_g1 1 D6 hw) [] rfl
    · have hw := hw.2 hc
      exact J.sub (X9_isStrange_j14_ok C K ho_v0 hr_g1 ho_g1 D4 hw) [0] rfl
/-! X9_keep -/
def X9_keep_l2_b (G : Shp) (post : Dat → Prop) (v0 : Nat) (v1 : Int32) (v2 : Int32) (g1 : Nat) (g2 : Nat) (rec : Int32 → Dat → Prop) (v3 : Int32) (D : Dat) : Prop := X9_size_wp G D v0 v2 (fun r1 D2 => ((r1 < v3 → post D2) ∧ (¬ (r1 < v3) → (vp_in (v2 + v3) (G.2.2.1 g2) ∧ vp_in ((60 * v1) + v3) (G.2.2.1 g1) ∧ rec (v3 + 1) (dI D2 g1 ((60 * v1) + v3).toNatClampNeg (D2.1 g2 (v2 + v3).toNatClampNeg))))))
def X9_keep_l2 (G : Shp) (post : Dat → Prop) (v0 : Nat) (v1 : Int32) (v2 : Int32) (g1 : Nat) (g2 : Nat) : Nat → Int32 → Dat → Prop
  | 0 => fun _ _ => False
  | n + 1 => X9_keep_l2_b G post v0 v1 v2 g1 g2 (X9_keep_l2 G post v0 v1 v2 g1 g2 n)
set_option maxRecDepth 100000 in
set_option maxHeartbeats 4000000 in
theorem X9_keep_l2_ok {κ : Ctx} {G : Shp} {post : Dat → Prop} {v0 : Nat} {v1 : Int32} {v2 : Int32} {g1 : Nat} {g2 : Nat} (C : Cx κ cX9_keep RX9 (rmN 1) 4) (K : RtV κ cX9_keep G post) (ho_v0 : isO G v0 9) (hr_g1 : G.2.2.2 v0 26 = some g1) (ho_g1 : isO G g1 11) (hr_g2 : G.2.2.2 v0 1 = some g2) (ho_g2 : isO G g2 11) : ∀ (n : Nat) (v3 : Int32) (D : Dat), X9_keep_l2 G post v0 v1 v2 g1 g2 n v3 D → J κ 0 0 G D 2 [(0, .ref v0), (1, .int v1), (2, .int v2), (3, .int v3)] [] := by
  intro n
  induction n with
  | zero => intro v3 D hw; exact hw.elim
  | succ n ih =>
    intro v3 D hw
    have hw : X9_keep_l2_b G post v0 v1 v2 g1 g2 (X9_keep_l2 G post v0 v1 v2 g1 g2 n) v3 D := hw
    unfold X9_keep_l2_b at hw
    refine j_iload_n C dX9_keep_2 rfl 3 rfl ?_
    refine j_aload_n C dX9_keep_3 rfl 0 rfl ?_
    refine j_iload_n C dX9_keep_4 rfl 2 rfl ?_
    refine j_cVI (As := [.int v2]) (st := [.int v3]) C (X9_size_ok κ.2.1 G D v0 v2 _ hw) ho_v0 rfl k_998 mv_X9_size ⟨by decide, by decide⟩ ⟨rfl, rfl⟩ rfl rfl (Nat.le_of_ble_eq_true rfl) ⟨Nat.zero_le _, Nat.zero_le _⟩ dX9_keep_5 (fun r1 D2 hw => ?_)
    refine j_icmp_gt (tgt := 36) C dX9_keep_8 (by decide) (fun hc => ?_) (fun hc => ?_)
    · have hw := hw.1 hc
      exact K _ _ _ dX9_keep_36 hw
    · have hw := hw.2 hc
      refine j_aload_n C dX9_keep_11 rfl 0 rfl ?_
      refine gf_9_26 C ho_v0 hr_g1 k_790 dX9_keep_12 ?_
      refine j_bipush (v := 60) C dX9_keep_15 (by decide) ?_
      refine j_iload_n C dX9_keep_17 rfl 1 rfl ?_
      refine j_imul C dX9_keep_18 ?_
      refine j_iload_n C dX9_keep_19 rfl 3 rfl ?_
      refine j_iadd C dX9_keep_20 ?_
      refine j_aload_n C dX9_keep_21 rfl 0 rfl ?_
      refine gf_9_1 C ho_v0 hr_g2 k_765 dX9_keep_22 ?_
      refine j_iload_n C dX9_keep_25 rfl 2 rfl ?_
      refine j_iload_n C dX9_keep_26 rfl 3 rfl ?_
      refine j_iadd C dX9_keep_27 ?_
      obtain ⟨hi3, hw⟩ := hw
      refine j_iald C ho_g2 hi3 dX9_keep_28 ?_
      obtain ⟨hi4, hw⟩ := hw
      refine j_iast C ho_g1 hi4 dX9_keep_29 ?_
      refine j_iinc (v := v3 + 1) C dX9_keep_30 3 rfl rfl (by decide) rfl ?_
      refine j_goto (tgt := 2) C dX9_keep_33 (by decide) ?_
      exact J.sub (ih (v3 + 1) (dI D2 g1 ((60 * v1) + v3).toNatClampNeg (D2.1 g2 (v2 + v3).toNatClampNeg)) hw) [1, 2, 3, 0] rfl
def X9_keep_wp (G : Shp) (D : Dat) (v0 : Nat) (v1 : Int32) (v2 : Int32) (post : Dat → Prop) : Prop := isO G v0 9 ∧ ∃ g1, G.2.2.2 v0 26 = some g1 ∧ isO G g1 11 ∧ ∃ g2, G.2.2.2 v0 1 = some g2 ∧ isO G g2 11 ∧ ∃ n, X9_keep_l2 G post v0 v1 v2 g1 g2 n 0 D
set_option maxRecDepth 100000 in
set_option maxHeartbeats 4000000 in
theorem X9_keep_ok (l : Launch) (G : Shp) (D : Dat) (v0 : Nat) (v1 : Int32) (v2 : Int32) (post : Dat → Prop) (hw : X9_keep_wp G D v0 v1 v2 post) : CtV l yX9_keep cX9_keep 4 (rmN 1) [.ref v0, .int v1, .int v2] G D post := by
  obtain ⟨ho_v0, g1, hr_g1, ho_g1, g2, hr_g2, ho_g2, hw⟩ := hw
  refine ctV_of (by decide) rfl (Nat.le_of_ble_eq_true rfl) ?_
  intro κ hκ C K
  subst hκ
  have C : Cx κ cX9_keep RX9 (rmN 1) 4 := C
  refine j_iconst (v := 0) C dX9_keep_0 (by decide) ?_
  refine j_istore_n C dX9_keep_1 rfl (by decide) rfl ?_
  obtain ⟨n, hw⟩ := hw
  exact J.sub (X9_keep_l2_ok C K ho_v0 hr_g1 ho_g1 hr_g2 ho_g2 n 0 D hw) [1, 2, 3, 0] rfl
