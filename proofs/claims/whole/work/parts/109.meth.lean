/-! X2_trend -/
def X2_trend_wp (G : Shp) (D : Dat) (v0 : Nat) (v1 : Int32) (v2 : Nat) (post : Dat → Prop) : Prop := isO G v0 2 ∧ isO G v2 0 ∧ ∃ g1, G.2.2.2 v0 0 = some g1 ∧ isO G g1 6 ∧ X6_clear_wp G D g1 (fun D2 => X2_addPlaceTops_wp G D2 v0 1 (fun D4 => X2_addUnknowns_wp G D4 v0 0 (D4.1 v0 13) v1 ((D4.1 v0 10).toInt64) (fun D6 => X6_settle_wp G D6 g1 v2 (fun D8 => post D8))))
set_option maxRecDepth 100000 in
set_option maxHeartbeats 4000000 in
theorem X2_trend_ok (l : Launch) (G : Shp) (D : Dat) (v0 : Nat) (v1 : Int32) (v2 : Nat) (post : Dat → Prop) (hw : X2_trend_wp G D v0 v1 v2 post) : CtV l yX2_trend cX2_trend 3 (rmN 3) [.ref v0, .int v1, .ref v2] G D post := by
  obtain ⟨ho_v0, ho_v2, g1, hr_g1, ho_g1, hw⟩ := hw
  refine ctV_of (by decide) rfl (Nat.le_of_ble_eq_true rfl) ?_
  intro κ hκ C K
  subst hκ
  have C : Cx κ cX2_trend RX2 (rmN 3) 3 := C
  refine j_aload_n C dX2_trend_0 rfl 0 rfl ?_
  refine gf_2_0 C ho_v0 hr_g1 k_146 dX2_trend_1 ?_
  refine j_cVV (As := []) (st := []) C (X6_clear_ok κ.2.1 G D g1 _ hw) ho_g1 rfl k_493 mv_X6_clear ⟨by decide, by decide⟩ ⟨rfl, rfl⟩ rfl rfl (Nat.le_of_ble_eq_true rfl) ⟨Nat.zero_le _, Nat.zero_le _⟩ dX2_trend_4 (fun D2 hw => ?_)
  refine j_aload_n C dX2_trend_7 rfl 0 rfl ?_
  refine j_lconst (v := 1) C dX2_trend_8 (by decide) ?_
  refine j_cVV (As := [.long 1]) (st := []) C (X2_addPlaceTops_ok κ.2.1 G D2 v0 1 _ hw) ho_v0 rfl k_542 mv_X2_addPlaceTops ⟨by decide, by decide⟩ ⟨rfl, rfl⟩ rfl rfl (Nat.le_of_ble_eq_true rfl) ⟨Nat.zero_le _, Nat.zero_le _⟩ dX2_trend_9 (fun D4 hw => ?_)
  refine j_aload_n C dX2_trend_12 rfl 0 rfl ?_
  refine j_iconst (v := 0) C dX2_trend_13 (by decide) ?_
  refine j_aload_n C dX2_trend_14 rfl 0 rfl ?_
  refine gf_2_13 C ho_v0 k_162 dX2_trend_15 ?_
  refine j_iload_n C dX2_trend_18 rfl 1 rfl ?_
  refine j_aload_n C dX2_trend_19 rfl 0 rfl ?_
  refine gf_2_10 C ho_v0 k_157 dX2_trend_20 ?_
  refine j_i2l C dX2_trend_23 ?_
  refine j_cVV (As := [.int 0, .int (D4.1 v0 13), .int v1, .long ((D4.1 v0 10).toInt64)]) (st := []) C (X2_addUnknowns_ok κ.2.1 G D4 v0 0 (D4.1 v0 13) v1 ((D4.1 v0 10).toInt64) _ hw) ho_v0 rfl k_649 mv_X2_addUnknowns ⟨by decide, by decide⟩ ⟨rfl, rfl⟩ rfl rfl (Nat.le_of_ble_eq_true rfl) ⟨Nat.zero_le _, Nat.zero_le _⟩ dX2_trend_24 (fun D6 hw => ?_)
  refine j_aload_n C dX2_trend_27 rfl 0 rfl ?_
  refine gf_2_0 C ho_v0 hr_g1 k_146 dX2_trend_28 ?_
  refine j_aload_n C dX2_trend_31 rfl 2 rfl ?_
  refine j_cVV (As := [.ref v2]) (st := []) C (X6_settle_ok κ.2.1 G D6 g1 v2 _ hw) ho_g1 rfl k_503 mv_X6_settle ⟨by decide, by decide⟩ ⟨rfl, rfl⟩ rfl rfl (Nat.le_of_ble_eq_true rfl) ⟨Nat.zero_le _, Nat.zero_le _⟩ dX2_trend_32 (fun D8 hw => ?_)
  exact K _ _ _ dX2_trend_35 hw
/-! X3_countedTicks -/
def X3_countedTicks_j21 (G : Shp) (post : Int32 → Dat → Prop) (v0 : Nat) (k4 : Int32 → Int32 → Dat → Prop) (v1 : Int32) (v2 : Int32) (D : Dat) : Prop := k4 v1 (v2 + 1) D
set_option maxRecDepth 100000 in
set_option maxHeartbeats 4000000 in
theorem X3_countedTicks_j21_ok {κ : Ctx} {G : Shp} {post : Int32 → Dat → Prop} {v0 : Nat} (C : Cx κ cX3_countedTicks RX3 (rmN 3) 3) (K : RtI κ cX3_countedTicks .int G post) (ho_v0 : isO G v0 3) {k4 : Int32 → Int32 → Dat → Prop} (hk4 : ∀ (v1 : Int32) (v2 : Int32) (D : Dat), k4 v1 v2 D → J κ 0 0 G D 4 [(0, .ref v0), (1, .int v1), (2, .int v2)] []) (v1 : Int32) (v2 : Int32) (D : Dat) (hw : X3_countedTicks_j21 G post v0 k4 v1 v2 D) : J κ 0 0 G D 21 [(0, .ref v0), (1, .int v1), (2, .int v2)] [] := by
  unfold X3_countedTicks_j21 at hw
  refine j_iinc (v := v2 + 1) C dX3_countedTicks_21 2 rfl rfl (by decide) rfl ?_
  refine j_goto (tgt := 4) C dX3_countedTicks_24 (by decide) ?_
  exact J.sub (hk4 v1 (v2 + 1) D hw) [1, 2, 0] rfl
def X3_countedTicks_l4_b (G : Shp) (post : Int32 → Dat → Prop) (v0 : Nat) (rec : Int32 → Int32 → Dat → Prop) (v1 : Int32) (v2 : Int32) (D : Dat) : Prop := ((40 ≤ v2 → post v1 D) ∧ (¬ (40 ≤ v2) → X3_counts_wp G D v0 v2 (fun r1 D2 => ((r1 = 0 → X3_countedTicks_j21 G post v0 rec v1 v2 D2) ∧ (¬ (r1 = 0) → X3_countedTicks_j21 G post v0 rec (v1 + 1) v2 D2)))))
def X3_countedTicks_l4 (G : Shp) (post : Int32 → Dat → Prop) (v0 : Nat) : Nat → Int32 → Int32 → Dat → Prop
  | 0 => fun _ _ _ => False
  | n + 1 => X3_countedTicks_l4_b G post v0 (X3_countedTicks_l4 G post v0 n)
set_option maxRecDepth 100000 in
set_option maxHeartbeats 4000000 in
theorem X3_countedTicks_l4_ok {κ : Ctx} {G : Shp} {post : Int32 → Dat → Prop} {v0 : Nat} (C : Cx κ cX3_countedTicks RX3 (rmN 3) 3) (K : RtI κ cX3_countedTicks .int G post) (ho_v0 : isO G v0 3) : ∀ (n : Nat) (v1 : Int32) (v2 : Int32) (D : Dat), X3_countedTicks_l4 G post v0 n v1 v2 D → J κ 0 0 G D 4 [(0, .ref v0), (1, .int v1), (2, .int v2)] [] := by
  intro n
  induction n with
  | zero => intro v1 v2 D hw; exact hw.elim
  | succ n ih =>
    intro v1 v2 D hw
    have hw : X3_countedTicks_l4_b G post v0 (X3_countedTicks_l4 G post v0 n) v1 v2 D := hw
    unfold X3_countedTicks_l4_b at hw
    refine j_iload_n C dX3_countedTicks_4 rfl 2 rfl ?_
    refine j_bipush (v := 40) C dX3_countedTicks_5 (by decide) ?_
    refine j_icmp_ge (tgt := 27) C dX3_countedTicks_7 (by decide) (fun hc => ?_) (fun hc => ?_)
    · have hw := hw.1 hc
      refine j_iload_n C dX3_countedTicks_27 rfl 1 rfl ?_
      exact K _ _ _ _ dX3_countedTicks_28 rfl hw
    · have hw := hw.2 hc
      refine j_aload_n C dX3_countedTicks_10 rfl 0 rfl ?_
      refine j_iload_n C dX3_countedTicks_11 rfl 2 rfl ?_
      refine j_cVI (As := [.int v2]) (st := []) C (X3_counts_ok κ.2.1 G D v0 v2 _ hw) ho_v0 rfl k_366 mv_X3_counts ⟨by decide, by decide⟩ ⟨rfl, rfl⟩ rfl rfl (Nat.le_of_ble_eq_true rfl) ⟨Nat.zero_le _, Nat.zero_le _⟩ dX3_countedTicks_12 (fun r1 D2 hw => ?_)
      refine j_if_eq (tgt := 21) C dX3_countedTicks_15 (by decide) (fun hc => ?_) (fun hc => ?_)
      · have hw := hw.1 hc
        exact J.sub (X3_countedTicks_j21_ok C K ho_v0 ih v1 v2 D2 hw) [0, 1, 2] rfl
      · have hw := hw.2 hc
        refine j_iinc (v := v1 + 1) C dX3_countedTicks_18 1 rfl rfl (by decide) rfl ?_
        exact J.sub (X3_countedTicks_j21_ok C K ho_v0 ih (v1 + 1) v2 D2 hw) [1, 0, 2] rfl
def X3_countedTicks_wp (G : Shp) (D : Dat) (v0 : Nat) (post : Int32 → Dat → Prop) : Prop := isO G v0 3 ∧ ∃ n, X3_countedTicks_l4 G post v0 n 0 0 D
set_option maxRecDepth 100000 in
set_option maxHeartbeats 4000000 in
theorem X3_countedTicks_ok (l : Launch) (G : Shp) (D : Dat) (v0 : Nat) (post : Int32 → Dat → Prop) (hw : X3_countedTicks_wp G D v0 post) : CtI l yX3_countedTicks cX3_countedTicks 3 .int (rmN 3) [.ref v0] G D post := by
  obtain ⟨ho_v0, hw⟩ := hw
  refine ctI_of (by decide) rfl (Nat.le_of_ble_eq_true rfl) ?_
  intro κ hκ C K
  subst hκ
  have C : Cx κ cX3_countedTicks RX3 (rmN 3) 3 := C
  refine j_iconst (v := 0) C dX3_countedTicks_0 (by decide) ?_
  refine j_istore_n C dX3_countedTicks_1 rfl (by decide) rfl ?_
  refine j_iconst (v := 0) C dX3_countedTicks_2 (by decide) ?_
  refine j_istore_n C dX3_countedTicks_3 rfl (by decide) rfl ?_
  obtain ⟨n, hw⟩ := hw
  exact J.sub (X3_countedTicks_l4_ok C K ho_v0 n 0 0 D hw) [2, 1, 0] rfl
/-! X4_writeDigits -/
def X4_writeDigits_j41 (G : Shp) (post : Dat → Prop) (v0 : Nat) (v1 : Nat) (D : Dat) : Prop := post D
set_option maxRecDepth 100000 in
set_option maxHeartbeats 4000000 in
theorem X4_writeDigits_j41_ok {κ : Ctx} {G : Shp} {post : Dat → Prop} {v0 : Nat} {v1 : Nat} (C : Cx κ cX4_writeDigits RX4 (rmN 3) 3) (K : RtV κ cX4_writeDigits G post) (ho_v0 : isO G v0 4) (ho_v1 : isO G v1 0) (D : Dat) (hw : X4_writeDigits_j41 G post v0 v1 D) : J κ 0 0 G D 41 [] [] := by
  unfold X4_writeDigits_j41 at hw
  exact K _ _ _ dX4_writeDigits_41 hw
def X4_writeDigits_j19 (G : Shp) (post : Dat → Prop) (v0 : Nat) (v1 : Nat) (k2 : Int32 → Dat → Prop) (v2 : Int32) (D : Dat) : Prop := X0_divide_wp G D v1 10 (fun r1 D2 => X4_writeByte_wp G D2 v0 ((48 + r1).toInt32) (fun D4 => k2 (v2 + 1) D4))
set_option maxRecDepth 100000 in
set_option maxHeartbeats 4000000 in
theorem X4_writeDigits_j19_ok {κ : Ctx} {G : Shp} {post : Dat → Prop} {v0 : Nat} {v1 : Nat} (C : Cx κ cX4_writeDigits RX4 (rmN 3) 3) (K : RtV κ cX4_writeDigits G post) (ho_v0 : isO G v0 4) (ho_v1 : isO G v1 0) {k2 : Int32 → Dat → Prop} (hk2 : ∀ (v2 : Int32) (D : Dat), k2 v2 D → J κ 0 0 G D 2 [(0, .ref v0), (1, .ref v1), (2, .int v2)] []) (v2 : Int32) (D : Dat) (hw : X4_writeDigits_j19 G post v0 v1 k2 v2 D) : J κ 0 0 G D 19 [(0, .ref v0), (1, .ref v1), (2, .int v2)] [] := by
  unfold X4_writeDigits_j19 at hw
  refine j_aload_n C dX4_writeDigits_19 rfl 0 rfl ?_
  refine j_ldc2 (v := 48) C k_600 dX4_writeDigits_20 ?_
  refine j_aload_n C dX4_writeDigits_23 rfl 1 rfl ?_
  refine j_ldc2 (v := 10) C k_601 dX4_writeDigits_24 ?_
  refine j_cVL (As := [.long 10]) (st := [.long 48, .ref v0]) C (X0_divide_ok κ.2.1 G D v1 10 _ hw) ho_v1 rfl k_602 mv_X0_divide ⟨by decide, by decide⟩ ⟨rfl, rfl⟩ rfl rfl (Nat.le_of_ble_eq_true rfl) ⟨Nat.zero_le _, Nat.zero_le _⟩ dX4_writeDigits_27 (fun r1 D2 hw => ?_)
  refine j_ladd C dX4_writeDigits_30 ?_
  refine j_l2i C dX4_writeDigits_31 ?_
  refine j_cVV (As := [.int ((48 + r1).toInt32)]) (st := []) C (X4_writeByte_ok κ.2.1 G D2 v0 ((48 + r1).toInt32) _ hw) ho_v0 rfl k_603 mv_X4_writeByte ⟨by decide, by decide⟩ ⟨rfl, rfl⟩ rfl rfl (Nat.le_of_ble_eq_true rfl) ⟨Nat.zero_le _, Nat.zero_le _⟩ dX4_writeDigits_32 (fun D4 hw => ?_)
  refine j_iinc (v := v2 + 1) C dX4_writeDigits_35 2 rfl rfl (by decide) rfl ?_
  refine j_goto (tgt := 2) C dX4_writeDigits_38 (by decide) ?_
  exact J.sub (hk2 (v2 + 1) D4 hw) [1, 2, 0] rfl
def X4_writeDigits_l2_b (G : Shp) (post : Dat → Prop) (v0 : Nat) (v1 : Nat) (rec : Int32 → Dat → Prop) (v2 : Int32) (D : Dat) : Prop := ((100 ≤ v2 → X4_writeDigits_j41 G post v0 v1 D) ∧ (¬ (100 ≤ v2) → ((v2 = 0 → X4_writeDigits_j19 G post v0 v1 rec v2 D) ∧ (¬ (v2 = 0) → X0_isZero_wp G D v1 (fun r1 D2 => ((¬ r1 = 0 → X4_writeDigits_j41 G post v0 v1 D2) ∧ (r1 = 0 → X4_writeDigits_j19 G post v0 v1 rec v2 D2)))))))
def X4_writeDigits_l2 (G : Shp) (post : Dat → Prop) (v0 : Nat) (v1 : Nat) : Nat → Int32 → Dat → Prop
  | 0 => fun _ _ => False
  | n + 1 => X4_writeDigits_l2_b G post v0 v1 (X4_writeDigits_l2 G post v0 v1 n)
set_option maxRecDepth 100000 in
set_option maxHeartbeats 4000000 in
theorem X4_writeDigits_l2_ok {κ : Ctx} {G : Shp} {post : Dat → Prop} {v0 : Nat} {v1 : Nat} (C : Cx κ cX4_writeDigits RX4 (rmN 3) 3) (K : RtV κ cX4_writeDigits G post) (ho_v0 : isO G v0 4) (ho_v1 : isO G v1 0) : ∀ (n : Nat) (v2 : Int32) (D : Dat), X4_writeDigits_l2 G post v0 v1 n v2 D → J κ 0 0 G D 2 [(0, .ref v0), (1, .ref v1), (2, .int v2)] [] := by
  intro n
  induction n with
  | zero => intro v2 D hw; exact hw.elim
  | succ n ih =>
    intro v2 D hw
    have hw : X4_writeDigits_l2_b G post v0 v1 (X4_writeDigits_l2 G post v0 v1 n) v2 D := hw
    unfold X4_writeDigits_l2_b at hw
    refine j_iload_n C dX4_writeDigits_2 rfl 2 rfl ?_
    refine j_bipush (v := 100) C dX4_writeDigits_3 (by decide) ?_
    refine j_icmp_ge (tgt := 41) C dX4_writeDigits_5 (by decide) (fun hc => ?_) (fun hc => ?_)
    · have hw := hw.1 hc
      exact J.sub (X4_writeDigits_j41_ok C K ho_v0 ho_v1 D hw) [] rfl
    · have hw := hw.2 hc
      refine j_iload_n C dX4_writeDigits_8 rfl 2 rfl ?_
      refine j_if_eq (tgt := 19) C dX4_writeDigits_9 (by decide) (fun hc => ?_) (fun hc => ?_)
      · have hw := hw.1 hc
        exact J.sub (X4_writeDigits_j19_ok C K ho_v0 ho_v1 ih v2 D hw) [0, 1, 2] rfl
      · have hw := hw.2 hc
        refine j_aload_n C dX4_writeDigits_12 rfl 1 rfl ?_
        refine j_cVI (As := []) (st := []) C (X0_isZero_ok κ.2.1 G D v1 _ hw) ho_v1 rfl k_596 mv_X0_isZero ⟨by decide, by decide⟩ ⟨rfl, rfl⟩ rfl rfl (Nat.le_of_ble_eq_true rfl) ⟨Nat.zero_le _, Nat.zero_le _⟩ dX4_writeDigits_13 (fun r1 D2 hw => ?_)
        refine j_if_ne (tgt := 41) C dX4_writeDigits_16 (by decide) (fun hc => ?_) (fun hc => ?_)
        · have hw := hw.1 hc
          exact J.sub (X4_writeDigits_j41_ok C K ho_v0 ho_v1 D2 hw) [] rfl
        · have hw := hw.2 hc
          exact J.sub (X4_writeDigits_j19_ok C K ho_v0 ho_v1 ih v2 D2 hw) [0, 1, 2] rfl
def X4_writeDigits_wp (G : Shp) (D : Dat) (v0 : Nat) (v1 : Nat) (post : Dat → Prop) : Prop := isO G v0 4 ∧ isO G v1 0 ∧ ∃ n, X4_writeDigits_l2 G post v0 v1 n 0 D
set_option maxRecDepth 100000 in
set_option maxHeartbeats 4000000 in
theorem X4_writeDigits_ok (l : Launch) (G : Shp) (D : Dat) (v0 : Nat) (v1 : Nat) (post : Dat → Prop) (hw : X4_writeDigits_wp G D v0 v1 post) : CtV l yX4_writeDigits cX4_writeDigits 3 (rmN 3) [.ref v0, .ref v1] G D post := by
  obtain ⟨ho_v0, ho_v1, hw⟩ := hw
  refine ctV_of (by decide) rfl (Nat.le_of_ble_eq_true rfl) ?_
  intro κ hκ C K
  subst hκ
  have C : Cx κ cX4_writeDigits RX4 (rmN 3) 3 := C
  refine j_iconst (v := 0) C dX4_writeDigits_0 (by decide) ?_
  refine j_istore_n C dX4_writeDigits_1 rfl (by decide) rfl ?_
  obtain ⟨n, hw⟩ := hw
  exact J.sub (X4_writeDigits_l2_ok C K ho_v0 ho_v1 n 0 D hw) [1, 2, 0] rfl
/-! X5_asGreat -/
def X5_asGreat_j38 (G : Shp) (post : Int32 → Dat → Prop) (v0 : Nat) (v1 : Nat) (v2 : Nat) (g1 : Nat) (k5 : Int32 → Int32 → Dat → Prop) (v3 : Int32) (v4 : Int32) (D : Dat) : Prop := k5 v3 (v4 + 1) D
set_option maxRecDepth 100000 in
set_option maxHeartbeats 4000000 in
theorem X5_asGreat_j38_ok {κ : Ctx} {G : Shp} {post : Int32 → Dat → Prop} {v0 : Nat} {v1 : Nat} {v2 : Nat} {g1 : Nat} (C : Cx κ cX5_asGreat RX5 (rmN 3) 5) (K : RtI κ cX5_asGreat .int G post) (ho_v0 : isO G v0 5) (ho_v1 : isO G v1 3) (ho_v2 : isO G v2 0) (hr_g1 : G.2.2.2 v0 2 = some g1) (ho_g1 : isO G g1 14) {k5 : Int32 → Int32 → Dat → Prop} (hk5 : ∀ (v3 : Int32) (v4 : Int32) (D : Dat), k5 v3 v4 D → J κ 0 0 G D 5 [(0, .ref v0), (1, .ref v1), (2, .ref v2), (3, .int v3), (4, .int v4)] []) (v3 : Int32) (v4 : Int32) (D : Dat) (hw : X5_asGreat_j38 G post v0 v1 v2 g1 k5 v3 v4 D) : J κ 0 0 G D 38 [(0, .ref v0), (1, .ref v1), (2, .ref v2), (3, .int v3), (4, .int v4)] [] := by
  unfold X5_asGreat_j38 at hw
  refine j_iinc (v := v4 + 1) C dX5_asGreat_38 4 rfl rfl (by decide) rfl ?_
  refine j_goto (tgt := 5) C dX5_asGreat_41 (by decide) ?_
  exact J.sub (hk5 v3 (v4 + 1) D hw) [1, 2, 3, 4, 0] rfl
def X5_asGreat_l5_b (G : Shp) (post : Int32 → Dat → Prop) (v0 : Nat) (v1 : Nat) (v2 : Nat) (g1 : Nat) (rec : Int32 → Int32 → Dat → Prop) (v3 : Int32) (v4 : Int32) (D : Dat) : Prop := ((40 ≤ v4 → post v3 D) ∧ (¬ (40 ≤ v4) → X3_counts_wp G D v1 v4 (fun r1 D2 => ((r1 = 0 → X5_asGreat_j38 G post v0 v1 v2 g1 rec v3 v4 D2) ∧ (¬ (r1 = 0) → (vp_in v4 (G.2.2.1 g1) ∧ ∃ y4, G.2.2.2 g1 v4.toNatClampNeg = some y4 ∧ isO G y4 0 ∧ X0_compareSize_wp G D2 y4 v2 (fun r7 D8 => ((r7 < 0 → X5_asGreat_j38 G post v0 v1 v2 g1 rec v3 v4 D8) ∧ (¬ (r7 < 0) → X5_asGreat_j38 G post v0 v1 v2 g1 rec (v3 + 1) v4 D8)))))))))
def X5_asGreat_l5 (G : Shp) (post : Int32 → Dat → Prop) (v0 : Nat) (v1 : Nat) (v2 : Nat) (g1 : Nat) : Nat → Int32 → Int32 → Dat → Prop
  | 0 => fun _ _ _ => False
  | n + 1 => X5_asGreat_l5_b G post v0 v1 v2 g1 (X5_asGreat_l5 G post v0 v1 v2 g1 n)
set_option maxRecDepth 100000 in
set_option maxHeartbeats 4000000 in
theorem X5_asGreat_l5_ok {κ : Ctx} {G : Shp} {post : Int32 → Dat → Prop} {v0 : Nat} {v1 : Nat} {v2 : Nat} {g1 : Nat} (C : Cx κ cX5_asGreat RX5 (rmN 3) 5) (K : RtI κ cX5_asGreat .int G post) (ho_v0 : isO G v0 5) (ho_v1 : isO G v1 3) (ho_v2 : isO G v2 0) (hr_g1 : G.2.2.2 v0 2 = some g1) (ho_g1 : isO G g1 14) : ∀ (n : Nat) (v3 : Int32) (v4 : Int32) (D : Dat), X5_asGreat_l5 G post v0 v1 v2 g1 n v3 v4 D → J κ 0 0 G D 5 [(0, .ref v0), (1, .ref v1), (2, .ref v2), (3, .int v3), (4, .int v4)] [] := by
  intro n
  induction n with
  | zero => intro v3 v4 D hw; exact hw.elim
  | succ n ih =>
    intro v3 v4 D hw
    have hw : X5_asGreat_l5_b G post v0 v1 v2 g1 (X5_asGreat_l5 G post v0 v1 v2 g1 n) v3 v4 D := hw
    unfold X5_asGreat_l5_b at hw
    refine j_iload C dX5_asGreat_5 4 rfl ?_
    refine j_bipush (v := 40) C dX5_asGreat_7 (by decide) ?_
    refine j_icmp_ge (tgt := 44) C dX5_asGreat_9 (by decide) (fun hc => ?_) (fun hc => ?_)
    · have hw := hw.1 hc
      refine j_iload_n C dX5_asGreat_44 rfl 3 rfl ?_
      exact K _ _ _ _ dX5_asGreat_45 rfl hw
    · have hw := hw.2 hc
      refine j_aload_n C dX5_asGreat_12 rfl 1 rfl ?_
      refine j_iload C dX5_asGreat_13 4 rfl ?_
      refine j_cVI (As := [.int v4]) (st := []) C (X3_counts_ok κ.2.1 G D v1 v4 _ hw) ho_v1 rfl k_712 mv_X3_counts ⟨by decide, by decide⟩ ⟨rfl, rfl⟩ rfl rfl (Nat.le_of_ble_eq_true rfl) ⟨Nat.zero_le _, Nat.zero_le _⟩ dX5_asGreat_15 (fun r1 D2 hw => ?_)
      refine j_if_eq (tgt := 38) C dX5_asGreat_18 (by decide) (fun hc => ?_) (fun hc => ?_)
      · have hw := hw.1 hc
        exact J.sub (X5_asGreat_j38_ok C K ho_v0 ho_v1 ho_v2 hr_g1 ho_g1 ih v3 v4 D2 hw) [0, 1, 2, 3, 4] rfl
      · have hw := hw.2 hc
        refine j_aload_n C dX5_asGreat_21 rfl 0 rfl ?_
        refine gf_5_2 C ho_v0 hr_g1 k_205 dX5_asGreat_22 ?_
        refine j_iload C dX5_asGreat_25 4 rfl ?_
        obtain ⟨hi3, hw⟩ := hw
        obtain ⟨y4, hr5, ho6, hw⟩ := hw
        refine j_aaldBig C ho_g1 hi3 hr5 dX5_asGreat_27 ?_
        refine j_aload_n C dX5_asGreat_28 rfl 2 rfl ?_
        refine j_cVI (As := [.ref v2]) (st := []) C (X0_compareSize_ok κ.2.1 G D2 y4 v2 _ hw) ho6 rfl k_720 mv_X0_compareSize ⟨by decide, by decide⟩ ⟨rfl, rfl⟩ rfl rfl (Nat.le_of_ble_eq_true rfl) ⟨Nat.zero_le _, Nat.zero_le _⟩ dX5_asGreat_29 (fun r7 D8 hw => ?_)
        refine j_if_lt (tgt := 38) C dX5_asGreat_32 (by decide) (fun hc => ?_) (fun hc => ?_)
        · have hw := hw.1 hc
          exact J.sub (X5_asGreat_j38_ok C K ho_v0 ho_v1 ho_v2 hr_g1 ho_g1 ih v3 v4 D8 hw) [0, 1, 2, 3, 4] rfl
        · have hw := hw.2 hc
          refine j_iinc (v := v3 + 1) C dX5_asGreat_35 3 rfl rfl (by decide) rfl ?_
          exact J.sub (X5_asGreat_j38_ok C K ho_v0 ho_v1 ho_v2 hr_g1 ho_g1 ih (v3 + 1) v4 D8 hw) [1, 2, 3, 0, 4] rfl
def X5_asGreat_wp (G : Shp) (D : Dat) (v0 : Nat) (v1 : Nat) (v2 : Nat) (post : Int32 → Dat → Prop) : Prop := isO G v0 5 ∧ isO G v1 3 ∧ isO G v2 0 ∧ ∃ g1, G.2.2.2 v0 2 = some g1 ∧ isO G g1 14 ∧ ∃ n, X5_asGreat_l5 G post v0 v1 v2 g1 n 0 0 D
set_option maxRecDepth 100000 in
set_option maxHeartbeats 4000000 in
theorem X5_asGreat_ok (l : Launch) (G : Shp) (D : Dat) (v0 : Nat) (v1 : Nat) (v2 : Nat) (post : Int32 → Dat → Prop) (hw : X5_asGreat_wp G D v0 v1 v2 post) : CtI l yX5_asGreat cX5_asGreat 5 .int (rmN 3) [.ref v0, .ref v1, .ref v2] G D post := by
  obtain ⟨ho_v0, ho_v1, ho_v2, g1, hr_g1, ho_g1, hw⟩ := hw
  refine ctI_of (by decide) rfl (Nat.le_of_ble_eq_true rfl) ?_
  intro κ hκ C K
  subst hκ
  have C : Cx κ cX5_asGreat RX5 (rmN 3) 5 := C
  refine j_iconst (v := 0) C dX5_asGreat_0 (by decide) ?_
  refine j_istore_n C dX5_asGreat_1 rfl (by decide) rfl ?_
  refine j_iconst (v := 0) C dX5_asGreat_2 (by decide) ?_
  refine j_istore C dX5_asGreat_3 (by decide) rfl ?_
  obtain ⟨n, hw⟩ := hw
  exact J.sub (X5_asGreat_l5_ok C K ho_v0 ho_v1 ho_v2 hr_g1 ho_g1 n 0 0 D hw) [2, 3, 4, 1, 0] rfl
/-! X5_isAbove -/
def X5_isAbove_wp (G : Shp) (D : Dat) (v0 : Nat) (v1 : Nat) (v2 : Int32) (v3 : Int32) (post : Int32 → Dat → Prop) : Prop := isO G v0 5 ∧ isO G v1 0 ∧ ∃ g1, G.2.2.2 v0 1 = some g1 ∧ isO G g1 6 ∧ ∃ g2, G.2.2.2 v0 4 = some g2 ∧ isO G g2 0 ∧ ∃ g3, G.2.2.2 v0 5 = some g3 ∧ isO G g3 0 ∧ X6_clear_wp G D g1 (fun D2 => X6_addTimes_wp G D2 g1 g2 v2.toInt64 (fun D4 => X6_addTimes_wp G D4 g1 v1 ((-v3).toInt64) (fun D6 => X6_settle_wp G D6 g1 g3 (fun D8 => (isB (D8.1 g3 2) ∧ post (D8.1 g3 2) D8)))))
set_option maxRecDepth 100000 in
set_option maxHeartbeats 4000000 in
theorem X5_isAbove_ok (l : Launch) (G : Shp) (D : Dat) (v0 : Nat) (v1 : Nat) (v2 : Int32) (v3 : Int32) (post : Int32 → Dat → Prop) (hw : X5_isAbove_wp G D v0 v1 v2 v3 post) : CtI l yX5_isAbove cX5_isAbove 4 .boolean (rmN 3) [.ref v0, .ref v1, .int v2, .int v3] G D post := by
  obtain ⟨ho_v0, ho_v1, g1, hr_g1, ho_g1, g2, hr_g2, ho_g2, g3, hr_g3, ho_g3, hw⟩ := hw
  refine ctI_of (by decide) rfl (Nat.le_of_ble_eq_true rfl) ?_
  intro κ hκ C K
  subst hκ
  have C : Cx κ cX5_isAbove RX5 (rmN 3) 4 := C
  refine j_aload_n C dX5_isAbove_0 rfl 0 rfl ?_
  refine gf_5_1 C ho_v0 hr_g1 k_204 dX5_isAbove_1 ?_
  refine j_cVV (As := []) (st := []) C (X6_clear_ok κ.2.1 G D g1 _ hw) ho_g1 rfl k_737 mv_X6_clear ⟨by decide, by decide⟩ ⟨rfl, rfl⟩ rfl rfl (Nat.le_of_ble_eq_true rfl) ⟨Nat.zero_le _, Nat.zero_le _⟩ dX5_isAbove_4 (fun D2 hw => ?_)
  refine j_aload_n C dX5_isAbove_7 rfl 0 rfl ?_
  refine gf_5_1 C ho_v0 hr_g1 k_204 dX5_isAbove_8 ?_
  refine j_aload_n C dX5_isAbove_11 rfl 0 rfl ?_
  refine gf_5_4 C ho_v0 hr_g2 k_207 dX5_isAbove_12 ?_
  refine j_iload_n C dX5_isAbove_15 rfl 2 rfl ?_
  refine j_i2l C dX5_isAbove_16 ?_
  refine j_cVV (As := [.ref g2, .long v2.toInt64]) (st := []) C (X6_addTimes_ok κ.2.1 G D2 g1 g2 v2.toInt64 _ hw) ho_g1 rfl k_738 mv_X6_addTimes ⟨by decide, by decide⟩ ⟨rfl, rfl⟩ rfl rfl (Nat.le_of_ble_eq_true rfl) ⟨Nat.zero_le _, Nat.zero_le _⟩ dX5_isAbove_17 (fun D4 hw => ?_)
  refine j_aload_n C dX5_isAbove_20 rfl 0 rfl ?_
  refine gf_5_1 C ho_v0 hr_g1 k_204 dX5_isAbove_21 ?_
  refine j_aload_n C dX5_isAbove_24 rfl 1 rfl ?_
  refine j_iload_n C dX5_isAbove_25 rfl 3 rfl ?_
  refine j_ineg C dX5_isAbove_26 ?_
  refine j_i2l C dX5_isAbove_27 ?_
  refine j_cVV (As := [.ref v1, .long ((-v3).toInt64)]) (st := []) C (X6_addTimes_ok κ.2.1 G D4 g1 v1 ((-v3).toInt64) _ hw) ho_g1 rfl k_738 mv_X6_addTimes ⟨by decide, by decide⟩ ⟨rfl, rfl⟩ rfl rfl (Nat.le_of_ble_eq_true rfl) ⟨Nat.zero_le _, Nat.zero_le _⟩ dX5_isAbove_28 (fun D6 hw => ?_)
  refine j_aload_n C dX5_isAbove_31 rfl 0 rfl ?_
  refine gf_5_1 C ho_v0 hr_g1 k_204 dX5_isAbove_32 ?_
  refine j_aload_n C dX5_isAbove_35 rfl 0 rfl ?_
  refine gf_5_5 C ho_v0 hr_g3 k_208 dX5_isAbove_36 ?_
  refine j_cVV (As := [.ref g3]) (st := []) C (X6_settle_ok κ.2.1 G D6 g1 g3 _ hw) ho_g1 rfl k_739 mv_X6_settle ⟨by decide, by decide⟩ ⟨rfl, rfl⟩ rfl rfl (Nat.le_of_ble_eq_true rfl) ⟨Nat.zero_le _, Nat.zero_le _⟩ dX5_isAbove_39 (fun D8 hw => ?_)
  refine j_aload_n C dX5_isAbove_42 rfl 0 rfl ?_
  refine gf_5_5 C ho_v0 hr_g3 k_208 dX5_isAbove_43 ?_
  refine gf_0_2 C ho_g3 k_49 dX5_isAbove_46 ?_
  obtain ⟨hb9, hw⟩ := hw
  exact K _ _ _ _ dX5_isAbove_49 (isB_n hb9) hw
/-! X8_fill -/
def X8_fill_l84_b (G : Shp) (post : Int32 → Dat → Prop) (v0 : Nat) (v1 : Int32) (v2 : Int32) (v3 : Int32) (v4 : Int32) (v5 : Int32) (rec : Nat → Int32 → Dat → Prop) (v6 : Nat) (v9 : Int32) (D : Dat) : Prop := ((v3 ≤ v9 → X8_done_wp G D v0 (fun r1 D2 => (isB r1 ∧ post r1 D2))) ∧ (¬ (v3 ≤ v9) → (isO G v6 3 ∧ X3_setNumber_wp G D v6 (v2 + v9) (v4 + (v9 * v5)) (fun D6 => rec v6 (v9 + 1) D6))))
def X8_fill_l84 (G : Shp) (post : Int32 → Dat → Prop) (v0 : Nat) (v1 : Int32) (v2 : Int32) (v3 : Int32) (v4 : Int32) (v5 : Int32) : Nat → Nat → Int32 → Dat → Prop
  | 0 => fun _ _ _ => False
  | n + 1 => X8_fill_l84_b G post v0 v1 v2 v3 v4 v5 (X8_fill_l84 G post v0 v1 v2 v3 v4 v5 n)
set_option maxRecDepth 100000 in
set_option maxHeartbeats 4000000 in
theorem X8_fill_l84_ok {κ : Ctx} {G : Shp} {post : Int32 → Dat → Prop} {v0 : Nat} {v1 : Int32} {v2 : Int32} {v3 : Int32} {v4 : Int32} {v5 : Int32} (C : Cx κ cX8_fill RX8 (rmN 3) 10) (K : RtI κ cX8_fill .boolean G post) (ho_v0 : isO G v0 8) : ∀ (n : Nat) (v6 : Nat) (v9 : Int32) (D : Dat), X8_fill_l84 G post v0 v1 v2 v3 v4 v5 n v6 v9 D → J κ 0 0 G D 84 [(0, .ref v0), (2, .int v2), (3, .int v3), (4, .int v4), (5, .int v5), (6, .ref v6), (9, .int v9)] [] := by
  intro n
  induction n with
  | zero => intro v6 v9 D hw; exact hw.elim
  | succ n ih =>
    intro v6 v9 D hw
    have hw : X8_fill_l84_b G post v0 v1 v2 v3 v4 v5 (X8_fill_l84 G post v0 v1 v2 v3 v4 v5 n) v6 v9 D := hw
    unfold X8_fill_l84_b at hw
    refine j_iload C dX8_fill_84 6 rfl ?_
    refine j_iload_n C dX8_fill_86 rfl 2 rfl ?_
    refine j_icmp_ge (tgt := 113) C dX8_fill_87 (by decide) (fun hc => ?_) (fun hc => ?_)
    · have hw := hw.1 hc
      refine j_aload_n C dX8_fill_113 rfl 0 rfl ?_
      refine j_cVI (As := []) (st := []) C (X8_done_ok κ.2.1 G D v0 _ hw) ho_v0 rfl k_325 mv_X8_done ⟨by decide, by decide⟩ ⟨rfl, rfl⟩ rfl rfl (Nat.le_of_ble_eq_true rfl) ⟨Nat.zero_le _, Nat.zero_le _⟩ dX8_fill_114 (fun r1 D2 hw => ?_)
      obtain ⟨hb3, hw⟩ := hw
      exact K _ _ _ _ dX8_fill_117 (isB_n hb3) hw
    · have hw := hw.2 hc
      refine j_aload C dX8_fill_90 5 rfl ?_
      refine j_iload_n C dX8_fill_92 rfl 1 rfl ?_
      refine j_iload C dX8_fill_93 6 rfl ?_
      refine j_iadd C dX8_fill_95 ?_
      refine j_iload C dX8_fill_96 3 rfl ?_
      refine j_iload C dX8_fill_98 6 rfl ?_
      refine j_iload C dX8_fill_100 4 rfl ?_
      refine j_imul C dX8_fill_102 ?_
      refine j_iadd C dX8_fill_103 ?_
      obtain ⟨ho4, hw⟩ := hw
      refine j_cVV (As := [.int (v2 + v9), .int (v4 + (v9 * v5))]) (st := []) C (X3_setNumber_ok κ.2.1 G D v6 (v2 + v9) (v4 + (v9 * v5)) _ hw) ho4 rfl k_315 mv_X3_setNumber ⟨by decide, by decide⟩ ⟨rfl, rfl⟩ rfl rfl (Nat.le_of_ble_eq_true rfl) ⟨Nat.zero_le _, Nat.zero_le _⟩ dX8_fill_104 (fun D6 hw => ?_)
      refine j_iinc (v := v9 + 1) C dX8_fill_107 6 rfl rfl (by decide) rfl ?_
      refine j_goto (tgt := 84) C dX8_fill_110 (by decide) ?_
      exact J.sub (ih v6 (v9 + 1) D6 hw) [1, 2, 3, 4, 5, 6, 0] rfl
def X8_fill_j75 (G : Shp) (post : Int32 → Dat → Prop) (v0 : Nat) (v1 : Int32) (v2 : Int32) (v3 : Int32) (v4 : Int32) (v5 : Int32) (D : Dat) : Prop := X8_refuse_wp G D v0 2 (fun r1 D2 => (isB r1 ∧ post r1 D2))
set_option maxRecDepth 100000 in
set_option maxHeartbeats 4000000 in
theorem X8_fill_j75_ok {κ : Ctx} {G : Shp} {post : Int32 → Dat → Prop} {v0 : Nat} {v1 : Int32} {v2 : Int32} {v3 : Int32} {v4 : Int32} {v5 : Int32} (C : Cx κ cX8_fill RX8 (rmN 3) 10) (K : RtI κ cX8_fill .boolean G post) (ho_v0 : isO G v0 8) (D : Dat) (hw : X8_fill_j75 G post v0 v1 v2 v3 v4 v5 D) : J κ 0 0 G D 75 [(0, .ref v0)] [] := by
  unfold X8_fill_j75 at hw
  refine j_aload_n C dX8_fill_75 rfl 0 rfl ?_
  refine j_iconst (v := 2) C dX8_fill_76 (by decide) ?_
  refine j_cVI (As := [.int 2]) (st := []) C (X8_refuse_ok κ.2.1 G D v0 2 _ hw) ho_v0 rfl k_306 mv_X8_refuse ⟨by decide, by decide⟩ ⟨rfl, rfl⟩ rfl rfl (Nat.le_of_ble_eq_true rfl) ⟨Nat.zero_le _, Nat.zero_le _⟩ dX8_fill_77 (fun r1 D2 hw => ?_)
  obtain ⟨hb3, hw⟩ := hw
  exact K _ _ _ _ dX8_fill_80 (isB_n hb3) hw
def X8_fill_j38 (G : Shp) (post : Int32 → Dat → Prop) (v0 : Nat) (v1 : Int32) (v2 : Int32) (v3 : Int32) (v4 : Int32) (v5 : Int32) (D : Dat) : Prop := X8_refuse_wp G D v0 2 (fun r1 D2 => (isB r1 ∧ post r1 D2))
set_option maxRecDepth 100000 in
set_option maxHeartbeats 4000000 in
theorem X8_fill_j38_ok {κ : Ctx} {G : Shp} {post : Int32 → Dat → Prop} {v0 : Nat} {v1 : Int32} {v2 : Int32} {v3 : Int32} {v4 : Int32} {v5 : Int32} (C : Cx κ cX8_fill RX8 (rmN 3) 10) (K : RtI κ cX8_fill .boolean G post) (ho_v0 : isO G v0 8) (D : Dat) (hw : X8_fill_j38 G post v0 v1 v2 v3 v4 v5 D) : J κ 0 0 G D 38 [(0, .ref v0)] [] := by
  unfold X8_fill_j38 at hw
  refine j_aload_n C dX8_fill_38 rfl 0 rfl ?_
  refine j_iconst (v := 2) C dX8_fill_39 (by decide) ?_
  refine j_cVI (As := [.int 2]) (st := []) C (X8_refuse_ok κ.2.1 G D v0 2 _ hw) ho_v0 rfl k_306 mv_X8_refuse ⟨by decide, by decide⟩ ⟨rfl, rfl⟩ rfl rfl (Nat.le_of_ble_eq_true rfl) ⟨Nat.zero_le _, Nat.zero_le _⟩ dX8_fill_40 (fun r1 D2 hw => ?_)
  obtain ⟨hb3, hw⟩ := hw
  exact K _ _ _ _ dX8_fill_43 (isB_n hb3) hw
def X8_fill_j19 (G : Shp) (post : Int32 → Dat → Prop) (v0 : Nat) (v1 : Int32) (v2 : Int32) (v3 : Int32) (v4 : Int32) (v5 : Int32) (D : Dat) : Prop := X8_refuse_wp G D v0 1 (fun r1 D2 => (isB r1 ∧ post r1 D2))
set_option maxRecDepth 100000 in
set_option maxHeartbeats 4000000 in
theorem X8_fill_j19_ok {κ : Ctx} {G : Shp} {post : Int32 → Dat → Prop} {v0 : Nat} {v1 : Int32} {v2 : Int32} {v3 : Int32} {v4 : Int32} {v5 : Int32} (C : Cx κ cX8_fill RX8 (rmN 3) 10) (K : RtI κ cX8_fill .boolean G post) (ho_v0 : isO G v0 8) (D : Dat) (hw : X8_fill_j19 G post v0 v1 v2 v3 v4 v5 D) : J κ 0 0 G D 19 [(0, .ref v0)] [] := by
  unfold X8_fill_j19 at hw
  refine j_aload_n C dX8_fill_19 rfl 0 rfl ?_
  refine j_iconst (v := 1) C dX8_fill_20 (by decide) ?_
  refine j_cVI (As := [.int 1]) (st := []) C (X8_refuse_ok κ.2.1 G D v0 1 _ hw) ho_v0 rfl k_306 mv_X8_refuse ⟨by decide, by decide⟩ ⟨rfl, rfl⟩ rfl rfl (Nat.le_of_ble_eq_true rfl) ⟨Nat.zero_le _, Nat.zero_le _⟩ dX8_fill_21 (fun r1 D2 hw => ?_)
  obtain ⟨hb3, hw⟩ := hw
  exact K _ _ _ _ dX8_fill_24 (isB_n hb3) hw
def X8_fill_wp (G : Shp) (D : Dat) (v0 : Nat) (v1 : Int32) (v2 : Int32) (v3 : Int32) (v4 : Int32) (v5 : Int32) (post : Int32 → Dat → Prop) : Prop := isO G v0 8 ∧ X8_rowOf_wp G D v0 v1 (fun r1 D2 => (r1 = none → X8_fill_j19 G post v0 v1 v2 v3 v4 v5 D2) ∧ (∀ y3, r1 = some y3 → X8_isTick_wp G D2 v2 (fun r4 D5 => ((¬ r4 = 0 → ((v3 < 1 → X8_fill_j38 G post v0 v1 v2 v3 v4 v5 D5) ∧ (¬ (v3 < 1) → ((v3 ≤ (40 - v2) → X8_isNumber_wp G D5 v4.toInt64 (fun r6 D7 => ((r6 = 0 → X8_fill_j75 G post v0 v1 v2 v3 v4 v5 D7) ∧ (¬ (r6 = 0) → X8_isNumber_wp G D7 (v4.toInt64 + (((v3 - 1).toInt64) * v5.toInt64)) (fun r8 D9 => ((¬ r8 = 0 → ∃ n, X8_fill_l84 G post v0 v1 v2 v3 v4 v5 n y3 0 D9) ∧ (r8 = 0 → X8_fill_j75 G post v0 v1 v2 v3 v4 v5 D9))))))) ∧ (¬ (v3 ≤ (40 - v2)) → X8_fill_j38 G post v0 v1 v2 v3 v4 v5 D5))))) ∧ (r4 = 0 → X8_fill_j19 G post v0 v1 v2 v3 v4 v5 D5)))))
set_option maxRecDepth 100000 in
set_option maxHeartbeats 4000000 in
theorem X8_fill_ok (l : Launch) (G : Shp) (D : Dat) (v0 : Nat) (v1 : Int32) (v2 : Int32) (v3 : Int32) (v4 : Int32) (v5 : Int32) (post : Int32 → Dat → Prop) (hw : X8_fill_wp G D v0 v1 v2 v3 v4 v5 post) : CtI l yX8_fill cX8_fill 10 .boolean (rmN 3) [.ref v0, .int v1, .int v2, .int v3, .int v4, .int v5] G D post := by
  obtain ⟨ho_v0, hw⟩ := hw
  refine ctI_of (by decide) rfl (Nat.le_of_ble_eq_true rfl) ?_
  intro κ hκ C K
  subst hκ
  have C : Cx κ cX8_fill RX8 (rmN 3) 10 := C
  refine j_aload_n C dX8_fill_0 rfl 0 rfl ?_
  refine j_iload_n C dX8_fill_1 rfl 1 rfl ?_
  refine j_cVQ (As := [.int v1]) (st := []) C (X8_rowOf_ok κ.2.1 G D v0 v1 _ hw) ho_v0 rfl k_299 mv_X8_rowOf ⟨by decide, by decide⟩ ⟨rfl, rfl⟩ rfl rfl (Nat.le_of_ble_eq_true rfl) ⟨Nat.zero_le _, Nat.zero_le _⟩ dX8_fill_2 (fun r1 D2 hw => ?_)
  refine j_astoreO C dX8_fill_5 (by decide) rfl ?_
  refine j_aloadO C dX8_fill_7 0 rfl ?_
  refine j_ifnull (tgt := 19) C dX8_fill_9 (by decide) (fun hc => ?_) (fun y3 hc => ?_)
  · have hw := hw.1 hc
    exact J.sub (X8_fill_j19_ok C K ho_v0 D2 hw) [1] rfl
  · replace hw := hw.2 y3 hc
    subst hc
    show J κ 0 0 G D2 12 [(6, .ref y3), (0, .ref v0), (1, .int v1), (2, .int v2), (3, .int v3), (4, .int v4), (5, .int v5)] []
    refine j_iload_n C dX8_fill_12 rfl 3 rfl ?_
    refine j_cSI (As := [.int v2]) (st := []) C (X8_isTick_ok κ.2.1 G D2 v2 _ hw) k_303 ms_X8_isTick ⟨by decide, by decide⟩ ⟨rfl, rfl⟩ rfl rfl (Nat.le_of_ble_eq_true rfl) ⟨Nat.zero_le _, Nat.zero_le _⟩ dX8_fill_13 (fun r4 D5 hw => ?_)
    refine j_if_ne (tgt := 25) C dX8_fill_16 (by decide) (fun hc => ?_) (fun hc => ?_)
    · have hw := hw.1 hc
      refine j_iload_n C dX8_fill_25 rfl 4 rfl ?_
      refine j_iconst (v := 1) C dX8_fill_26 (by decide) ?_
      refine j_icmp_lt (tgt := 38) C dX8_fill_27 (by decide) (fun hc => ?_) (fun hc => ?_)
      · have hw := hw.1 hc
        exact J.sub (X8_fill_j38_ok C K ho_v0 D5 hw) [1] rfl
      · have hw := hw.2 hc
        refine j_iload_n C dX8_fill_30 rfl 4 rfl ?_
        refine j_bipush (v := 40) C dX8_fill_31 (by decide) ?_
        refine j_iload_n C dX8_fill_33 rfl 3 rfl ?_
        refine j_isub C dX8_fill_34 ?_
        refine j_icmp_le (tgt := 44) C dX8_fill_35 (by decide) (fun hc => ?_) (fun hc => ?_)
        · have hw := hw.1 hc
          refine j_iload C dX8_fill_44 5 rfl ?_
          refine j_i2l C dX8_fill_46 ?_
          refine j_iload_n C dX8_fill_47 rfl 4 rfl ?_
          refine j_iconst (v := 1) C dX8_fill_48 (by decide) ?_
          refine j_isub C dX8_fill_49 ?_
          refine j_i2l C dX8_fill_50 ?_
          refine j_iload C dX8_fill_51 6 rfl ?_
          refine j_i2l C dX8_fill_53 ?_
          refine j_lmul C dX8_fill_54 ?_
          refine j_ladd C dX8_fill_55 ?_
          refine j_lstore C dX8_fill_56 (by decide) rfl ?_
          refine j_iload C dX8_fill_58 6 rfl ?_
          refine j_i2l C dX8_fill_60 ?_
          refine j_cSI (As := [.long v4.toInt64]) (st := []) C (X8_isNumber_ok κ.2.1 G D5 v4.toInt64 _ hw) k_310 ms_X8_isNumber ⟨by decide, by decide⟩ ⟨rfl, rfl⟩ rfl rfl (Nat.le_of_ble_eq_true rfl) ⟨Nat.zero_le _, Nat.zero_le _⟩ dX8_fill_61 (fun r6 D7 hw => ?_)
          refine j_if_eq (tgt := 75) C dX8_fill_64 (by decide) (fun hc => ?_) (fun hc => ?_)
          · have hw := hw.1 hc
            exact J.sub (X8_fill_j75_ok C K ho_v0 D7 hw) [2] rfl
          · have hw := hw.2 hc
            refine j_lload C dX8_fill_67 0 rfl ?_
            refine j_cSI (As := [.long (v4.toInt64 + (((v3 - 1).toInt64) * v5.toInt64))]) (st := []) C (X8_isNumber_ok κ.2.1 G D7 (v4.toInt64 + (((v3 - 1).toInt64) * v5.toInt64)) _ hw) k_310 ms_X8_isNumber ⟨by decide, by decide⟩ ⟨rfl, rfl⟩ rfl rfl (Nat.le_of_ble_eq_true rfl) ⟨Nat.zero_le _, Nat.zero_le _⟩ dX8_fill_69 (fun r8 D9 hw => ?_)
            refine j_if_ne (tgt := 81) C dX8_fill_72 (by decide) (fun hc => ?_) (fun hc => ?_)
            · have hw := hw.1 hc
              refine j_iconst (v := 0) C dX8_fill_81 (by decide) ?_
              refine j_istore C dX8_fill_82 (by decide) rfl ?_
              obtain ⟨n, hw⟩ := hw
              exact J.sub (X8_fill_l84_ok C K ho_v0 n y3 0 D9 hw) [3, 5, 6, 7, 8, 2, 0] rfl
            · have hw := hw.2 hc
              exact J.sub (X8_fill_j75_ok C K ho_v0 D9 hw) [2] rfl
        · have hw := hw.2 hc
          exact J.sub (X8_fill_j38_ok C K ho_v0 D5 hw) [1] rfl
    · have hw := hw.2 hc
      exact J.sub (X8_fill_j19_ok C K ho_v0 D5 hw) [1] rfl
/-! X8_gap -/
def X8_gap_j46 (G : Shp) (post : Int32 → Dat → Prop) (v0 : Nat) (v1 : Int32) (v2 : Int32) (s0 : Int32) (D : Dat) : Prop := (isB s0 ∧ post s0 D)
set_option maxRecDepth 100000 in
set_option maxHeartbeats 4000000 in
theorem X8_gap_j46_ok {κ : Ctx} {G : Shp} {post : Int32 → Dat → Prop} {v0 : Nat} {v1 : Int32} {v2 : Int32} (C : Cx κ cX8_gap RX8 (rmN 3) 4) (K : RtI κ cX8_gap .boolean G post) (ho_v0 : isO G v0 8) (s0 : Int32) (D : Dat) (hw : X8_gap_j46 G post v0 v1 v2 s0 D) : J κ 0 0 G D 46 [] [.int s0] := by
  unfold X8_gap_j46 at hw
  obtain ⟨hb1, hw⟩ := hw
  exact K _ _ _ _ dX8_gap_46 (isB_n hb1) hw
def X8_gap_j17 (G : Shp) (post : Int32 → Dat → Prop) (v0 : Nat) (v1 : Int32) (v2 : Int32) (D : Dat) : Prop := X8_refuse_wp G D v0 1 (fun r1 D2 => (isB r1 ∧ post r1 D2))
set_option maxRecDepth 100000 in
set_option maxHeartbeats 4000000 in
theorem X8_gap_j17_ok {κ : Ctx} {G : Shp} {post : Int32 → Dat → Prop} {v0 : Nat} {v1 : Int32} {v2 : Int32} (C : Cx κ cX8_gap RX8 (rmN 3) 4) (K : RtI κ cX8_gap .boolean G post) (ho_v0 : isO G v0 8) (D : Dat) (hw : X8_gap_j17 G post v0 v1 v2 D) : J κ 0 0 G D 17 [(0, .ref v0)] [] := by
  unfold X8_gap_j17 at hw
  refine j_aload_n C dX8_gap_17 rfl 0 rfl ?_
  refine j_iconst (v := 1) C dX8_gap_18 (by decide) ?_
  refine j_cVI (As := [.int 1]) (st := []) C (X8_refuse_ok κ.2.1 G D v0 1 _ hw) ho_v0 rfl k_306 mv_X8_refuse ⟨by decide, by decide⟩ ⟨rfl, rfl⟩ rfl rfl (Nat.le_of_ble_eq_true rfl) ⟨Nat.zero_le _, Nat.zero_le _⟩ dX8_gap_19 (fun r1 D2 hw => ?_)
  obtain ⟨hb3, hw⟩ := hw
  exact K _ _ _ _ dX8_gap_22 (isB_n hb3) hw
def X8_gap_wp (G : Shp) (D : Dat) (v0 : Nat) (v1 : Int32) (v2 : Int32) (post : Int32 → Dat → Prop) : Prop := isO G v0 8 ∧ X8_rowOf_wp G D v0 v1 (fun r1 D2 => (r1 = none → X8_gap_j17 G post v0 v1 v2 D2) ∧ (∀ y3, r1 = some y3 → X8_isTick_wp G D2 v2 (fun r4 D5 => ((¬ r4 = 0 → (isO G y3 3 ∧ ∃ y7, G.2.2.2 y3 1 = some y7 ∧ isO G y7 7 ∧ X7_drop_wp G D5 y7 v2 (fun r10 D11 => ((r10 = 0 → X8_refuse_wp G D11 v0 5 (fun r12 D13 => X8_gap_j46 G post v0 v1 v2 r12 D13)) ∧ (¬ (r10 = 0) → X8_done_wp G D11 v0 (fun r14 D15 => X8_gap_j46 G post v0 v1 v2 r14 D15)))))) ∧ (r4 = 0 → X8_gap_j17 G post v0 v1 v2 D5)))))
set_option maxRecDepth 100000 in
set_option maxHeartbeats 4000000 in
theorem X8_gap_ok (l : Launch) (G : Shp) (D : Dat) (v0 : Nat) (v1 : Int32) (v2 : Int32) (post : Int32 → Dat → Prop) (hw : X8_gap_wp G D v0 v1 v2 post) : CtI l yX8_gap cX8_gap 4 .boolean (rmN 3) [.ref v0, .int v1, .int v2] G D post := by
  obtain ⟨ho_v0, hw⟩ := hw
  refine ctI_of (by decide) rfl (Nat.le_of_ble_eq_true rfl) ?_
  intro κ hκ C K
  subst hκ
  have C : Cx κ cX8_gap RX8 (rmN 3) 4 := C
  refine j_aload_n C dX8_gap_0 rfl 0 rfl ?_
  refine j_iload_n C dX8_gap_1 rfl 1 rfl ?_
  refine j_cVQ (As := [.int v1]) (st := []) C (X8_rowOf_ok κ.2.1 G D v0 v1 _ hw) ho_v0 rfl k_299 mv_X8_rowOf ⟨by decide, by decide⟩ ⟨rfl, rfl⟩ rfl rfl (Nat.le_of_ble_eq_true rfl) ⟨Nat.zero_le _, Nat.zero_le _⟩ dX8_gap_2 (fun r1 D2 hw => ?_)
  refine j_astore_nO C dX8_gap_5 rfl (by decide) rfl ?_
  refine j_aload_nO C dX8_gap_6 rfl 0 rfl ?_
  refine j_ifnull (tgt := 17) C dX8_gap_7 (by decide) (fun hc => ?_) (fun y3 hc => ?_)
  · have hw := hw.1 hc
    exact J.sub (X8_gap_j17_ok C K ho_v0 D2 hw) [1] rfl
  · replace hw := hw.2 y3 hc
    subst hc
    show J κ 0 0 G D2 10 [(3, .ref y3), (0, .ref v0), (1, .int v1), (2, .int v2)] []
    refine j_iload_n C dX8_gap_10 rfl 3 rfl ?_
    refine j_cSI (As := [.int v2]) (st := []) C (X8_isTick_ok κ.2.1 G D2 v2 _ hw) k_303 ms_X8_isTick ⟨by decide, by decide⟩ ⟨rfl, rfl⟩ rfl rfl (Nat.le_of_ble_eq_true rfl) ⟨Nat.zero_le _, Nat.zero_le _⟩ dX8_gap_11 (fun r4 D5 hw => ?_)
    refine j_if_ne (tgt := 23) C dX8_gap_14 (by decide) (fun hc => ?_) (fun hc => ?_)
    · have hw := hw.1 hc
      refine j_aload_n C dX8_gap_23 rfl 0 rfl ?_
      obtain ⟨ho6, hw⟩ := hw
      obtain ⟨y7, hr8, ho9, hw⟩ := hw
      refine gf_3_1 C ho6 hr8 k_87 dX8_gap_24 ?_
      refine j_iload_n C dX8_gap_27 rfl 3 rfl ?_
      refine j_cVI (As := [.int v2]) (st := []) C (X7_drop_ok κ.2.1 G D5 y7 v2 _ hw) ho9 rfl k_337 mv_X7_drop ⟨by decide, by decide⟩ ⟨rfl, rfl⟩ rfl rfl (Nat.le_of_ble_eq_true rfl) ⟨Nat.zero_le _, Nat.zero_le _⟩ dX8_gap_28 (fun r10 D11 hw => ?_)
      refine j_if_eq (tgt := 41) C dX8_gap_31 (by decide) (fun hc => ?_) (fun hc => ?_)
      · have hw := hw.1 hc
        refine j_aload_n C dX8_gap_41 rfl 1 rfl ?_
        refine j_iconst (v := 5) C dX8_gap_42 (by decide) ?_
        refine j_cVI (As := [.int 5]) (st := []) C (X8_refuse_ok κ.2.1 G D11 v0 5 _ hw) ho_v0 rfl k_306 mv_X8_refuse ⟨by decide, by decide⟩ ⟨rfl, rfl⟩ rfl rfl (Nat.le_of_ble_eq_true rfl) ⟨Nat.zero_le _, Nat.zero_le _⟩ dX8_gap_43 (fun r12 D13 hw => ?_)
        exact J.sub (X8_gap_j46_ok C K ho_v0 r12 D13 hw) [] rfl
      · have hw := hw.2 hc
        refine j_aload_n C dX8_gap_34 rfl 1 rfl ?_
        refine j_cVI (As := []) (st := []) C (X8_done_ok κ.2.1 G D11 v0 _ hw) ho_v0 rfl k_325 mv_X8_done ⟨by decide, by decide⟩ ⟨rfl, rfl⟩ rfl rfl (Nat.le_of_ble_eq_true rfl) ⟨Nat.zero_le _, Nat.zero_le _⟩ dX8_gap_35 (fun r14 D15 hw => ?_)
        refine j_goto (tgt := 46) C dX8_gap_38 (by decide) ?_
        exact J.sub (X8_gap_j46_ok C K ho_v0 r14 D15 hw) [] rfl
    · have hw := hw.2 hc
      exact J.sub (X8_gap_j17_ok C K ho_v0 D5 hw) [1] rfl
/-! X8_put -/
def X8_put_j19 (G : Shp) (post : Int32 → Dat → Prop) (v0 : Nat) (v1 : Int32) (v2 : Int32) (v3 : Int32) (D : Dat) : Prop := X8_refuse_wp G D v0 1 (fun r1 D2 => (isB r1 ∧ post r1 D2))
set_option maxRecDepth 100000 in
set_option maxHeartbeats 4000000 in
theorem X8_put_j19_ok {κ : Ctx} {G : Shp} {post : Int32 → Dat → Prop} {v0 : Nat} {v1 : Int32} {v2 : Int32} {v3 : Int32} (C : Cx κ cX8_put RX8 (rmN 3) 5) (K : RtI κ cX8_put .boolean G post) (ho_v0 : isO G v0 8) (D : Dat) (hw : X8_put_j19 G post v0 v1 v2 v3 D) : J κ 0 0 G D 19 [(0, .ref v0)] [] := by
  unfold X8_put_j19 at hw
  refine j_aload_n C dX8_put_19 rfl 0 rfl ?_
  refine j_iconst (v := 1) C dX8_put_20 (by decide) ?_
  refine j_cVI (As := [.int 1]) (st := []) C (X8_refuse_ok κ.2.1 G D v0 1 _ hw) ho_v0 rfl k_306 mv_X8_refuse ⟨by decide, by decide⟩ ⟨rfl, rfl⟩ rfl rfl (Nat.le_of_ble_eq_true rfl) ⟨Nat.zero_le _, Nat.zero_le _⟩ dX8_put_21 (fun r1 D2 hw => ?_)
  obtain ⟨hb3, hw⟩ := hw
  exact K _ _ _ _ dX8_put_24 (isB_n hb3) hw
def X8_put_wp (G : Shp) (D : Dat) (v0 : Nat) (v1 : Int32) (v2 : Int32) (v3 : Int32) (post : Int32 → Dat → Prop) : Prop := isO G v0 8 ∧ X8_rowOf_wp G D v0 v1 (fun r1 D2 => (r1 = none → X8_put_j19 G post v0 v1 v2 v3 D2) ∧ (∀ y3, r1 = some y3 → X8_isTick_wp G D2 v2 (fun r4 D5 => ((¬ r4 = 0 → X8_isNumber_wp G D5 v3.toInt64 (fun r6 D7 => ((¬ r6 = 0 → (isO G y3 3 ∧ X3_setNumber_wp G D7 y3 v2 v3 (fun D10 => X8_done_wp G D10 v0 (fun r11 D12 => (isB r11 ∧ post r11 D12))))) ∧ (r6 = 0 → X8_refuse_wp G D7 v0 2 (fun r14 D15 => (isB r14 ∧ post r14 D15)))))) ∧ (r4 = 0 → X8_put_j19 G post v0 v1 v2 v3 D5)))))
set_option maxRecDepth 100000 in
set_option maxHeartbeats 4000000 in
theorem X8_put_ok (l : Launch) (G : Shp) (D : Dat) (v0 : Nat) (v1 : Int32) (v2 : Int32) (v3 : Int32) (post : Int32 → Dat → Prop) (hw : X8_put_wp G D v0 v1 v2 v3 post) : CtI l yX8_put cX8_put 5 .boolean (rmN 3) [.ref v0, .int v1, .int v2, .int v3] G D post := by
  obtain ⟨ho_v0, hw⟩ := hw
  refine ctI_of (by decide) rfl (Nat.le_of_ble_eq_true rfl) ?_
  intro κ hκ C K
  subst hκ
  have C : Cx κ cX8_put RX8 (rmN 3) 5 := C
  refine j_aload_n C dX8_put_0 rfl 0 rfl ?_
  refine j_iload_n C dX8_put_1 rfl 1 rfl ?_
  refine j_cVQ (As := [.int v1]) (st := []) C (X8_rowOf_ok κ.2.1 G D v0 v1 _ hw) ho_v0 rfl k_299 mv_X8_rowOf ⟨by decide, by decide⟩ ⟨rfl, rfl⟩ rfl rfl (Nat.le_of_ble_eq_true rfl) ⟨Nat.zero_le _, Nat.zero_le _⟩ dX8_put_2 (fun r1 D2 hw => ?_)
  refine j_astoreO C dX8_put_5 (by decide) rfl ?_
  refine j_aloadO C dX8_put_7 0 rfl ?_
  refine j_ifnull (tgt := 19) C dX8_put_9 (by decide) (fun hc => ?_) (fun y3 hc => ?_)
  · have hw := hw.1 hc
    exact J.sub (X8_put_j19_ok C K ho_v0 D2 hw) [1] rfl
  · replace hw := hw.2 y3 hc
    subst hc
    show J κ 0 0 G D2 12 [(4, .ref y3), (0, .ref v0), (1, .int v1), (2, .int v2), (3, .int v3)] []
    refine j_iload_n C dX8_put_12 rfl 3 rfl ?_
    refine j_cSI (As := [.int v2]) (st := []) C (X8_isTick_ok κ.2.1 G D2 v2 _ hw) k_303 ms_X8_isTick ⟨by decide, by decide⟩ ⟨rfl, rfl⟩ rfl rfl (Nat.le_of_ble_eq_true rfl) ⟨Nat.zero_le _, Nat.zero_le _⟩ dX8_put_13 (fun r4 D5 hw => ?_)
    refine j_if_ne (tgt := 25) C dX8_put_16 (by decide) (fun hc => ?_) (fun hc => ?_)
    · have hw := hw.1 hc
      refine j_iload_n C dX8_put_25 rfl 4 rfl ?_
      refine j_i2l C dX8_put_26 ?_
      refine j_cSI (As := [.long v3.toInt64]) (st := []) C (X8_isNumber_ok κ.2.1 G D5 v3.toInt64 _ hw) k_310 ms_X8_isNumber ⟨by decide, by decide⟩ ⟨rfl, rfl⟩ rfl rfl (Nat.le_of_ble_eq_true rfl) ⟨Nat.zero_le _, Nat.zero_le _⟩ dX8_put_27 (fun r6 D7 hw => ?_)
      refine j_if_ne (tgt := 39) C dX8_put_30 (by decide) (fun hc => ?_) (fun hc => ?_)
      · have hw := hw.1 hc
        refine j_aload C dX8_put_39 0 rfl ?_
        refine j_iload_n C dX8_put_41 rfl 3 rfl ?_
        refine j_iload_n C dX8_put_42 rfl 4 rfl ?_
        obtain ⟨ho8, hw⟩ := hw
        refine j_cVV (As := [.int v2, .int v3]) (st := []) C (X3_setNumber_ok κ.2.1 G D7 y3 v2 v3 _ hw) ho8 rfl k_315 mv_X3_setNumber ⟨by decide, by decide⟩ ⟨rfl, rfl⟩ rfl rfl (Nat.le_of_ble_eq_true rfl) ⟨Nat.zero_le _, Nat.zero_le _⟩ dX8_put_43 (fun D10 hw => ?_)
        refine j_aload_n C dX8_put_46 rfl 1 rfl ?_
        refine j_cVI (As := []) (st := []) C (X8_done_ok κ.2.1 G D10 v0 _ hw) ho_v0 rfl k_325 mv_X8_done ⟨by decide, by decide⟩ ⟨rfl, rfl⟩ rfl rfl (Nat.le_of_ble_eq_true rfl) ⟨Nat.zero_le _, Nat.zero_le _⟩ dX8_put_47 (fun r11 D12 hw => ?_)
        obtain ⟨hb13, hw⟩ := hw
        exact K _ _ _ _ dX8_put_50 (isB_n hb13) hw
      · have hw := hw.2 hc
        refine j_aload_n C dX8_put_33 rfl 1 rfl ?_
        refine j_iconst (v := 2) C dX8_put_34 (by decide) ?_
        refine j_cVI (As := [.int 2]) (st := []) C (X8_refuse_ok κ.2.1 G D7 v0 2 _ hw) ho_v0 rfl k_306 mv_X8_refuse ⟨by decide, by decide⟩ ⟨rfl, rfl⟩ rfl rfl (Nat.le_of_ble_eq_true rfl) ⟨Nat.zero_le _, Nat.zero_le _⟩ dX8_put_35 (fun r14 D15 hw => ?_)
        obtain ⟨hb16, hw⟩ := hw
        exact K _ _ _ _ dX8_put_38 (isB_n hb16) hw
    · have hw := hw.2 hc
      exact J.sub (X8_put_j19_ok C K ho_v0 D5 hw) [1] rfl
/-! X8_strange -/
def X8_strange_j69 (G : Shp) (post : Int32 → Dat → Prop) (v0 : Nat) (v1 : Int32) (v2 : Int32) (v3 : Int32) (s0 : Int32) (D : Dat) : Prop := (isB s0 ∧ post s0 D)
set_option maxRecDepth 100000 in
set_option maxHeartbeats 4000000 in
theorem X8_strange_j69_ok {κ : Ctx} {G : Shp} {post : Int32 → Dat → Prop} {v0 : Nat} {v1 : Int32} {v2 : Int32} {v3 : Int32} (C : Cx κ cX8_strange RX8 (rmN 3) 6) (K : RtI κ cX8_strange .boolean G post) (ho_v0 : isO G v0 8) (s0 : Int32) (D : Dat) (hw : X8_strange_j69 G post v0 v1 v2 v3 s0 D) : J κ 0 0 G D 69 [] [.int s0] := by
  unfold X8_strange_j69 at hw
  obtain ⟨hb1, hw⟩ := hw
  exact K _ _ _ _ dX8_strange_69 (isB_n hb1) hw
def X8_strange_j50 (G : Shp) (post : Int32 → Dat → Prop) (v0 : Nat) (v1 : Int32) (v2 : Int32) (v3 : Int32) (s0 : Int32) (D : Dat) : Prop := ((s0 = 0 → X8_refuse_wp G D v0 4 (fun r1 D2 => X8_strange_j69 G post v0 v1 v2 v3 r1 D2)) ∧ (¬ (s0 = 0) → X8_done_wp G D v0 (fun r3 D4 => X8_strange_j69 G post v0 v1 v2 v3 r3 D4)))
set_option maxRecDepth 100000 in
set_option maxHeartbeats 4000000 in
theorem X8_strange_j50_ok {κ : Ctx} {G : Shp} {post : Int32 → Dat → Prop} {v0 : Nat} {v1 : Int32} {v2 : Int32} {v3 : Int32} (C : Cx κ cX8_strange RX8 (rmN 3) 6) (K : RtI κ cX8_strange .boolean G post) (ho_v0 : isO G v0 8) (s0 : Int32) (D : Dat) (hw : X8_strange_j50 G post v0 v1 v2 v3 s0 D) : J κ 0 0 G D 50 [(0, .ref v0)] [.int s0] := by
  unfold X8_strange_j50 at hw
  refine j_istore C dX8_strange_50 (by decide) rfl ?_
  refine j_iload C dX8_strange_52 0 rfl ?_
  refine j_if_eq (tgt := 64) C dX8_strange_54 (by decide) (fun hc => ?_) (fun hc => ?_)
  · have hw := hw.1 hc
    refine j_aload_n C dX8_strange_64 rfl 1 rfl ?_
    refine j_iconst (v := 4) C dX8_strange_65 (by decide) ?_
    refine j_cVI (As := [.int 4]) (st := []) C (X8_refuse_ok κ.2.1 G D v0 4 _ hw) ho_v0 rfl k_306 mv_X8_refuse ⟨by decide, by decide⟩ ⟨rfl, rfl⟩ rfl rfl (Nat.le_of_ble_eq_true rfl) ⟨Nat.zero_le _, Nat.zero_le _⟩ dX8_strange_66 (fun r1 D2 hw => ?_)
    exact J.sub (X8_strange_j69_ok C K ho_v0 r1 D2 hw) [] rfl
  · have hw := hw.2 hc
    refine j_aload_n C dX8_strange_57 rfl 1 rfl ?_
    refine j_cVI (As := []) (st := []) C (X8_done_ok κ.2.1 G D v0 _ hw) ho_v0 rfl k_325 mv_X8_done ⟨by decide, by decide⟩ ⟨rfl, rfl⟩ rfl rfl (Nat.le_of_ble_eq_true rfl) ⟨Nat.zero_le _, Nat.zero_le _⟩ dX8_strange_58 (fun r3 D4 hw => ?_)
    refine j_goto (tgt := 69) C dX8_strange_61 (by decide) ?_
    exact J.sub (X8_strange_j69_ok C K ho_v0 r3 D4 hw) [] rfl
def X8_strange_j19 (G : Shp) (post : Int32 → Dat → Prop) (v0 : Nat) (v1 : Int32) (v2 : Int32) (v3 : Int32) (D : Dat) : Prop := X8_refuse_wp G D v0 1 (fun r1 D2 => (isB r1 ∧ post r1 D2))
set_option maxRecDepth 100000 in
set_option maxHeartbeats 4000000 in
theorem X8_strange_j19_ok {κ : Ctx} {G : Shp} {post : Int32 → Dat → Prop} {v0 : Nat} {v1 : Int32} {v2 : Int32} {v3 : Int32} (C : Cx κ cX8_strange RX8 (rmN 3) 6) (K : RtI κ cX8_strange .boolean G post) (ho_v0 : isO G v0 8) (D : Dat) (hw : X8_strange_j19 G post v0 v1 v2 v3 D) : J κ 0 0 G D 19 [(0, .ref v0)] [] := by
  unfold X8_strange_j19 at hw
  refine j_aload_n C dX8_strange_19 rfl 0 rfl ?_
  refine j_iconst (v := 1) C dX8_strange_20 (by decide) ?_
  refine j_cVI (As := [.int 1]) (st := []) C (X8_refuse_ok κ.2.1 G D v0 1 _ hw) ho_v0 rfl k_306 mv_X8_refuse ⟨by decide, by decide⟩ ⟨rfl, rfl⟩ rfl rfl (Nat.le_of_ble_eq_true rfl) ⟨Nat.zero_le _, Nat.zero_le _⟩ dX8_strange_21 (fun r1 D2 hw => ?_)
  obtain ⟨hb3, hw⟩ := hw
  exact K _ _ _ _ dX8_strange_24 (isB_n hb3) hw
def X8_strange_wp (G : Shp) (D : Dat) (v0 : Nat) (v1 : Int32) (v2 : Int32) (v3 : Int32) (post : Int32 → Dat → Prop) : Prop := isO G v0 8 ∧ X8_rowOf_wp G D v0 v1 (fun r1 D2 => (r1 = none → X8_strange_j19 G post v0 v1 v2 v3 D2) ∧ (∀ y3, r1 = some y3 → X8_isTick_wp G D2 v2 (fun r4 D5 => ((¬ r4 = 0 → ((v3 = 0 → (isO G y3 3 ∧ ∃ y7, G.2.2.2 y3 2 = some y7 ∧ isO G y7 7 ∧ X7_drop_wp G D5 y7 v2 (fun r10 D11 => X8_strange_j50 G post v0 v1 v2 v3 r10 D11))) ∧ (¬ (v3 = 0) → (isO G y3 3 ∧ ∃ y13, G.2.2.2 y3 2 = some y13 ∧ isO G y13 7 ∧ X7_add_wp G D5 y13 v2 (fun r16 D17 => X8_strange_j50 G post v0 v1 v2 v3 r16 D17))))) ∧ (r4 = 0 → X8_strange_j19 G post v0 v1 v2 v3 D5)))))
set_option maxRecDepth 100000 in
set_option maxHeartbeats 4000000 in
theorem X8_strange_ok (l : Launch) (G : Shp) (D : Dat) (v0 : Nat) (v1 : Int32) (v2 : Int32) (v3 : Int32) (post : Int32 → Dat → Prop) (hw : X8_strange_wp G D v0 v1 v2 v3 post) : CtI l yX8_strange cX8_strange 6 .boolean (rmN 3) [.ref v0, .int v1, .int v2, .int v3] G D post := by
  obtain ⟨ho_v0, hw⟩ := hw
  refine ctI_of (by decide) rfl (Nat.le_of_ble_eq_true rfl) ?_
  intro κ hκ C K
  subst hκ
  have C : Cx κ cX8_strange RX8 (rmN 3) 6 := C
  refine j_aload_n C dX8_strange_0 rfl 0 rfl ?_
  refine j_iload_n C dX8_strange_1 rfl 1 rfl ?_
  refine j_cVQ (As := [.int v1]) (st := []) C (X8_rowOf_ok κ.2.1 G D v0 v1 _ hw) ho_v0 rfl k_299 mv_X8_rowOf ⟨by decide, by decide⟩ ⟨rfl, rfl⟩ rfl rfl (Nat.le_of_ble_eq_true rfl) ⟨Nat.zero_le _, Nat.zero_le _⟩ dX8_strange_2 (fun r1 D2 hw => ?_)
  refine j_astoreO C dX8_strange_5 (by decide) rfl ?_
  refine j_aloadO C dX8_strange_7 0 rfl ?_
  refine j_ifnull (tgt := 19) C dX8_strange_9 (by decide) (fun hc => ?_) (fun y3 hc => ?_)
  · have hw := hw.1 hc
    exact J.sub (X8_strange_j19_ok C K ho_v0 D2 hw) [1] rfl
  · replace hw := hw.2 y3 hc
    subst hc
    show J κ 0 0 G D2 12 [(4, .ref y3), (0, .ref v0), (1, .int v1), (2, .int v2), (3, .int v3)] []
    refine j_iload_n C dX8_strange_12 rfl 3 rfl ?_
    refine j_cSI (As := [.int v2]) (st := []) C (X8_isTick_ok κ.2.1 G D2 v2 _ hw) k_303 ms_X8_isTick ⟨by decide, by decide⟩ ⟨rfl, rfl⟩ rfl rfl (Nat.le_of_ble_eq_true rfl) ⟨Nat.zero_le _, Nat.zero_le _⟩ dX8_strange_13 (fun r4 D5 hw => ?_)
    refine j_if_ne (tgt := 25) C dX8_strange_16 (by decide) (fun hc => ?_) (fun hc => ?_)
    · have hw := hw.1 hc
      refine j_iload_n C dX8_strange_25 rfl 4 rfl ?_
      refine j_if_eq (tgt := 41) C dX8_strange_26 (by decide) (fun hc => ?_) (fun hc => ?_)
      · have hw := hw.1 hc
        refine j_aload C dX8_strange_41 0 rfl ?_
        obtain ⟨ho6, hw⟩ := hw
        obtain ⟨y7, hr8, ho9, hw⟩ := hw
        refine gf_3_2 C ho6 hr8 k_90 dX8_strange_43 ?_
        refine j_iload_n C dX8_strange_46 rfl 3 rfl ?_
        refine j_cVI (As := [.int v2]) (st := []) C (X7_drop_ok κ.2.1 G D5 y7 v2 _ hw) ho9 rfl k_337 mv_X7_drop ⟨by decide, by decide⟩ ⟨rfl, rfl⟩ rfl rfl (Nat.le_of_ble_eq_true rfl) ⟨Nat.zero_le _, Nat.zero_le _⟩ dX8_strange_47 (fun r10 D11 hw => ?_)
        exact J.sub (X8_strange_j50_ok C K ho_v0 r10 D11 hw) [1] rfl
      · have hw := hw.2 hc
        refine j_aload C dX8_strange_29 0 rfl ?_
        obtain ⟨ho12, hw⟩ := hw
        obtain ⟨y13, hr14, ho15, hw⟩ := hw
        refine gf_3_2 C ho12 hr14 k_90 dX8_strange_31 ?_
        refine j_iload_n C dX8_strange_34 rfl 3 rfl ?_
        refine j_cVI (As := [.int v2]) (st := []) C (X7_add_ok κ.2.1 G D5 y13 v2 _ hw) ho15 rfl k_379 mv_X7_add ⟨by decide, by decide⟩ ⟨rfl, rfl⟩ rfl rfl (Nat.le_of_ble_eq_true rfl) ⟨Nat.zero_le _, Nat.zero_le _⟩ dX8_strange_35 (fun r16 D17 hw => ?_)
        refine j_goto (tgt := 50) C dX8_strange_38 (by decide) ?_
        exact J.sub (X8_strange_j50_ok C K ho_v0 r16 D17 hw) [1] rfl
    · have hw := hw.2 hc
      exact J.sub (X8_strange_j19_ok C K ho_v0 D5 hw) [1] rfl
/-! X8_unstep -/
def X8_unstep_j46 (G : Shp) (post : Int32 → Dat → Prop) (v0 : Nat) (v1 : Int32) (v2 : Int32) (s0 : Int32) (D : Dat) : Prop := (isB s0 ∧ post s0 D)
set_option maxRecDepth 100000 in
set_option maxHeartbeats 4000000 in
theorem X8_unstep_j46_ok {κ : Ctx} {G : Shp} {post : Int32 → Dat → Prop} {v0 : Nat} {v1 : Int32} {v2 : Int32} (C : Cx κ cX8_unstep RX8 (rmN 3) 4) (K : RtI κ cX8_unstep .boolean G post) (ho_v0 : isO G v0 8) (s0 : Int32) (D : Dat) (hw : X8_unstep_j46 G post v0 v1 v2 s0 D) : J κ 0 0 G D 46 [] [.int s0] := by
  unfold X8_unstep_j46 at hw
  obtain ⟨hb1, hw⟩ := hw
  exact K _ _ _ _ dX8_unstep_46 (isB_n hb1) hw
def X8_unstep_j17 (G : Shp) (post : Int32 → Dat → Prop) (v0 : Nat) (v1 : Int32) (v2 : Int32) (D : Dat) : Prop := X8_refuse_wp G D v0 1 (fun r1 D2 => (isB r1 ∧ post r1 D2))
set_option maxRecDepth 100000 in
set_option maxHeartbeats 4000000 in
theorem X8_unstep_j17_ok {κ : Ctx} {G : Shp} {post : Int32 → Dat → Prop} {v0 : Nat} {v1 : Int32} {v2 : Int32} (C : Cx κ cX8_unstep RX8 (rmN 3) 4) (K : RtI κ cX8_unstep .boolean G post) (ho_v0 : isO G v0 8) (D : Dat) (hw : X8_unstep_j17 G post v0 v1 v2 D) : J κ 0 0 G D 17 [(0, .ref v0)] [] := by
  unfold X8_unstep_j17 at hw
  refine j_aload_n C dX8_unstep_17 rfl 0 rfl ?_
  refine j_iconst (v := 1) C dX8_unstep_18 (by decide) ?_
  refine j_cVI (As := [.int 1]) (st := []) C (X8_refuse_ok κ.2.1 G D v0 1 _ hw) ho_v0 rfl k_306 mv_X8_refuse ⟨by decide, by decide⟩ ⟨rfl, rfl⟩ rfl rfl (Nat.le_of_ble_eq_true rfl) ⟨Nat.zero_le _, Nat.zero_le _⟩ dX8_unstep_19 (fun r1 D2 hw => ?_)
  obtain ⟨hb3, hw⟩ := hw
  exact K _ _ _ _ dX8_unstep_22 (isB_n hb3) hw
def X8_unstep_wp (G : Shp) (D : Dat) (v0 : Nat) (v1 : Int32) (v2 : Int32) (post : Int32 → Dat → Prop) : Prop := isO G v0 8 ∧ X8_rowOf_wp G D v0 v1 (fun r1 D2 => (r1 = none → X8_unstep_j17 G post v0 v1 v2 D2) ∧ (∀ y3, r1 = some y3 → X8_isTick_wp G D2 v2 (fun r4 D5 => ((¬ r4 = 0 → (isO G y3 3 ∧ ∃ y7, G.2.2.2 y3 3 = some y7 ∧ isO G y7 7 ∧ X7_drop_wp G D5 y7 v2 (fun r10 D11 => ((r10 = 0 → X8_refuse_wp G D11 v0 5 (fun r12 D13 => X8_unstep_j46 G post v0 v1 v2 r12 D13)) ∧ (¬ (r10 = 0) → X8_done_wp G D11 v0 (fun r14 D15 => X8_unstep_j46 G post v0 v1 v2 r14 D15)))))) ∧ (r4 = 0 → X8_unstep_j17 G post v0 v1 v2 D5)))))
set_option maxRecDepth 100000 in
set_option maxHeartbeats 4000000 in
theorem X8_unstep_ok (l : Launch) (G : Shp) (D : Dat) (v0 : Nat) (v1 : Int32) (v2 : Int32) (post : Int32 → Dat → Prop) (hw : X8_unstep_wp G D v0 v1 v2 post) : CtI l yX8_unstep cX8_unstep 4 .boolean (rmN 3) [.ref v0, .int v1, .int v2] G D post := by
  obtain ⟨ho_v0, hw⟩ := hw
  refine ctI_of (by decide) rfl (Nat.le_of_ble_eq_true rfl) ?_
  intro κ hκ C K
  subst hκ
  have C : Cx κ cX8_unstep RX8 (rmN 3) 4 := C
  refine j_aload_n C dX8_unstep_0 rfl 0 rfl ?_
  refine j_iload_n C dX8_unstep_1 rfl 1 rfl ?_
  refine j_cVQ (As := [.int v1]) (st := []) C (X8_rowOf_ok κ.2.1 G D v0 v1 _ hw) ho_v0 rfl k_299 mv_X8_rowOf ⟨by decide, by decide⟩ ⟨rfl, rfl⟩ rfl rfl (Nat.le_of_ble_eq_true rfl) ⟨Nat.zero_le _, Nat.zero_le _⟩ dX8_unstep_2 (fun r1 D2 hw => ?_)
  refine j_astore_nO C dX8_unstep_5 rfl (by decide) rfl ?_
  refine j_aload_nO C dX8_unstep_6 rfl 0 rfl ?_
  refine j_ifnull (tgt := 17) C dX8_unstep_7 (by decide) (fun hc => ?_) (fun y3 hc => ?_)
  · have hw := hw.1 hc
    exact J.sub (X8_unstep_j17_ok C K ho_v0 D2 hw) [1] rfl
  · replace hw := hw.2 y3 hc
    subst hc
    show J κ 0 0 G D2 10 [(3, .ref y3), (0, .ref v0), (1, .int v1), (2, .int v2)] []
    refine j_iload_n C dX8_unstep_10 rfl 3 rfl ?_
    refine j_cSI (As := [.int v2]) (st := []) C (X8_isTick_ok κ.2.1 G D2 v2 _ hw) k_303 ms_X8_isTick ⟨by decide, by decide⟩ ⟨rfl, rfl⟩ rfl rfl (Nat.le_of_ble_eq_true rfl) ⟨Nat.zero_le _, Nat.zero_le _⟩ dX8_unstep_11 (fun r4 D5 hw => ?_)
    refine j_if_ne (tgt := 23) C dX8_unstep_14 (by decide) (fun hc => ?_) (fun hc => ?_)
    · have hw := hw.1 hc
      refine j_aload_n C dX8_unstep_23 rfl 0 rfl ?_
      obtain ⟨ho6, hw⟩ := hw
      obtain ⟨y7, hr8, ho9, hw⟩ := hw
      refine gf_3_3 C ho6 hr8 k_93 dX8_unstep_24 ?_
      refine j_iload_n C dX8_unstep_27 rfl 3 rfl ?_
      refine j_cVI (As := [.int v2]) (st := []) C (X7_drop_ok κ.2.1 G D5 y7 v2 _ hw) ho9 rfl k_337 mv_X7_drop ⟨by decide, by decide⟩ ⟨rfl, rfl⟩ rfl rfl (Nat.le_of_ble_eq_true rfl) ⟨Nat.zero_le _, Nat.zero_le _⟩ dX8_unstep_28 (fun r10 D11 hw => ?_)
      refine j_if_eq (tgt := 41) C dX8_unstep_31 (by decide) (fun hc => ?_) (fun hc => ?_)
      · have hw := hw.1 hc
        refine j_aload_n C dX8_unstep_41 rfl 1 rfl ?_
        refine j_iconst (v := 5) C dX8_unstep_42 (by decide) ?_
        refine j_cVI (As := [.int 5]) (st := []) C (X8_refuse_ok κ.2.1 G D11 v0 5 _ hw) ho_v0 rfl k_306 mv_X8_refuse ⟨by decide, by decide⟩ ⟨rfl, rfl⟩ rfl rfl (Nat.le_of_ble_eq_true rfl) ⟨Nat.zero_le _, Nat.zero_le _⟩ dX8_unstep_43 (fun r12 D13 hw => ?_)
        exact J.sub (X8_unstep_j46_ok C K ho_v0 r12 D13 hw) [] rfl
      · have hw := hw.2 hc
        refine j_aload_n C dX8_unstep_34 rfl 1 rfl ?_
        refine j_cVI (As := []) (st := []) C (X8_done_ok κ.2.1 G D11 v0 _ hw) ho_v0 rfl k_325 mv_X8_done ⟨by decide, by decide⟩ ⟨rfl, rfl⟩ rfl rfl (Nat.le_of_ble_eq_true rfl) ⟨Nat.zero_le _, Nat.zero_le _⟩ dX8_unstep_35 (fun r14 D15 hw => ?_)
        refine j_goto (tgt := 46) C dX8_unstep_38 (by decide) ?_
        exact J.sub (X8_unstep_j46_ok C K ho_v0 r14 D15 hw) [] rfl
    · have hw := hw.2 hc
      exact J.sub (X8_unstep_j17_ok C K ho_v0 D5 hw) [1] rfl
/-! X9_common -/
def X9_common_l157_b (G : Shp) (post : Int32 → Dat → Prop) (v0 : Nat) (v1 : Int32) (v2 : Int32) (g1 : Nat) (g2 : Nat) (rec : Int32 → Int32 → Int32 → Int32 → Dat → Prop) (v3 : Int32) (v5 : Int32) (v8 : Int32) (v9 : Int32) (D : Dat) : Prop := ((v8 < v9 → post v3 (dI D v0 2 ((v3 + v8) + 1))) ∧ (¬ (v8 < v9) → (vp_in (v5 + v9) (G.2.2.1 g1) ∧ vp_in (v3 + v9) (G.2.2.1 g1) ∧ rec v3 v5 v8 (v9 + 1) (dI D g1 (v3 + v9).toNatClampNeg (D.1 g1 (v5 + v9).toNatClampNeg)))))
def X9_common_l157 (G : Shp) (post : Int32 → Dat → Prop) (v0 : Nat) (v1 : Int32) (v2 : Int32) (g1 : Nat) (g2 : Nat) : Nat → Int32 → Int32 → Int32 → Int32 → Dat → Prop
  | 0 => fun _ _ _ _ _ => False
  | n + 1 => X9_common_l157_b G post v0 v1 v2 g1 g2 (X9_common_l157 G post v0 v1 v2 g1 g2 n)
set_option maxRecDepth 100000 in
set_option maxHeartbeats 4000000 in
theorem X9_common_l157_ok {κ : Ctx} {G : Shp} {post : Int32 → Dat → Prop} {v0 : Nat} {v1 : Int32} {v2 : Int32} {g1 : Nat} {g2 : Nat} (C : Cx κ cX9_common RX9 (rmN 3) 10) (K : RtI κ cX9_common .int G post) (ho_v0 : isO G v0 9) (hr_g1 : G.2.2.2 v0 1 = some g1) (ho_g1 : isO G g1 11) (hr_g2 : G.2.2.2 v0 3 = some g2) (ho_g2 : isO G g2 11) : ∀ (n : Nat) (v3 : Int32) (v5 : Int32) (v8 : Int32) (v9 : Int32) (D : Dat), X9_common_l157 G post v0 v1 v2 g1 g2 n v3 v5 v8 v9 D → J κ 0 0 G D 157 [(0, .ref v0), (3, .int v3), (5, .int v5), (8, .int v8), (9, .int v9)] [] := by
  intro n
  induction n with
  | zero => intro v3 v5 v8 v9 D hw; exact hw.elim
  | succ n ih =>
    intro v3 v5 v8 v9 D hw
    have hw : X9_common_l157_b G post v0 v1 v2 g1 g2 (X9_common_l157 G post v0 v1 v2 g1 g2 n) v3 v5 v8 v9 D := hw
    unfold X9_common_l157_b at hw
    refine j_iload C dX9_common_157 4 rfl ?_
    refine j_iload C dX9_common_159 3 rfl ?_
    refine j_icmp_gt (tgt := 189) C dX9_common_161 (by decide) (fun hc => ?_) (fun hc => ?_)
    · have hw := hw.1 hc
      refine j_aload_n C dX9_common_189 rfl 0 rfl ?_
      refine j_iload_n C dX9_common_190 rfl 1 rfl ?_
      refine j_iload C dX9_common_191 3 rfl ?_
      refine j_iadd C dX9_common_193 ?_
      refine j_iconst (v := 1) C dX9_common_194 (by decide) ?_
      refine j_iadd C dX9_common_195 ?_
      refine pf_9_2 C ho_v0 k_766 dX9_common_196 ?_
      refine j_iload_n C dX9_common_199 rfl 1 rfl ?_
      exact K _ _ _ _ dX9_common_200 rfl hw
    · have hw := hw.2 hc
      refine j_aload_n C dX9_common_164 rfl 0 rfl ?_
      refine gf_9_1 C ho_v0 hr_g1 k_765 dX9_common_165 ?_
      refine j_iload_n C dX9_common_168 rfl 1 rfl ?_
      refine j_iload C dX9_common_169 4 rfl ?_
      refine j_iadd C dX9_common_171 ?_
      refine j_aload_n C dX9_common_172 rfl 0 rfl ?_
      refine gf_9_1 C ho_v0 hr_g1 k_765 dX9_common_173 ?_
      refine j_iload C dX9_common_176 2 rfl ?_
      refine j_iload C dX9_common_178 4 rfl ?_
      refine j_iadd C dX9_common_180 ?_
      obtain ⟨hi1, hw⟩ := hw
      refine j_iald C ho_g1 hi1 dX9_common_181 ?_
      obtain ⟨hi2, hw⟩ := hw
      refine j_iast C ho_g1 hi2 dX9_common_182 ?_
      refine j_iinc (v := v9 + 1) C dX9_common_183 4 rfl rfl (by decide) rfl ?_
      refine j_goto (tgt := 157) C dX9_common_186 (by decide) ?_
      exact J.sub (ih v3 v5 v8 (v9 + 1) (dI D g1 (v3 + v9).toNatClampNeg (D.1 g1 (v5 + v9).toNatClampNeg)) hw) [1, 2, 3, 4, 0] rfl
def X9_common_l92_b (G : Shp) (post : Int32 → Dat → Prop) (v0 : Nat) (v1 : Int32) (v2 : Int32) (g1 : Nat) (g2 : Nat) (k60 : Int32 → Int32 → Int32 → Int32 → Dat → Prop) (rec : Int32 → Int32 → Int32 → Int32 → Int32 → Dat → Prop) (v3 : Int32) (v5 : Int32) (v6 : Int32) (v7 : Int32) (v8 : Int32) (D : Dat) : Prop := (((D.1 v0 6) ≤ v8 → k60 v3 v6 v7 v5 D) ∧ (¬ ((D.1 v0 6) ≤ v8) → (vp_in v8 (G.2.2.1 g2) ∧ vp_in ((v7 + 1) + v8) (G.2.2.1 g1) ∧ rec v3 v5 v6 v7 (v8 + 1) (dI D g1 ((v7 + 1) + v8).toNatClampNeg (D.1 g2 v8.toNatClampNeg)))))
def X9_common_l92 (G : Shp) (post : Int32 → Dat → Prop) (v0 : Nat) (v1 : Int32) (v2 : Int32) (g1 : Nat) (g2 : Nat) (k60 : Int32 → Int32 → Int32 → Int32 → Dat → Prop) : Nat → Int32 → Int32 → Int32 → Int32 → Int32 → Dat → Prop
  | 0 => fun _ _ _ _ _ _ => False
  | n + 1 => X9_common_l92_b G post v0 v1 v2 g1 g2 k60 (X9_common_l92 G post v0 v1 v2 g1 g2 k60 n)
set_option maxRecDepth 100000 in
set_option maxHeartbeats 4000000 in
theorem X9_common_l92_ok {κ : Ctx} {G : Shp} {post : Int32 → Dat → Prop} {v0 : Nat} {v1 : Int32} {v2 : Int32} {g1 : Nat} {g2 : Nat} (C : Cx κ cX9_common RX9 (rmN 3) 10) (K : RtI κ cX9_common .int G post) (ho_v0 : isO G v0 9) (hr_g1 : G.2.2.2 v0 1 = some g1) (ho_g1 : isO G g1 11) (hr_g2 : G.2.2.2 v0 3 = some g2) (ho_g2 : isO G g2 11) {k60 : Int32 → Int32 → Int32 → Int32 → Dat → Prop} (hk60 : ∀ (v3 : Int32) (v5 : Int32) (v6 : Int32) (v7 : Int32) (D : Dat), k60 v3 v5 v6 v7 D → J κ 0 0 G D 60 [(0, .ref v0), (3, .int v3), (5, .int v5), (6, .int v6), (7, .int v7)] []) : ∀ (n : Nat) (v3 : Int32) (v5 : Int32) (v6 : Int32) (v7 : Int32) (v8 : Int32) (D : Dat), X9_common_l92 G post v0 v1 v2 g1 g2 k60 n v3 v5 v6 v7 v8 D → J κ 0 0 G D 92 [(0, .ref v0), (3, .int v3), (5, .int v5), (6, .int v6), (7, .int v7), (8, .int v8)] [] := by
  intro n
  induction n with
  | zero => intro v3 v5 v6 v7 v8 D hw; exact hw.elim
  | succ n ih =>
    intro v3 v5 v6 v7 v8 D hw
    have hw : X9_common_l92_b G post v0 v1 v2 g1 g2 k60 (X9_common_l92 G post v0 v1 v2 g1 g2 k60 n) v3 v5 v6 v7 v8 D := hw
    unfold X9_common_l92_b at hw
    refine j_iload C dX9_common_92 5 rfl ?_
    refine j_aload_n C dX9_common_94 rfl 0 rfl ?_
    refine gf_9_6 C ho_v0 k_770 dX9_common_95 ?_
    refine j_icmp_ge (tgt := 126) C dX9_common_98 (by decide) (fun hc => ?_) (fun hc => ?_)
    · have hw := hw.1 hc
      refine j_iload C dX9_common_126 2 rfl ?_
      refine j_istore C dX9_common_128 (by decide) rfl ?_
      refine j_iload C dX9_common_130 4 rfl ?_
      refine j_istore C dX9_common_132 (by decide) rfl ?_
      refine j_iload C dX9_common_134 5 rfl ?_
      refine j_istore C dX9_common_136 (by decide) rfl ?_
      refine j_iload C dX9_common_138 2 rfl ?_
      refine j_istore C dX9_common_140 (by decide) rfl ?_
      refine j_goto (tgt := 60) C dX9_common_142 (by decide) ?_
      exact J.sub (hk60 v3 v6 v7 v5 D hw) [4, 5, 2, 1, 0] rfl
    · have hw := hw.2 hc
      refine j_aload_n C dX9_common_101 rfl 0 rfl ?_
      refine gf_9_1 C ho_v0 hr_g1 k_765 dX9_common_102 ?_
      refine j_iload C dX9_common_105 4 rfl ?_
      refine j_iconst (v := 1) C dX9_common_107 (by decide) ?_
      refine j_iadd C dX9_common_108 ?_
      refine j_iload C dX9_common_109 5 rfl ?_
      refine j_iadd C dX9_common_111 ?_
      refine j_aload_n C dX9_common_112 rfl 0 rfl ?_
      refine gf_9_3 C ho_v0 hr_g2 k_767 dX9_common_113 ?_
      refine j_iload C dX9_common_116 5 rfl ?_
      obtain ⟨hi1, hw⟩ := hw
      refine j_iald C ho_g2 hi1 dX9_common_118 ?_
      obtain ⟨hi2, hw⟩ := hw
      refine j_iast C ho_g1 hi2 dX9_common_119 ?_
      refine j_iinc (v := v8 + 1) C dX9_common_120 5 rfl rfl (by decide) rfl ?_
      refine j_goto (tgt := 92) C dX9_common_123 (by decide) ?_
      exact J.sub (ih v3 v5 v6 v7 (v8 + 1) (dI D g1 ((v7 + 1) + v8).toNatClampNeg (D.1 g2 v8.toNatClampNeg)) hw) [1, 2, 3, 4, 5, 0] rfl
def X9_common_l60_b (G : Shp) (post : Int32 → Dat → Prop) (v0 : Nat) (v1 : Int32) (v2 : Int32) (g1 : Nat) (g2 : Nat) (rec : Int32 → Int32 → Int32 → Int32 → Dat → Prop) (v3 : Int32) (v5 : Int32) (v6 : Int32) (v7 : Int32) (D : Dat) : Prop := (vp_in v6 (G.2.2.1 g1) ∧ (((D.1 g1 v6.toNatClampNeg) = 0 → (vp_in v5 (G.2.2.1 g1) ∧ ∃ n, X9_common_l157 G post v0 v1 v2 g1 g2 n v3 v5 (D.1 g1 v5.toNatClampNeg) 0 D)) ∧ (¬ ((D.1 g1 v6.toNatClampNeg) = 0) → X9_divide_wp G D v0 v5 v6 (fun D4 => (vp_in v7 (G.2.2.1 g1) ∧ ∃ n, X9_common_l92 G post v0 v1 v2 g1 g2 rec n v3 v5 v6 v7 0 (dI D4 g1 v7.toNatClampNeg (D4.1 v0 6)))))))
def X9_common_l60 (G : Shp) (post : Int32 → Dat → Prop) (v0 : Nat) (v1 : Int32) (v2 : Int32) (g1 : Nat) (g2 : Nat) : Nat → Int32 → Int32 → Int32 → Int32 → Dat → Prop
  | 0 => fun _ _ _ _ _ => False
  | n + 1 => X9_common_l60_b G post v0 v1 v2 g1 g2 (X9_common_l60 G post v0 v1 v2 g1 g2 n)
set_option maxRecDepth 100000 in
set_option maxHeartbeats 4000000 in
theorem X9_common_l60_ok {κ : Ctx} {G : Shp} {post : Int32 → Dat → Prop} {v0 : Nat} {v1 : Int32} {v2 : Int32} {g1 : Nat} {g2 : Nat} (C : Cx κ cX9_common RX9 (rmN 3) 10) (K : RtI κ cX9_common .int G post) (ho_v0 : isO G v0 9) (hr_g1 : G.2.2.2 v0 1 = some g1) (ho_g1 : isO G g1 11) (hr_g2 : G.2.2.2 v0 3 = some g2) (ho_g2 : isO G g2 11) : ∀ (n : Nat) (v3 : Int32) (v5 : Int32) (v6 : Int32) (v7 : Int32) (D : Dat), X9_common_l60 G post v0 v1 v2 g1 g2 n v3 v5 v6 v7 D → J κ 0 0 G D 60 [(0, .ref v0), (3, .int v3), (5, .int v5), (6, .int v6), (7, .int v7)] [] := by
  intro n
  induction n with
  | zero => intro v3 v5 v6 v7 D hw; exact hw.elim
  | succ n ih =>
    intro v3 v5 v6 v7 D hw
    have hw : X9_common_l60_b G post v0 v1 v2 g1 g2 (X9_common_l60 G post v0 v1 v2 g1 g2 n) v3 v5 v6 v7 D := hw
    unfold X9_common_l60_b at hw
    refine j_aload_n C dX9_common_60 rfl 0 rfl ?_
    refine gf_9_1 C ho_v0 hr_g1 k_765 dX9_common_61 ?_
    refine j_iload C dX9_common_64 3 rfl ?_
    obtain ⟨hi1, hw⟩ := hw
    refine j_iald C ho_g1 hi1 dX9_common_66 ?_
    refine j_if_eq (tgt := 145) C dX9_common_67 (by decide) (fun hc => ?_) (fun hc => ?_)
    · have hw := hw.1 hc
      refine j_aload_n C dX9_common_145 rfl 0 rfl ?_
      refine gf_9_1 C ho_v0 hr_g1 k_765 dX9_common_146 ?_
      refine j_iload C dX9_common_149 2 rfl ?_
      obtain ⟨hi2, hw⟩ := hw
      refine j_iald C ho_g1 hi2 dX9_common_151 ?_
      refine j_istore C dX9_common_152 (by decide) rfl ?_
      refine j_iconst (v := 0) C dX9_common_154 (by decide) ?_
      refine j_istore C dX9_common_155 (by decide) rfl ?_
      obtain ⟨n, hw⟩ := hw
      exact J.sub (X9_common_l157_ok C K ho_v0 hr_g1 ho_g1 hr_g2 ho_g2 n v3 v5 (D.1 g1 v5.toNatClampNeg) 0 D hw) [2, 3, 4, 1, 0] rfl
    · have hw := hw.2 hc
      refine j_aload_n C dX9_common_70 rfl 0 rfl ?_
      refine j_iload C dX9_common_71 2 rfl ?_
      refine j_iload C dX9_common_73 3 rfl ?_
      refine j_cVV (As := [.int v5, .int v6]) (st := []) C (X9_divide_ok κ.2.1 G D v0 v5 v6 _ hw) ho_v0 rfl k_1028 mv_X9_divide ⟨by decide, by decide⟩ ⟨rfl, rfl⟩ rfl rfl (Nat.le_of_ble_eq_true rfl) ⟨Nat.zero_le _, Nat.zero_le _⟩ dX9_common_75 (fun D4 hw => ?_)
      refine j_aload_n C dX9_common_78 rfl 0 rfl ?_
      refine gf_9_1 C ho_v0 hr_g1 k_765 dX9_common_79 ?_
      refine j_iload C dX9_common_82 4 rfl ?_
      refine j_aload_n C dX9_common_84 rfl 0 rfl ?_
      refine gf_9_6 C ho_v0 k_770 dX9_common_85 ?_
      obtain ⟨hi5, hw⟩ := hw
      refine j_iast C ho_g1 hi5 dX9_common_88 ?_
      refine j_iconst (v := 0) C dX9_common_89 (by decide) ?_
      refine j_istore C dX9_common_90 (by decide) rfl ?_
      obtain ⟨n, hw⟩ := hw
      exact J.sub (X9_common_l92_ok C K ho_v0 hr_g1 ho_g1 hr_g2 ho_g2 ih n v3 v5 v6 v7 0 (dI D4 g1 v7.toNatClampNeg (D4.1 v0 6)) hw) [1, 2, 3, 4, 5, 0] rfl
def X9_common_wp (G : Shp) (D : Dat) (v0 : Nat) (v1 : Int32) (v2 : Int32) (post : Int32 → Dat → Prop) : Prop := isO G v0 9 ∧ ∃ g1, G.2.2.2 v0 1 = some g1 ∧ isO G g1 11 ∧ ∃ g2, G.2.2.2 v0 3 = some g2 ∧ isO G g2 11 ∧ X9_size_wp G D v0 v1 (fun r1 D2 => X9_size_wp G D2 v0 v2 (fun r3 D4 => X9_room_wp G D4 v0 ((mxI r1 r3) + 2) (fun r5 D6 => X9_room_wp G D6 v0 ((mxI r1 r3) + 2) (fun r7 D8 => X9_room_wp G D8 v0 ((mxI r1 r3) + 2) (fun r9 D10 => X9_putOff_wp G D10 v0 r5 v1 (fun D12 => X9_putOff_wp G D12 v0 r7 v2 (fun D14 => ∃ n, X9_common_l60 G post v0 v1 v2 g1 g2 n (D.1 v0 2) r5 r7 r9 D14)))))))
set_option maxRecDepth 100000 in
set_option maxHeartbeats 4000000 in
theorem X9_common_ok (l : Launch) (G : Shp) (D : Dat) (v0 : Nat) (v1 : Int32) (v2 : Int32) (post : Int32 → Dat → Prop) (hw : X9_common_wp G D v0 v1 v2 post) : CtI l yX9_common cX9_common 10 .int (rmN 3) [.ref v0, .int v1, .int v2] G D post := by
  obtain ⟨ho_v0, g1, hr_g1, ho_g1, g2, hr_g2, ho_g2, hw⟩ := hw
  refine ctI_of (by decide) rfl (Nat.le_of_ble_eq_true rfl) ?_
  intro κ hκ C K
  subst hκ
  have C : Cx κ cX9_common RX9 (rmN 3) 10 := C
  refine j_aload_n C dX9_common_0 rfl 0 rfl ?_
  refine gf_9_2 C ho_v0 k_766 dX9_common_1 ?_
  refine j_istore_n C dX9_common_4 rfl (by decide) rfl ?_
  refine j_aload_n C dX9_common_5 rfl 1 rfl ?_
  refine j_iload_n C dX9_common_6 rfl 2 rfl ?_
  refine j_cVI (As := [.int v1]) (st := []) C (X9_size_ok κ.2.1 G D v0 v1 _ hw) ho_v0 rfl k_998 mv_X9_size ⟨by decide, by decide⟩ ⟨rfl, rfl⟩ rfl rfl (Nat.le_of_ble_eq_true rfl) ⟨Nat.zero_le _, Nat.zero_le _⟩ dX9_common_7 (fun r1 D2 hw => ?_)
  refine j_aload_n C dX9_common_10 rfl 1 rfl ?_
  refine j_iload_n C dX9_common_11 rfl 3 rfl ?_
  refine j_cVI (As := [.int v2]) (st := [.int r1]) C (X9_size_ok κ.2.1 G D2 v0 v2 _ hw) ho_v0 rfl k_998 mv_X9_size ⟨by decide, by decide⟩ ⟨rfl, rfl⟩ rfl rfl (Nat.le_of_ble_eq_true rfl) ⟨Nat.zero_le _, Nat.zero_le _⟩ dX9_common_12 (fun r3 D4 hw => ?_)
  refine j_mxI C k_1018 ⟨by decide, Nat.le_of_ble_eq_true rfl⟩ ⟨Nat.zero_le _, Nat.zero_le _⟩ dX9_common_15 ?_
  refine j_iconst (v := 2) C dX9_common_18 (by decide) ?_
  refine j_iadd C dX9_common_19 ?_
  refine j_istore C dX9_common_20 (by decide) rfl ?_
  refine j_aload_n C dX9_common_22 rfl 2 rfl ?_
  refine j_iload C dX9_common_23 0 rfl ?_
  refine j_cVI (As := [.int ((mxI r1 r3) + 2)]) (st := []) C (X9_room_ok κ.2.1 G D4 v0 ((mxI r1 r3) + 2) _ hw) ho_v0 rfl k_981 mv_X9_room ⟨by decide, by decide⟩ ⟨rfl, rfl⟩ rfl rfl (Nat.le_of_ble_eq_true rfl) ⟨Nat.zero_le _, Nat.zero_le _⟩ dX9_common_25 (fun r5 D6 hw => ?_)
  refine j_istore C dX9_common_28 (by decide) rfl ?_
  refine j_aload_n C dX9_common_30 rfl 3 rfl ?_
  refine j_iload C dX9_common_31 1 rfl ?_
  refine j_cVI (As := [.int ((mxI r1 r3) + 2)]) (st := []) C (X9_room_ok κ.2.1 G D6 v0 ((mxI r1 r3) + 2) _ hw) ho_v0 rfl k_981 mv_X9_room ⟨by decide, by decide⟩ ⟨rfl, rfl⟩ rfl rfl (Nat.le_of_ble_eq_true rfl) ⟨Nat.zero_le _, Nat.zero_le _⟩ dX9_common_33 (fun r7 D8 hw => ?_)
  refine j_istore C dX9_common_36 (by decide) rfl ?_
  refine j_aload_n C dX9_common_38 rfl 4 rfl ?_
  refine j_iload C dX9_common_39 2 rfl ?_
  refine j_cVI (As := [.int ((mxI r1 r3) + 2)]) (st := []) C (X9_room_ok κ.2.1 G D8 v0 ((mxI r1 r3) + 2) _ hw) ho_v0 rfl k_981 mv_X9_room ⟨by decide, by decide⟩ ⟨rfl, rfl⟩ rfl rfl (Nat.le_of_ble_eq_true rfl) ⟨Nat.zero_le _, Nat.zero_le _⟩ dX9_common_41 (fun r9 D10 hw => ?_)
  refine j_istore C dX9_common_44 (by decide) rfl ?_
  refine j_aload_n C dX9_common_46 rfl 5 rfl ?_
  refine j_iload C dX9_common_47 2 rfl ?_
  refine j_iload_n C dX9_common_49 rfl 6 rfl ?_
  refine j_cVV (As := [.int r5, .int v1]) (st := []) C (X9_putOff_ok κ.2.1 G D10 v0 r5 v1 _ hw) ho_v0 rfl k_1064 mv_X9_putOff ⟨by decide, by decide⟩ ⟨rfl, rfl⟩ rfl rfl (Nat.le_of_ble_eq_true rfl) ⟨Nat.zero_le _, Nat.zero_le _⟩ dX9_common_50 (fun D12 hw => ?_)
  refine j_aload_n C dX9_common_53 rfl 5 rfl ?_
  refine j_iload C dX9_common_54 1 rfl ?_
  refine j_iload_n C dX9_common_56 rfl 7 rfl ?_
  refine j_cVV (As := [.int r7, .int v2]) (st := []) C (X9_putOff_ok κ.2.1 G D12 v0 r7 v2 _ hw) ho_v0 rfl k_1064 mv_X9_putOff ⟨by decide, by decide⟩ ⟨rfl, rfl⟩ rfl rfl (Nat.le_of_ble_eq_true rfl) ⟨Nat.zero_le _, Nat.zero_le _⟩ dX9_common_57 (fun D14 hw => ?_)
  obtain ⟨n, hw⟩ := hw
  exact J.sub (X9_common_l60_ok C K ho_v0 hr_g1 ho_g1 hr_g2 ho_g2 n (D.1 v0 2) r5 r7 r9 D14 hw) [5, 4, 2, 1, 0] rfl
/-! X9_divided -/
def X9_divided_j82 (G : Shp) (post : Int32 → Dat → Prop) (v0 : Nat) (v1 : Int32) (v2 : Int32) (g1 : Nat) (g2 : Nat) (s0 : Int32) (s1 : Int32) (s2 : Int32) (s3 : Nat) (D : Dat) : Prop := (isO G s3 9 ∧ X9_done_wp G D s3 s2 s1 s0 (fun r2 D3 => post r2 D3))
set_option maxRecDepth 100000 in
set_option maxHeartbeats 4000000 in
theorem X9_divided_j82_ok {κ : Ctx} {G : Shp} {post : Int32 → Dat → Prop} {v0 : Nat} {v1 : Int32} {v2 : Int32} {g1 : Nat} {g2 : Nat} (C : Cx κ cX9_divided RX9 (rmN 3) 5) (K : RtI κ cX9_divided .int G post) (ho_v0 : isO G v0 9) (hr_g1 : G.2.2.2 v0 1 = some g1) (ho_g1 : isO G g1 11) (hr_g2 : G.2.2.2 v0 5 = some g2) (ho_g2 : isO G g2 11) (s0 : Int32) (s1 : Int32) (s2 : Int32) (s3 : Nat) (D : Dat) (hw : X9_divided_j82 G post v0 v1 v2 g1 g2 s0 s1 s2 s3 D) : J κ 0 0 G D 82 [] [.int s0, .int s1, .int s2, .ref s3] := by
  unfold X9_divided_j82 at hw
  obtain ⟨ho1, hw⟩ := hw
  refine j_cVI (As := [.int s2, .int s1, .int s0]) (st := []) C (X9_done_ok κ.2.1 G D s3 s2 s1 s0 _ hw) ho1 rfl k_986 mv_X9_done ⟨by decide, by decide⟩ ⟨rfl, rfl⟩ rfl rfl (Nat.le_of_ble_eq_true rfl) ⟨Nat.zero_le _, Nat.zero_le _⟩ dX9_divided_82 (fun r2 D3 hw => ?_)
  exact K _ _ _ _ dX9_divided_85 rfl hw
def X9_divided_j81 (G : Shp) (post : Int32 → Dat → Prop) (v0 : Nat) (v1 : Int32) (v2 : Int32) (g1 : Nat) (g2 : Nat) (s0 : Int32) (s1 : Int32) (s2 : Nat) (D : Dat) : Prop := X9_divided_j82 G post v0 v1 v2 g1 g2 0 s0 s1 s2 D
set_option maxRecDepth 100000 in
set_option maxHeartbeats 4000000 in
theorem X9_divided_j81_ok {κ : Ctx} {G : Shp} {post : Int32 → Dat → Prop} {v0 : Nat} {v1 : Int32} {v2 : Int32} {g1 : Nat} {g2 : Nat} (C : Cx κ cX9_divided RX9 (rmN 3) 5) (K : RtI κ cX9_divided .int G post) (ho_v0 : isO G v0 9) (hr_g1 : G.2.2.2 v0 1 = some g1) (ho_g1 : isO G g1 11) (hr_g2 : G.2.2.2 v0 5 = some g2) (ho_g2 : isO G g2 11) (s0 : Int32) (s1 : Int32) (s2 : Nat) (D : Dat) (hw : X9_divided_j81 G post v0 v1 v2 g1 g2 s0 s1 s2 D) : J κ 0 0 G D 81 [] [.int s0, .int s1, .ref s2] := by
  unfold X9_divided_j81 at hw
  refine j_iconst (v := 0) C dX9_divided_81 (by decide) ?_
  exact J.sub (X9_divided_j82_ok C K ho_v0 hr_g1 ho_g1 hr_g2 ho_g2 0 s0 s1 s2 D hw) [] rfl
def X9_divided_l18_b (G : Shp) (post : Int32 → Dat → Prop) (v0 : Nat) (v1 : Int32) (v2 : Int32) (g1 : Nat) (g2 : Nat) (rec : Int32 → Int32 → Dat → Prop) (v3 : Int32) (v4 : Int32) (D : Dat) : Prop := (((D.1 v0 7) ≤ v4 → X9_sign_wp G D v0 v1 (fun r1 D2 => X9_sign_wp G D2 v0 v2 (fun r3 D4 => ((r1 = r3 → X9_divided_j81 G post v0 v1 v2 g1 g2 (D.1 v0 7) v3 v0 D4) ∧ (¬ (r1 = r3) → (((D4.1 v0 7) ≤ 0 → X9_divided_j81 G post v0 v1 v2 g1 g2 (D.1 v0 7) v3 v0 D4) ∧ (¬ ((D4.1 v0 7) ≤ 0) → X9_divided_j82 G post v0 v1 v2 g1 g2 1 (D.1 v0 7) v3 v0 D4))))))) ∧ (¬ ((D.1 v0 7) ≤ v4) → (vp_in v4 (G.2.2.1 g2) ∧ vp_in ((v3 + 1) + v4) (G.2.2.1 g1) ∧ rec v3 (v4 + 1) (dI D g1 ((v3 + 1) + v4).toNatClampNeg (D.1 g2 v4.toNatClampNeg)))))
def X9_divided_l18 (G : Shp) (post : Int32 → Dat → Prop) (v0 : Nat) (v1 : Int32) (v2 : Int32) (g1 : Nat) (g2 : Nat) : Nat → Int32 → Int32 → Dat → Prop
  | 0 => fun _ _ _ => False
  | n + 1 => X9_divided_l18_b G post v0 v1 v2 g1 g2 (X9_divided_l18 G post v0 v1 v2 g1 g2 n)
set_option maxRecDepth 100000 in
set_option maxHeartbeats 4000000 in
theorem X9_divided_l18_ok {κ : Ctx} {G : Shp} {post : Int32 → Dat → Prop} {v0 : Nat} {v1 : Int32} {v2 : Int32} {g1 : Nat} {g2 : Nat} (C : Cx κ cX9_divided RX9 (rmN 3) 5) (K : RtI κ cX9_divided .int G post) (ho_v0 : isO G v0 9) (hr_g1 : G.2.2.2 v0 1 = some g1) (ho_g1 : isO G g1 11) (hr_g2 : G.2.2.2 v0 5 = some g2) (ho_g2 : isO G g2 11) : ∀ (n : Nat) (v3 : Int32) (v4 : Int32) (D : Dat), X9_divided_l18 G post v0 v1 v2 g1 g2 n v3 v4 D → J κ 0 0 G D 18 [(0, .ref v0), (1, .int v1), (2, .int v2), (3, .int v3), (4, .int v4)] [] := by
  intro n
  induction n with
  | zero => intro v3 v4 D hw; exact hw.elim
  | succ n ih =>
    intro v3 v4 D hw
    have hw : X9_divided_l18_b G post v0 v1 v2 g1 g2 (X9_divided_l18 G post v0 v1 v2 g1 g2 n) v3 v4 D := hw
    unfold X9_divided_l18_b at hw
    refine j_iload C dX9_divided_18 4 rfl ?_
    refine j_aload_n C dX9_divided_20 rfl 0 rfl ?_
    refine gf_9_7 C ho_v0 k_771 dX9_divided_21 ?_
    refine j_icmp_ge (tgt := 51) C dX9_divided_24 (by decide) (fun hc => ?_) (fun hc => ?_)
    · have hw := hw.1 hc
      refine j_aload_n C dX9_divided_51 rfl 0 rfl ?_
      refine j_iload_n C dX9_divided_52 rfl 3 rfl ?_
      refine j_aload_n C dX9_divided_53 rfl 0 rfl ?_
      refine gf_9_7 C ho_v0 k_771 dX9_divided_54 ?_
      refine j_aload_n C dX9_divided_57 rfl 0 rfl ?_
      refine j_iload_n C dX9_divided_58 rfl 1 rfl ?_
      refine j_cVI (As := [.int v1]) (st := [.int (D.1 v0 7), .int v3, .ref v0]) C (X9_sign_ok κ.2.1 G D v0 v1 _ hw) ho_v0 rfl k_990 mv_X9_sign ⟨by decide, by decide⟩ ⟨rfl, rfl⟩ rfl rfl (Nat.le_of_ble_eq_true rfl) ⟨Nat.zero_le _, Nat.zero_le _⟩ dX9_divided_59 (fun r1 D2 hw => ?_)
      refine j_aload_n C dX9_divided_62 rfl 0 rfl ?_
      refine j_iload_n C dX9_divided_63 rfl 2 rfl ?_
      refine j_cVI (As := [.int v2]) (st := [.int r1, .int (D.1 v0 7), .int v3, .ref v0]) C (X9_sign_ok κ.2.1 G D2 v0 v2 _ hw) ho_v0 rfl k_990 mv_X9_sign ⟨by decide, by decide⟩ ⟨rfl, rfl⟩ rfl rfl (Nat.le_of_ble_eq_true rfl) ⟨Nat.zero_le _, Nat.zero_le _⟩ dX9_divided_64 (fun r3 D4 hw => ?_)
      refine j_icmp_eq (tgt := 81) C dX9_divided_67 (by decide) (fun hc => ?_) (fun hc => ?_)
      · have hw := hw.1 hc
        exact J.sub (X9_divided_j81_ok C K ho_v0 hr_g1 ho_g1 hr_g2 ho_g2 (D.1 v0 7) v3 v0 D4 hw) [] rfl
      · have hw := hw.2 hc
        refine j_aload_n C dX9_divided_70 rfl 0 rfl ?_
        refine gf_9_7 C ho_v0 k_771 dX9_divided_71 ?_
        refine j_if_le (tgt := 81) C dX9_divided_74 (by decide) (fun hc => ?_) (fun hc => ?_)
        · have hw := hw.1 hc
          exact J.sub (X9_divided_j81_ok C K ho_v0 hr_g1 ho_g1 hr_g2 ho_g2 (D.1 v0 7) v3 v0 D4 hw) [] rfl
        · have hw := hw.2 hc
          refine j_iconst (v := 1) C dX9_divided_77 (by decide) ?_
          refine j_goto (tgt := 82) C dX9_divided_78 (by decide) ?_
          exact J.sub (X9_divided_j82_ok C K ho_v0 hr_g1 ho_g1 hr_g2 ho_g2 1 (D.1 v0 7) v3 v0 D4 hw) [] rfl
    · have hw := hw.2 hc
      refine j_aload_n C dX9_divided_27 rfl 0 rfl ?_
      refine gf_9_1 C ho_v0 hr_g1 k_765 dX9_divided_28 ?_
      refine j_iload_n C dX9_divided_31 rfl 3 rfl ?_
      refine j_iconst (v := 1) C dX9_divided_32 (by decide) ?_
      refine j_iadd C dX9_divided_33 ?_
      refine j_iload C dX9_divided_34 4 rfl ?_
      refine j_iadd C dX9_divided_36 ?_
      refine j_aload_n C dX9_divided_37 rfl 0 rfl ?_
      refine gf_9_5 C ho_v0 hr_g2 k_769 dX9_divided_38 ?_
      refine j_iload C dX9_divided_41 4 rfl ?_
      obtain ⟨hi5, hw⟩ := hw
      refine j_iald C ho_g2 hi5 dX9_divided_43 ?_
      obtain ⟨hi6, hw⟩ := hw
      refine j_iast C ho_g1 hi6 dX9_divided_44 ?_
      refine j_iinc (v := v4 + 1) C dX9_divided_45 4 rfl rfl (by decide) rfl ?_
      refine j_goto (tgt := 18) C dX9_divided_48 (by decide) ?_
      exact J.sub (ih v3 (v4 + 1) (dI D g1 ((v3 + 1) + v4).toNatClampNeg (D.1 g2 v4.toNatClampNeg)) hw) [1, 2, 3, 4, 0] rfl
def X9_divided_wp (G : Shp) (D : Dat) (v0 : Nat) (v1 : Int32) (v2 : Int32) (post : Int32 → Dat → Prop) : Prop := isO G v0 9 ∧ ∃ g1, G.2.2.2 v0 1 = some g1 ∧ isO G g1 11 ∧ ∃ g2, G.2.2.2 v0 5 = some g2 ∧ isO G g2 11 ∧ X9_divide_wp G D v0 v1 v2 (fun D2 => X9_room_wp G D2 v0 (D2.1 v0 7) (fun r3 D4 => ∃ n, X9_divided_l18 G post v0 v1 v2 g1 g2 n r3 0 D4))
set_option maxRecDepth 100000 in
set_option maxHeartbeats 4000000 in
theorem X9_divided_ok (l : Launch) (G : Shp) (D : Dat) (v0 : Nat) (v1 : Int32) (v2 : Int32) (post : Int32 → Dat → Prop) (hw : X9_divided_wp G D v0 v1 v2 post) : CtI l yX9_divided cX9_divided 5 .int (rmN 3) [.ref v0, .int v1, .int v2] G D post := by
  obtain ⟨ho_v0, g1, hr_g1, ho_g1, g2, hr_g2, ho_g2, hw⟩ := hw
  refine ctI_of (by decide) rfl (Nat.le_of_ble_eq_true rfl) ?_
  intro κ hκ C K
  subst hκ
  have C : Cx κ cX9_divided RX9 (rmN 3) 5 := C
  refine j_aload_n C dX9_divided_0 rfl 0 rfl ?_
  refine j_iload_n C dX9_divided_1 rfl 1 rfl ?_
  refine j_iload_n C dX9_divided_2 rfl 2 rfl ?_
  refine j_cVV (As := [.int v1, .int v2]) (st := []) C (X9_divide_ok κ.2.1 G D v0 v1 v2 _ hw) ho_v0 rfl k_1028 mv_X9_divide ⟨by decide, by decide⟩ ⟨rfl, rfl⟩ rfl rfl (Nat.le_of_ble_eq_true rfl) ⟨Nat.zero_le _, Nat.zero_le _⟩ dX9_divided_3 (fun D2 hw => ?_)
  refine j_aload_n C dX9_divided_6 rfl 0 rfl ?_
  refine j_aload_n C dX9_divided_7 rfl 0 rfl ?_
  refine gf_9_7 C ho_v0 k_771 dX9_divided_8 ?_
  refine j_cVI (As := [.int (D2.1 v0 7)]) (st := []) C (X9_room_ok κ.2.1 G D2 v0 (D2.1 v0 7) _ hw) ho_v0 rfl k_981 mv_X9_room ⟨by decide, by decide⟩ ⟨rfl, rfl⟩ rfl rfl (Nat.le_of_ble_eq_true rfl) ⟨Nat.zero_le _, Nat.zero_le _⟩ dX9_divided_11 (fun r3 D4 hw => ?_)
  refine j_istore_n C dX9_divided_14 rfl (by decide) rfl ?_
  refine j_iconst (v := 0) C dX9_divided_15 (by decide) ?_
  refine j_istore C dX9_divided_16 (by decide) rfl ?_
  obtain ⟨n, hw⟩ := hw
  exact J.sub (X9_divided_l18_ok C K ho_v0 hr_g1 ho_g1 hr_g2 ho_g2 n r3 0 D4 hw) [2, 3, 4, 1, 0] rfl
/-! X9_given -/
def X9_given_j81 (G : Shp) (post : Int32 → Dat → Prop) (v0 : Nat) (v1 : Int32) (v2 : Int32) (v3 : Int32) (g1 : Nat) (g2 : Nat) (k16 : Int32 → Int32 → Dat → Prop) (v4 : Int32) (v5 : Int32) (D : Dat) : Prop := k16 v4 (v5 + 1) D
set_option maxRecDepth 100000 in
set_option maxHeartbeats 4000000 in
theorem X9_given_j81_ok {κ : Ctx} {G : Shp} {post : Int32 → Dat → Prop} {v0 : Nat} {v1 : Int32} {v2 : Int32} {v3 : Int32} {g1 : Nat} {g2 : Nat} (C : Cx κ cX9_given RX9 (rmN 3) 6) (K : RtI κ cX9_given .int G post) (ho_v0 : isO G v0 9) (hr_g1 : G.2.2.2 v0 19 = some g1) (ho_g1 : isO G g1 11) (hr_g2 : G.2.2.2 v0 20 = some g2) (ho_g2 : isO G g2 11) {k16 : Int32 → Int32 → Dat → Prop} (hk16 : ∀ (v4 : Int32) (v5 : Int32) (D : Dat), k16 v4 v5 D → J κ 0 0 G D 16 [(0, .ref v0), (3, .int v3), (4, .int v4), (5, .int v5)] []) (v4 : Int32) (v5 : Int32) (D : Dat) (hw : X9_given_j81 G post v0 v1 v2 v3 g1 g2 k16 v4 v5 D) : J κ 0 0 G D 81 [(0, .ref v0), (3, .int v3), (4, .int v4), (5, .int v5)] [] := by
  unfold X9_given_j81 at hw
  refine j_iinc (v := v5 + 1) C dX9_given_81 3 rfl rfl (by decide) rfl ?_
  refine j_goto (tgt := 16) C dX9_given_84 (by decide) ?_
  exact J.sub (hk16 v4 (v5 + 1) D hw) [1, 2, 3, 0] rfl
def X9_given_j51 (G : Shp) (post : Int32 → Dat → Prop) (v0 : Nat) (v1 : Int32) (v2 : Int32) (v3 : Int32) (g1 : Nat) (g2 : Nat) (k16 : Int32 → Int32 → Dat → Prop) (v4 : Int32) (v5 : Int32) (D : Dat) : Prop := (vp_in v5 (G.2.2.1 g1) ∧ X9_whole_wp G D v0 ((D.1 g1 v5.toNatClampNeg).toInt64) (fun r2 D3 => X9_held_wp G D3 v0 v5 (fun r4 D5 => X9_times_wp G D5 v0 r2 r4 (fun r6 D7 => X9_sum_wp G D7 v0 v4 r6 (fun r8 D9 => X9_given_j81 G post v0 v1 v2 v3 g1 g2 k16 r8 v5 D9)))))
set_option maxRecDepth 100000 in
set_option maxHeartbeats 4000000 in
theorem X9_given_j51_ok {κ : Ctx} {G : Shp} {post : Int32 → Dat → Prop} {v0 : Nat} {v1 : Int32} {v2 : Int32} {v3 : Int32} {g1 : Nat} {g2 : Nat} (C : Cx κ cX9_given RX9 (rmN 3) 6) (K : RtI κ cX9_given .int G post) (ho_v0 : isO G v0 9) (hr_g1 : G.2.2.2 v0 19 = some g1) (ho_g1 : isO G g1 11) (hr_g2 : G.2.2.2 v0 20 = some g2) (ho_g2 : isO G g2 11) {k16 : Int32 → Int32 → Dat → Prop} (hk16 : ∀ (v4 : Int32) (v5 : Int32) (D : Dat), k16 v4 v5 D → J κ 0 0 G D 16 [(0, .ref v0), (3, .int v3), (4, .int v4), (5, .int v5)] []) (v4 : Int32) (v5 : Int32) (D : Dat) (hw : X9_given_j51 G post v0 v1 v2 v3 g1 g2 k16 v4 v5 D) : J κ 0 0 G D 51 [(0, .ref v0), (3, .int v3), (4, .int v4), (5, .int v5)] [] := by
  unfold X9_given_j51 at hw
  refine j_aload_n C dX9_given_51 rfl 0 rfl ?_
  refine j_iload C dX9_given_52 2 rfl ?_
  refine j_aload_n C dX9_given_54 rfl 0 rfl ?_
  refine j_aload_n C dX9_given_55 rfl 0 rfl ?_
  refine j_aload_n C dX9_given_56 rfl 0 rfl ?_
  refine gf_9_19 C ho_v0 hr_g1 k_783 dX9_given_57 ?_
  refine j_iload C dX9_given_60 3 rfl ?_
  obtain ⟨hi1, hw⟩ := hw
  refine j_iald C ho_g1 hi1 dX9_given_62 ?_
  refine j_i2l C dX9_given_63 ?_
  refine j_cVI (As := [.long ((D.1 g1 v5.toNatClampNeg).toInt64)]) (st := [.ref v0, .int v4, .ref v0]) C (X9_whole_ok κ.2.1 G D v0 ((D.1 g1 v5.toNatClampNeg).toInt64) _ hw) ho_v0 rfl k_977 mv_X9_whole ⟨by decide, by decide⟩ ⟨rfl, rfl⟩ rfl rfl (Nat.le_of_ble_eq_true rfl) ⟨Nat.zero_le _, Nat.zero_le _⟩ dX9_given_64 (fun r2 D3 hw => ?_)
  refine j_aload_n C dX9_given_67 rfl 0 rfl ?_
  refine j_iload C dX9_given_68 3 rfl ?_
  refine j_cVI (As := [.int v5]) (st := [.int r2, .ref v0, .int v4, .ref v0]) C (X9_held_ok κ.2.1 G D3 v0 v5 _ hw) ho_v0 rfl k_1052 mv_X9_held ⟨by decide, by decide⟩ ⟨rfl, rfl⟩ rfl rfl (Nat.le_of_ble_eq_true rfl) ⟨Nat.zero_le _, Nat.zero_le _⟩ dX9_given_70 (fun r4 D5 hw => ?_)
  refine j_cVI (As := [.int r2, .int r4]) (st := [.int v4, .ref v0]) C (X9_times_ok κ.2.1 G D5 v0 r2 r4 _ hw) ho_v0 rfl k_994 mv_X9_times ⟨by decide, by decide⟩ ⟨rfl, rfl⟩ rfl rfl (Nat.le_of_ble_eq_true rfl) ⟨Nat.zero_le _, Nat.zero_le _⟩ dX9_given_73 (fun r6 D7 hw => ?_)
  refine j_cVI (As := [.int v4, .int r6]) (st := []) C (X9_sum_ok κ.2.1 G D7 v0 v4 r6 _ hw) ho_v0 rfl k_1014 mv_X9_sum ⟨by decide, by decide⟩ ⟨rfl, rfl⟩ rfl rfl (Nat.le_of_ble_eq_true rfl) ⟨Nat.zero_le _, Nat.zero_le _⟩ dX9_given_76 (fun r8 D9 hw => ?_)
  refine j_istore C dX9_given_79 (by decide) rfl ?_
  exact J.sub (X9_given_j81_ok C K ho_v0 hr_g1 ho_g1 hr_g2 ho_g2 hk16 r8 v5 D9 hw) [1, 2, 0, 3] rfl
def X9_given_l16_b (G : Shp) (post : Int32 → Dat → Prop) (v0 : Nat) (v1 : Int32) (v2 : Int32) (v3 : Int32) (g1 : Nat) (g2 : Nat) (rec : Int32 → Int32 → Dat → Prop) (v4 : Int32) (v5 : Int32) (D : Dat) : Prop := (((D.1 v0 21) ≤ v5 → post v4 D) ∧ (¬ ((D.1 v0 21) ≤ v5) → (vp_in v5 (G.2.2.1 g1) ∧ (((D.1 g1 v5.toNatClampNeg) = 0 → X9_given_j81 G post v0 v1 v2 v3 g1 g2 rec v4 v5 D) ∧ (¬ ((D.1 g1 v5.toNatClampNeg) = 0) → ((v3 = 3 → X9_given_j51 G post v0 v1 v2 v3 g1 g2 rec v4 v5 D) ∧ (¬ (v3 = 3) → (vp_in v5 (G.2.2.1 g2) ∧ ((¬ (D.1 g2 v5.toNatClampNeg) = v3 → X9_given_j81 G post v0 v1 v2 v3 g1 g2 rec v4 v5 D) ∧ ((D.1 g2 v5.toNatClampNeg) = v3 → X9_given_j51 G post v0 v1 v2 v3 g1 g2 rec v4 v5 D))))))))))
def X9_given_l16 (G : Shp) (post : Int32 → Dat → Prop) (v0 : Nat) (v1 : Int32) (v2 : Int32) (v3 : Int32) (g1 : Nat) (g2 : Nat) : Nat → Int32 → Int32 → Dat → Prop
  | 0 => fun _ _ _ => False
  | n + 1 => X9_given_l16_b G post v0 v1 v2 v3 g1 g2 (X9_given_l16 G post v0 v1 v2 v3 g1 g2 n)
set_option maxRecDepth 100000 in
set_option maxHeartbeats 4000000 in
theorem X9_given_l16_ok {κ : Ctx} {G : Shp} {post : Int32 → Dat → Prop} {v0 : Nat} {v1 : Int32} {v2 : Int32} {v3 : Int32} {g1 : Nat} {g2 : Nat} (C : Cx κ cX9_given RX9 (rmN 3) 6) (K : RtI κ cX9_given .int G post) (ho_v0 : isO G v0 9) (hr_g1 : G.2.2.2 v0 19 = some g1) (ho_g1 : isO G g1 11) (hr_g2 : G.2.2.2 v0 20 = some g2) (ho_g2 : isO G g2 11) : ∀ (n : Nat) (v4 : Int32) (v5 : Int32) (D : Dat), X9_given_l16 G post v0 v1 v2 v3 g1 g2 n v4 v5 D → J κ 0 0 G D 16 [(0, .ref v0), (3, .int v3), (4, .int v4), (5, .int v5)] [] := by
  intro n
  induction n with
  | zero => intro v4 v5 D hw; exact hw.elim
  | succ n ih =>
    intro v4 v5 D hw
    have hw : X9_given_l16_b G post v0 v1 v2 v3 g1 g2 (X9_given_l16 G post v0 v1 v2 v3 g1 g2 n) v4 v5 D := hw
    unfold X9_given_l16_b at hw
    refine j_iload C dX9_given_16 3 rfl ?_
    refine j_aload_n C dX9_given_18 rfl 0 rfl ?_
    refine gf_9_21 C ho_v0 k_785 dX9_given_19 ?_
    refine j_icmp_ge (tgt := 87) C dX9_given_22 (by decide) (fun hc => ?_) (fun hc => ?_)
    · have hw := hw.1 hc
      refine j_iload C dX9_given_87 2 rfl ?_
      exact K _ _ _ _ dX9_given_89 rfl hw
    · have hw := hw.2 hc
      refine j_aload_n C dX9_given_25 rfl 0 rfl ?_
      refine gf_9_19 C ho_v0 hr_g1 k_783 dX9_given_26 ?_
      refine j_iload C dX9_given_29 3 rfl ?_
      obtain ⟨hi1, hw⟩ := hw
      refine j_iald C ho_g1 hi1 dX9_given_31 ?_
      refine j_if_eq (tgt := 81) C dX9_given_32 (by decide) (fun hc => ?_) (fun hc => ?_)
      · have hw := hw.1 hc
        exact J.sub (X9_given_j81_ok C K ho_v0 hr_g1 ho_g1 hr_g2 ho_g2 ih v4 v5 D hw) [0, 1, 2, 3] rfl
      · have hw := hw.2 hc
        refine j_iload_n C dX9_given_35 rfl 1 rfl ?_
        refine j_iconst (v := 3) C dX9_given_36 (by decide) ?_
        refine j_icmp_eq (tgt := 51) C dX9_given_37 (by decide) (fun hc => ?_) (fun hc => ?_)
        · have hw := hw.1 hc
          exact J.sub (X9_given_j51_ok C K ho_v0 hr_g1 ho_g1 hr_g2 ho_g2 ih v4 v5 D hw) [0, 1, 2, 3] rfl
        · have hw := hw.2 hc
          refine j_aload_n C dX9_given_40 rfl 0 rfl ?_
          refine gf_9_20 C ho_v0 hr_g2 k_784 dX9_given_41 ?_
          refine j_iload C dX9_given_44 3 rfl ?_
          obtain ⟨hi2, hw⟩ := hw
          refine j_iald C ho_g2 hi2 dX9_given_46 ?_
          refine j_iload_n C dX9_given_47 rfl 1 rfl ?_
          refine j_icmp_ne (tgt := 81) C dX9_given_48 (by decide) (fun hc => ?_) (fun hc => ?_)
          · have hw := hw.1 hc
            exact J.sub (X9_given_j81_ok C K ho_v0 hr_g1 ho_g1 hr_g2 ho_g2 ih v4 v5 D hw) [0, 1, 2, 3] rfl
          · have hw := hw.2 hc
            exact J.sub (X9_given_j51_ok C K ho_v0 hr_g1 ho_g1 hr_g2 ho_g2 ih v4 v5 D hw) [0, 1, 2, 3] rfl
def X9_given_wp (G : Shp) (D : Dat) (v0 : Nat) (v1 : Int32) (v2 : Int32) (v3 : Int32) (post : Int32 → Dat → Prop) : Prop := isO G v0 9 ∧ ∃ g1, G.2.2.2 v0 19 = some g1 ∧ isO G g1 11 ∧ ∃ g2, G.2.2.2 v0 20 = some g2 ∧ isO G g2 11 ∧ X9_look_wp G D v0 v1 v2 (fun D2 => X9_whole_wp G D2 v0 0 (fun r3 D4 => ∃ n, X9_given_l16 G post v0 v1 v2 v3 g1 g2 n r3 0 D4))
set_option maxRecDepth 100000 in
set_option maxHeartbeats 4000000 in
theorem X9_given_ok (l : Launch) (G : Shp) (D : Dat) (v0 : Nat) (v1 : Int32) (v2 : Int32) (v3 : Int32) (post : Int32 → Dat → Prop) (hw : X9_given_wp G D v0 v1 v2 v3 post) : CtI l yX9_given cX9_given 6 .int (rmN 3) [.ref v0, .int v1, .int v2, .int v3] G D post := by
  obtain ⟨ho_v0, g1, hr_g1, ho_g1, g2, hr_g2, ho_g2, hw⟩ := hw
  refine ctI_of (by decide) rfl (Nat.le_of_ble_eq_true rfl) ?_
  intro κ hκ C K
  subst hκ
  have C : Cx κ cX9_given RX9 (rmN 3) 6 := C
  refine j_aload_n C dX9_given_0 rfl 0 rfl ?_
  refine j_iload_n C dX9_given_1 rfl 1 rfl ?_
  refine j_iload_n C dX9_given_2 rfl 2 rfl ?_
  refine j_cVV (As := [.int v1, .int v2]) (st := []) C (X9_look_ok κ.2.1 G D v0 v1 v2 _ hw) ho_v0 rfl k_965 mv_X9_look ⟨by decide, by decide⟩ ⟨rfl, rfl⟩ rfl rfl (Nat.le_of_ble_eq_true rfl) ⟨Nat.zero_le _, Nat.zero_le _⟩ dX9_given_3 (fun D2 hw => ?_)
  refine j_aload_n C dX9_given_6 rfl 0 rfl ?_
  refine j_lconst (v := 0) C dX9_given_7 (by decide) ?_
  refine j_cVI (As := [.long 0]) (st := []) C (X9_whole_ok κ.2.1 G D2 v0 0 _ hw) ho_v0 rfl k_977 mv_X9_whole ⟨by decide, by decide⟩ ⟨rfl, rfl⟩ rfl rfl (Nat.le_of_ble_eq_true rfl) ⟨Nat.zero_le _, Nat.zero_le _⟩ dX9_given_8 (fun r3 D4 hw => ?_)
  refine j_istore C dX9_given_11 (by decide) rfl ?_
  refine j_iconst (v := 0) C dX9_given_13 (by decide) ?_
  refine j_istore C dX9_given_14 (by decide) rfl ?_
  obtain ⟨n, hw⟩ := hw
  exact J.sub (X9_given_l16_ok C K ho_v0 hr_g1 ho_g1 hr_g2 ho_g2 n r3 0 D4 hw) [2, 5, 1, 0] rfl
