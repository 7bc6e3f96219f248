/-! X8_rounds -/
def X8_rounds_j91 (G : Shp) (post : Int32 → Dat → Prop) (v0 : Nat) (v1 : Int32) (v2 : Int32) (v3 : Int32) (g1 : Nat) (s0 : Int32) (D : Dat) : Prop := post s0 D
set_option maxRecDepth 100000 in
set_option maxHeartbeats 4000000 in
theorem X8_rounds_j91_ok {κ : Ctx} {G : Shp} {post : Int32 → Dat → Prop} {v0 : Nat} {v1 : Int32} {v2 : Int32} {v3 : Int32} {g1 : Nat} (C : Cx κ cX8_rounds RX8 (rmN 7) 5) (K : RtI κ cX8_rounds .int G post) (ho_v0 : isO G v0 8) (hr_g1 : G.2.2.2 v0 2 = some g1) (ho_g1 : isO G g1 5) (s0 : Int32) (D : Dat) (hw : X8_rounds_j91 G post v0 v1 v2 v3 g1 s0 D) : J κ 0 0 G D 91 [] [.int s0] := by
  unfold X8_rounds_j91 at hw
  exact K _ _ _ _ dX8_rounds_91 rfl hw
def X8_rounds_j32 (G : Shp) (post : Int32 → Dat → Prop) (v0 : Nat) (v1 : Int32) (v2 : Int32) (v3 : Int32) (g1 : Nat) (D : Dat) : Prop := X8_giveNone_wp G D v0 2 (fun r1 D2 => post r1 D2)
set_option maxRecDepth 100000 in
set_option maxHeartbeats 4000000 in
theorem X8_rounds_j32_ok {κ : Ctx} {G : Shp} {post : Int32 → Dat → Prop} {v0 : Nat} {v1 : Int32} {v2 : Int32} {v3 : Int32} {g1 : Nat} (C : Cx κ cX8_rounds RX8 (rmN 7) 5) (K : RtI κ cX8_rounds .int G post) (ho_v0 : isO G v0 8) (hr_g1 : G.2.2.2 v0 2 = some g1) (ho_g1 : isO G g1 5) (D : Dat) (hw : X8_rounds_j32 G post v0 v1 v2 v3 g1 D) : J κ 0 0 G D 32 [(0, .ref v0)] [] := by
  unfold X8_rounds_j32 at hw
  refine j_aload_n C dX8_rounds_32 rfl 0 rfl ?_
  refine j_iconst (v := 2) C dX8_rounds_33 (by decide) ?_
  refine j_cVI (As := [.int 2]) (st := []) C (X8_giveNone_ok κ.2.1 G D v0 2 _ hw) ho_v0 rfl k_349 mv_X8_giveNone ⟨by decide, by decide⟩ ⟨rfl, rfl⟩ rfl rfl (Nat.le_of_ble_eq_true rfl) ⟨Nat.zero_le _, Nat.zero_le _⟩ dX8_rounds_34 (fun r1 D2 hw => ?_)
  exact K _ _ _ _ dX8_rounds_37 rfl hw
def X8_rounds_wp (G : Shp) (D : Dat) (v0 : Nat) (v1 : Int32) (v2 : Int32) (v3 : Int32) (post : Int32 → Dat → Prop) : Prop := isO G v0 8 ∧ ∃ g1, G.2.2.2 v0 2 = some g1 ∧ isO G g1 5 ∧ X8_rowOf_wp G D v0 v1 (fun r1 D2 => (r1 = none → X8_giveNone_wp G D2 v0 1 (fun r4 D5 => post r4 D5)) ∧ (∀ y3, r1 = some y3 → X8_isShare_wp G D2 v2 (fun r6 D7 => ((r6 = 0 → X8_rounds_j32 G post v0 v1 v2 v3 g1 D7) ∧ (¬ (r6 = 0) → X8_isShare_wp G D7 v3 (fun r8 D9 => ((¬ r8 = 0 → (isO G y3 3 ∧ ∃ y11, G.2.2.2 y3 1 = some y11 ∧ isO G y11 7 ∧ ((¬ (D9.1 y11 1) = 0 → X5_run_wp G D9 g1 y3 v2 v3 (fun r14 D15 => ((r14 = 0 → X8_giveNone_wp G D15 v0 6 (fun r16 D17 => X8_rounds_j91 G post v0 v1 v2 v3 g1 r16 D17)) ∧ (¬ (r14 = 0) → (∃ y18, G.2.2.2 y3 2 = some y18 ∧ isO G y18 7 ∧ X8_give_wp G D15 v0 (D15.1 y18 1) (fun r21 D22 => X8_rounds_j91 G post v0 v1 v2 v3 g1 r21 D22)))))) ∧ ((D9.1 y11 1) = 0 → X8_giveNone_wp G D9 v0 8 (fun r23 D24 => post r23 D24))))) ∧ (r8 = 0 → X8_rounds_j32 G post v0 v1 v2 v3 g1 D9))))))))
set_option maxRecDepth 100000 in
set_option maxHeartbeats 4000000 in
theorem X8_rounds_ok (l : Launch) (G : Shp) (D : Dat) (v0 : Nat) (v1 : Int32) (v2 : Int32) (v3 : Int32) (post : Int32 → Dat → Prop) (hw : X8_rounds_wp G D v0 v1 v2 v3 post) : CtI l yX8_rounds cX8_rounds 5 .int (rmN 7) [.ref v0, .int v1, .int v2, .int v3] G D post := by
  obtain ⟨ho_v0, g1, hr_g1, ho_g1, hw⟩ := hw
  refine ctI_of (by decide) rfl (Nat.le_of_ble_eq_true rfl) ?_
  intro κ hκ C K
  subst hκ
  have C : Cx κ cX8_rounds RX8 (rmN 7) 5 := C
  refine j_aload_n C dX8_rounds_0 rfl 0 rfl ?_
  refine j_iload_n C dX8_rounds_1 rfl 1 rfl ?_
  refine j_cVQ (As := [.int v1]) (st := []) C (X8_rowOf_ok κ.2.1 G D v0 v1 _ hw) ho_v0 rfl k_299 mv_X8_rowOf ⟨by decide, by decide⟩ ⟨rfl, rfl⟩ rfl rfl (Nat.le_of_ble_eq_true rfl) ⟨Nat.zero_le _, Nat.zero_le _⟩ dX8_rounds_2 (fun r1 D2 hw => ?_)
  refine j_astoreO C dX8_rounds_5 (by decide) rfl ?_
  refine j_aloadO C dX8_rounds_7 0 rfl ?_
  refine j_ifnonnull (tgt := 18) C dX8_rounds_9 (by decide) (fun y3 hc => ?_) (fun hc => ?_)
  · replace hw := hw.2 y3 hc
    subst hc
    show J κ 0 0 G D2 18 [(4, .ref y3), (0, .ref v0), (1, .int v1), (2, .int v2), (3, .int v3)] []
    refine j_iload_n C dX8_rounds_18 rfl 3 rfl ?_
    refine j_cSI (As := [.int v2]) (st := []) C (X8_isShare_ok κ.2.1 G D2 v2 _ hw) k_695 ms_X8_isShare ⟨by decide, by decide⟩ ⟨rfl, rfl⟩ rfl rfl (Nat.le_of_ble_eq_true rfl) ⟨Nat.zero_le _, Nat.zero_le _⟩ dX8_rounds_19 (fun r6 D7 hw => ?_)
    refine j_if_eq (tgt := 32) C dX8_rounds_22 (by decide) (fun hc => ?_) (fun hc => ?_)
    · have hw := hw.1 hc
      exact J.sub (X8_rounds_j32_ok C K ho_v0 hr_g1 ho_g1 D7 hw) [1] rfl
    · have hw := hw.2 hc
      refine j_iload_n C dX8_rounds_25 rfl 4 rfl ?_
      refine j_cSI (As := [.int v3]) (st := []) C (X8_isShare_ok κ.2.1 G D7 v3 _ hw) k_695 ms_X8_isShare ⟨by decide, by decide⟩ ⟨rfl, rfl⟩ rfl rfl (Nat.le_of_ble_eq_true rfl) ⟨Nat.zero_le _, Nat.zero_le _⟩ dX8_rounds_26 (fun r8 D9 hw => ?_)
      refine j_if_ne (tgt := 38) C dX8_rounds_29 (by decide) (fun hc => ?_) (fun hc => ?_)
      · have hw := hw.1 hc
        refine j_aload C dX8_rounds_38 0 rfl ?_
        obtain ⟨ho10, hw⟩ := hw
        obtain ⟨y11, hr12, ho13, hw⟩ := hw
        refine gf_3_1 C ho10 hr12 k_87 dX8_rounds_40 ?_
        refine gf_7_1 C ho13 k_74 dX8_rounds_43 ?_
        refine j_if_ne (tgt := 56) C dX8_rounds_46 (by decide) (fun hc => ?_) (fun hc => ?_)
        · have hw := hw.1 hc
          refine j_aload_n C dX8_rounds_56 rfl 1 rfl ?_
          refine gf_8_2 C ho_v0 hr_g1 k_253 dX8_rounds_57 ?_
          refine j_aload C dX8_rounds_60 0 rfl ?_
          refine j_iload_n C dX8_rounds_62 rfl 3 rfl ?_
          refine j_iload_n C dX8_rounds_63 rfl 4 rfl ?_
          refine j_cVI (As := [.ref y3, .int v2, .int v3]) (st := []) C (X5_run_ok κ.2.1 G D9 g1 y3 v2 v3 _ hw) ho_g1 rfl k_698 mv_X5_run ⟨by decide, by decide⟩ ⟨rfl, rfl⟩ rfl rfl (Nat.le_of_ble_eq_true rfl) ⟨Nat.zero_le _, Nat.zero_le _⟩ dX8_rounds_64 (fun r14 D15 hw => ?_)
          refine j_if_eq (tgt := 85) C dX8_rounds_67 (by decide) (fun hc => ?_) (fun hc => ?_)
          · have hw := hw.1 hc
            refine j_aload_n C dX8_rounds_85 rfl 1 rfl ?_
            refine j_bipush (v := 6) C dX8_rounds_86 (by decide) ?_
            refine j_cVI (As := [.int 6]) (st := []) C (X8_giveNone_ok κ.2.1 G D15 v0 6 _ hw) ho_v0 rfl k_349 mv_X8_giveNone ⟨by decide, by decide⟩ ⟨rfl, rfl⟩ rfl rfl (Nat.le_of_ble_eq_true rfl) ⟨Nat.zero_le _, Nat.zero_le _⟩ dX8_rounds_88 (fun r16 D17 hw => ?_)
            exact J.sub (X8_rounds_j91_ok C K ho_v0 hr_g1 ho_g1 r16 D17 hw) [] rfl
          · have hw := hw.2 hc
            refine j_aload_n C dX8_rounds_70 rfl 1 rfl ?_
            refine j_aload C dX8_rounds_71 0 rfl ?_
            obtain ⟨y18, hr19, ho20, hw⟩ := hw
            refine gf_3_2 C ho10 hr19 k_90 dX8_rounds_73 ?_
            refine gf_7_1 C ho20 k_74 dX8_rounds_76 ?_
            refine j_cVI (As := [.int (D15.1 y18 1)]) (st := []) C (X8_give_ok κ.2.1 G D15 v0 (D15.1 y18 1) _ hw) ho_v0 rfl k_354 mv_X8_give ⟨by decide, by decide⟩ ⟨rfl, rfl⟩ rfl rfl (Nat.le_of_ble_eq_true rfl) ⟨Nat.zero_le _, Nat.zero_le _⟩ dX8_rounds_79 (fun r21 D22 hw => ?_)
            refine j_goto (tgt := 91) C dX8_rounds_82 (by decide) ?_
            exact J.sub (X8_rounds_j91_ok C K ho_v0 hr_g1 ho_g1 r21 D22 hw) [] rfl
        · have hw := hw.2 hc
          refine j_aload_n C dX8_rounds_49 rfl 1 rfl ?_
          refine j_bipush (v := 8) C dX8_rounds_50 (by decide) ?_
          refine j_cVI (As := [.int 8]) (st := []) C (X8_giveNone_ok κ.2.1 G D9 v0 8 _ hw) ho_v0 rfl k_349 mv_X8_giveNone ⟨by decide, by decide⟩ ⟨rfl, rfl⟩ rfl rfl (Nat.le_of_ble_eq_true rfl) ⟨Nat.zero_le _, Nat.zero_le _⟩ dX8_rounds_52 (fun r23 D24 hw => ?_)
          exact K _ _ _ _ dX8_rounds_55 rfl hw
      · have hw := hw.2 hc
        exact J.sub (X8_rounds_j32_ok C K ho_v0 hr_g1 ho_g1 D9 hw) [1] rfl
  · have hw := hw.1 hc
    refine j_aload_n C dX8_rounds_12 rfl 1 rfl ?_
    refine j_iconst (v := 1) C dX8_rounds_13 (by decide) ?_
    refine j_cVI (As := [.int 1]) (st := []) C (X8_giveNone_ok κ.2.1 G D2 v0 1 _ hw) ho_v0 rfl k_349 mv_X8_giveNone ⟨by decide, by decide⟩ ⟨rfl, rfl⟩ rfl rfl (Nat.le_of_ble_eq_true rfl) ⟨Nat.zero_le _, Nat.zero_le _⟩ dX8_rounds_14 (fun r4 D5 hw => ?_)
    exact K _ _ _ _ dX8_rounds_17 rfl hw
/-! X8_season -/
def X8_season_j28 (G : Shp) (post : Int32 → Dat → Prop) (v0 : Nat) (v1 : Int32) (v2 : Int32) (g1 : Nat) (g2 : Nat) (D : Dat) : Prop := X8_giveNone_wp G D v0 5 (fun r1 D2 => post r1 D2)
set_option maxRecDepth 100000 in
set_option maxHeartbeats 4000000 in
theorem X8_season_j28_ok {κ : Ctx} {G : Shp} {post : Int32 → Dat → Prop} {v0 : Nat} {v1 : Int32} {v2 : Int32} {g1 : Nat} {g2 : Nat} (C : Cx κ cX8_season RX8 (rmN 7) 4) (K : RtI κ cX8_season .int G post) (ho_v0 : isO G v0 8) (hr_g1 : G.2.2.2 v0 1 = some g1) (ho_g1 : isO G g1 2) (hr_g2 : G.2.2.2 v0 5 = some g2) (ho_g2 : isO G g2 0) (D : Dat) (hw : X8_season_j28 G post v0 v1 v2 g1 g2 D) : J κ 0 0 G D 28 [(0, .ref v0)] [] := by
  unfold X8_season_j28 at hw
  refine j_aload_n C dX8_season_28 rfl 0 rfl ?_
  refine j_iconst (v := 5) C dX8_season_29 (by decide) ?_
  refine j_cVI (As := [.int 5]) (st := []) C (X8_giveNone_ok κ.2.1 G D v0 5 _ hw) ho_v0 rfl k_349 mv_X8_giveNone ⟨by decide, by decide⟩ ⟨rfl, rfl⟩ rfl rfl (Nat.le_of_ble_eq_true rfl) ⟨Nat.zero_le _, Nat.zero_le _⟩ dX8_season_30 (fun r1 D2 hw => ?_)
  exact K _ _ _ _ dX8_season_33 rfl hw
def X8_season_wp (G : Shp) (D : Dat) (v0 : Nat) (v1 : Int32) (v2 : Int32) (post : Int32 → Dat → Prop) : Prop := isO G v0 8 ∧ ∃ g1, G.2.2.2 v0 1 = some g1 ∧ isO G g1 2 ∧ ∃ g2, G.2.2.2 v0 5 = some g2 ∧ isO G g2 0 ∧ X8_rowOf_wp G D v0 v1 (fun r1 D2 => (r1 = none → X8_giveNone_wp G D2 v0 1 (fun r4 D5 => post r4 D5)) ∧ (∀ y3, r1 = some y3 → ((v2 < 0 → X8_season_j28 G post v0 v1 v2 g1 g2 D2) ∧ (¬ (v2 < 0) → (isO G y3 3 ∧ ((v2 < (D2.1 y3 7) → X2_find_wp G D2 g1 y3 (-1) (fun r7 D8 => ((¬ r7 = 0 → X2_seasonOf_wp G D8 g1 v2 g2 (fun D10 => X8_tell_wp G D10 v0 (D10.1 g1 10) (fun r11 D12 => post r11 D12))) ∧ (r7 = 0 → X8_giveNone_wp G D8 v0 6 (fun r13 D14 => post r13 D14))))) ∧ (¬ (v2 < (D2.1 y3 7)) → X8_season_j28 G post v0 v1 v2 g1 g2 D2)))))))
set_option maxRecDepth 100000 in
set_option maxHeartbeats 4000000 in
theorem X8_season_ok (l : Launch) (G : Shp) (D : Dat) (v0 : Nat) (v1 : Int32) (v2 : Int32) (post : Int32 → Dat → Prop) (hw : X8_season_wp G D v0 v1 v2 post) : CtI l yX8_season cX8_season 4 .int (rmN 7) [.ref v0, .int v1, .int v2] G D post := by
  obtain ⟨ho_v0, g1, hr_g1, ho_g1, g2, hr_g2, ho_g2, hw⟩ := hw
  refine ctI_of (by decide) rfl (Nat.le_of_ble_eq_true rfl) ?_
  intro κ hκ C K
  subst hκ
  have C : Cx κ cX8_season RX8 (rmN 7) 4 := C
  refine j_aload_n C dX8_season_0 rfl 0 rfl ?_
  refine j_iload_n C dX8_season_1 rfl 1 rfl ?_
  refine j_cVQ (As := [.int v1]) (st := []) C (X8_rowOf_ok κ.2.1 G D v0 v1 _ hw) ho_v0 rfl k_299 mv_X8_rowOf ⟨by decide, by decide⟩ ⟨rfl, rfl⟩ rfl rfl (Nat.le_of_ble_eq_true rfl) ⟨Nat.zero_le _, Nat.zero_le _⟩ dX8_season_2 (fun r1 D2 hw => ?_)
  refine j_astore_nO C dX8_season_5 rfl (by decide) rfl ?_
  refine j_aload_nO C dX8_season_6 rfl 0 rfl ?_
  refine j_ifnonnull (tgt := 16) C dX8_season_7 (by decide) (fun y3 hc => ?_) (fun hc => ?_)
  · replace hw := hw.2 y3 hc
    subst hc
    show J κ 0 0 G D2 16 [(3, .ref y3), (0, .ref v0), (1, .int v1), (2, .int v2)] []
    refine j_iload_n C dX8_season_16 rfl 3 rfl ?_
    refine j_if_lt (tgt := 28) C dX8_season_17 (by decide) (fun hc => ?_) (fun hc => ?_)
    · have hw := hw.1 hc
      exact J.sub (X8_season_j28_ok C K ho_v0 hr_g1 ho_g1 hr_g2 ho_g2 D2 hw) [1] rfl
    · have hw := hw.2 hc
      refine j_iload_n C dX8_season_20 rfl 3 rfl ?_
      refine j_aload_n C dX8_season_21 rfl 0 rfl ?_
      obtain ⟨ho6, hw⟩ := hw
      refine gf_3_7 C ho6 k_104 dX8_season_22 ?_
      refine j_icmp_lt (tgt := 34) C dX8_season_25 (by decide) (fun hc => ?_) (fun hc => ?_)
      · have hw := hw.1 hc
        refine j_aload_n C dX8_season_34 rfl 1 rfl ?_
        refine gf_8_1 C ho_v0 hr_g1 k_252 dX8_season_35 ?_
        refine j_aload_n C dX8_season_38 rfl 0 rfl ?_
        refine j_iconst (v := (-1)) C dX8_season_39 (by decide) ?_
        refine j_cVI (As := [.ref y3, .int (-1)]) (st := []) C (X2_find_ok κ.2.1 G D2 g1 y3 (-1) _ hw) ho_g1 rfl k_420 mv_X2_find ⟨by decide, by decide⟩ ⟨rfl, rfl⟩ rfl rfl (Nat.le_of_ble_eq_true rfl) ⟨Nat.zero_le _, Nat.zero_le _⟩ dX8_season_40 (fun r7 D8 hw => ?_)
        refine j_if_ne (tgt := 53) C dX8_season_43 (by decide) (fun hc => ?_) (fun hc => ?_)
        · have hw := hw.1 hc
          refine j_aload_n C dX8_season_53 rfl 1 rfl ?_
          refine gf_8_1 C ho_v0 hr_g1 k_252 dX8_season_54 ?_
          refine j_iload_n C dX8_season_57 rfl 3 rfl ?_
          refine j_aload_n C dX8_season_58 rfl 1 rfl ?_
          refine gf_8_5 C ho_v0 hr_g2 k_256 dX8_season_59 ?_
          refine j_cVV (As := [.int v2, .ref g2]) (st := []) C (X2_seasonOf_ok κ.2.1 G D8 g1 v2 g2 _ hw) ho_g1 rfl k_633 mv_X2_seasonOf ⟨by decide, by decide⟩ ⟨rfl, rfl⟩ rfl rfl (Nat.le_of_ble_eq_true rfl) ⟨Nat.zero_le _, Nat.zero_le _⟩ dX8_season_62 (fun D10 hw => ?_)
          refine j_aload_n C dX8_season_65 rfl 1 rfl ?_
          refine j_aload_n C dX8_season_66 rfl 1 rfl ?_
          refine gf_8_1 C ho_v0 hr_g1 k_252 dX8_season_67 ?_
          refine gf_2_10 C ho_g1 k_158 dX8_season_70 ?_
          refine j_cVI (As := [.int (D10.1 g1 10)]) (st := []) C (X8_tell_ok κ.2.1 G D10 v0 (D10.1 g1 10) _ hw) ho_v0 rfl k_546 mv_X8_tell ⟨by decide, by decide⟩ ⟨rfl, rfl⟩ rfl rfl (Nat.le_of_ble_eq_true rfl) ⟨Nat.zero_le _, Nat.zero_le _⟩ dX8_season_73 (fun r11 D12 hw => ?_)
          exact K _ _ _ _ dX8_season_76 rfl hw
        · have hw := hw.2 hc
          refine j_aload_n C dX8_season_46 rfl 1 rfl ?_
          refine j_bipush (v := 6) C dX8_season_47 (by decide) ?_
          refine j_cVI (As := [.int 6]) (st := []) C (X8_giveNone_ok κ.2.1 G D8 v0 6 _ hw) ho_v0 rfl k_349 mv_X8_giveNone ⟨by decide, by decide⟩ ⟨rfl, rfl⟩ rfl rfl (Nat.le_of_ble_eq_true rfl) ⟨Nat.zero_le _, Nat.zero_le _⟩ dX8_season_49 (fun r13 D14 hw => ?_)
          exact K _ _ _ _ dX8_season_52 rfl hw
      · have hw := hw.2 hc
        exact J.sub (X8_season_j28_ok C K ho_v0 hr_g1 ho_g1 hr_g2 ho_g2 D2 hw) [1] rfl
  · have hw := hw.1 hc
    refine j_aload_n C dX8_season_10 rfl 1 rfl ?_
    refine j_iconst (v := 1) C dX8_season_11 (by decide) ?_
    refine j_cVI (As := [.int 1]) (st := []) C (X8_giveNone_ok κ.2.1 G D2 v0 1 _ hw) ho_v0 rfl k_349 mv_X8_giveNone ⟨by decide, by decide⟩ ⟨rfl, rfl⟩ rfl rfl (Nat.le_of_ble_eq_true rfl) ⟨Nat.zero_le _, Nat.zero_le _⟩ dX8_season_12 (fun r4 D5 hw => ?_)
    exact K _ _ _ _ dX8_season_15 rfl hw
/-! X8_stepBy -/
def X8_stepBy_j31 (G : Shp) (post : Int32 → Dat → Prop) (v0 : Nat) (v1 : Int32) (v2 : Int32) (g1 : Nat) (g2 : Nat) (D : Dat) : Prop := X8_giveNone_wp G D v0 5 (fun r1 D2 => post r1 D2)
set_option maxRecDepth 100000 in
set_option maxHeartbeats 4000000 in
theorem X8_stepBy_j31_ok {κ : Ctx} {G : Shp} {post : Int32 → Dat → Prop} {v0 : Nat} {v1 : Int32} {v2 : Int32} {g1 : Nat} {g2 : Nat} (C : Cx κ cX8_stepBy RX8 (rmN 7) 4) (K : RtI κ cX8_stepBy .int G post) (ho_v0 : isO G v0 8) (hr_g1 : G.2.2.2 v0 1 = some g1) (ho_g1 : isO G g1 2) (hr_g2 : G.2.2.2 v0 5 = some g2) (ho_g2 : isO G g2 0) (D : Dat) (hw : X8_stepBy_j31 G post v0 v1 v2 g1 g2 D) : J κ 0 0 G D 31 [(0, .ref v0)] [] := by
  unfold X8_stepBy_j31 at hw
  refine j_aload_n C dX8_stepBy_31 rfl 0 rfl ?_
  refine j_iconst (v := 5) C dX8_stepBy_32 (by decide) ?_
  refine j_cVI (As := [.int 5]) (st := []) C (X8_giveNone_ok κ.2.1 G D v0 5 _ hw) ho_v0 rfl k_349 mv_X8_giveNone ⟨by decide, by decide⟩ ⟨rfl, rfl⟩ rfl rfl (Nat.le_of_ble_eq_true rfl) ⟨Nat.zero_le _, Nat.zero_le _⟩ dX8_stepBy_33 (fun r1 D2 hw => ?_)
  exact K _ _ _ _ dX8_stepBy_36 rfl hw
def X8_stepBy_wp (G : Shp) (D : Dat) (v0 : Nat) (v1 : Int32) (v2 : Int32) (post : Int32 → Dat → Prop) : Prop := isO G v0 8 ∧ ∃ g1, G.2.2.2 v0 1 = some g1 ∧ isO G g1 2 ∧ ∃ g2, G.2.2.2 v0 5 = some g2 ∧ isO G g2 0 ∧ X8_rowOf_wp G D v0 v1 (fun r1 D2 => (r1 = none → X8_giveNone_wp G D2 v0 1 (fun r4 D5 => post r4 D5)) ∧ (∀ y3, r1 = some y3 → ((v2 < 0 → X8_stepBy_j31 G post v0 v1 v2 g1 g2 D2) ∧ (¬ (v2 < 0) → (isO G y3 3 ∧ ∃ y7, G.2.2.2 y3 3 = some y7 ∧ isO G y7 7 ∧ ((v2 < (D2.1 y7 1) → X2_find_wp G D2 g1 y3 (-1) (fun r10 D11 => ((¬ r10 = 0 → X2_unknown_wp G D11 g1 ((D11.1 g1 12) + v2) g2 (fun D13 => X8_tell_wp G D13 v0 1 (fun r14 D15 => post r14 D15))) ∧ (r10 = 0 → X8_giveNone_wp G D11 v0 6 (fun r16 D17 => post r16 D17))))) ∧ (¬ (v2 < (D2.1 y7 1)) → X8_stepBy_j31 G post v0 v1 v2 g1 g2 D2)))))))
set_option maxRecDepth 100000 in
set_option maxHeartbeats 4000000 in
theorem X8_stepBy_ok (l : Launch) (G : Shp) (D : Dat) (v0 : Nat) (v1 : Int32) (v2 : Int32) (post : Int32 → Dat → Prop) (hw : X8_stepBy_wp G D v0 v1 v2 post) : CtI l yX8_stepBy cX8_stepBy 4 .int (rmN 7) [.ref v0, .int v1, .int v2] G D post := by
  obtain ⟨ho_v0, g1, hr_g1, ho_g1, g2, hr_g2, ho_g2, hw⟩ := hw
  refine ctI_of (by decide) rfl (Nat.le_of_ble_eq_true rfl) ?_
  intro κ hκ C K
  subst hκ
  have C : Cx κ cX8_stepBy RX8 (rmN 7) 4 := C
  refine j_aload_n C dX8_stepBy_0 rfl 0 rfl ?_
  refine j_iload_n C dX8_stepBy_1 rfl 1 rfl ?_
  refine j_cVQ (As := [.int v1]) (st := []) C (X8_rowOf_ok κ.2.1 G D v0 v1 _ hw) ho_v0 rfl k_299 mv_X8_rowOf ⟨by decide, by decide⟩ ⟨rfl, rfl⟩ rfl rfl (Nat.le_of_ble_eq_true rfl) ⟨Nat.zero_le _, Nat.zero_le _⟩ dX8_stepBy_2 (fun r1 D2 hw => ?_)
  refine j_astore_nO C dX8_stepBy_5 rfl (by decide) rfl ?_
  refine j_aload_nO C dX8_stepBy_6 rfl 0 rfl ?_
  refine j_ifnonnull (tgt := 16) C dX8_stepBy_7 (by decide) (fun y3 hc => ?_) (fun hc => ?_)
  · replace hw := hw.2 y3 hc
    subst hc
    show J κ 0 0 G D2 16 [(3, .ref y3), (0, .ref v0), (1, .int v1), (2, .int v2)] []
    refine j_iload_n C dX8_stepBy_16 rfl 3 rfl ?_
    refine j_if_lt (tgt := 31) C dX8_stepBy_17 (by decide) (fun hc => ?_) (fun hc => ?_)
    · have hw := hw.1 hc
      exact J.sub (X8_stepBy_j31_ok C K ho_v0 hr_g1 ho_g1 hr_g2 ho_g2 D2 hw) [1] rfl
    · have hw := hw.2 hc
      refine j_iload_n C dX8_stepBy_20 rfl 3 rfl ?_
      refine j_aload_n C dX8_stepBy_21 rfl 0 rfl ?_
      obtain ⟨ho6, hw⟩ := hw
      obtain ⟨y7, hr8, ho9, hw⟩ := hw
      refine gf_3_3 C ho6 hr8 k_93 dX8_stepBy_22 ?_
      refine gf_7_1 C ho9 k_74 dX8_stepBy_25 ?_
      refine j_icmp_lt (tgt := 37) C dX8_stepBy_28 (by decide) (fun hc => ?_) (fun hc => ?_)
      · have hw := hw.1 hc
        refine j_aload_n C dX8_stepBy_37 rfl 1 rfl ?_
        refine gf_8_1 C ho_v0 hr_g1 k_252 dX8_stepBy_38 ?_
        refine j_aload_n C dX8_stepBy_41 rfl 0 rfl ?_
        refine j_iconst (v := (-1)) C dX8_stepBy_42 (by decide) ?_
        refine j_cVI (As := [.ref y3, .int (-1)]) (st := []) C (X2_find_ok κ.2.1 G D2 g1 y3 (-1) _ hw) ho_g1 rfl k_420 mv_X2_find ⟨by decide, by decide⟩ ⟨rfl, rfl⟩ rfl rfl (Nat.le_of_ble_eq_true rfl) ⟨Nat.zero_le _, Nat.zero_le _⟩ dX8_stepBy_43 (fun r10 D11 hw => ?_)
        refine j_if_ne (tgt := 56) C dX8_stepBy_46 (by decide) (fun hc => ?_) (fun hc => ?_)
        · have hw := hw.1 hc
          refine j_aload_n C dX8_stepBy_56 rfl 1 rfl ?_
          refine gf_8_1 C ho_v0 hr_g1 k_252 dX8_stepBy_57 ?_
          refine j_aload_n C dX8_stepBy_60 rfl 1 rfl ?_
          refine gf_8_1 C ho_v0 hr_g1 k_252 dX8_stepBy_61 ?_
          refine gf_2_12 C ho_g1 k_161 dX8_stepBy_64 ?_
          refine j_iload_n C dX8_stepBy_67 rfl 3 rfl ?_
          refine j_iadd C dX8_stepBy_68 ?_
          refine j_aload_n C dX8_stepBy_69 rfl 1 rfl ?_
          refine gf_8_5 C ho_v0 hr_g2 k_256 dX8_stepBy_70 ?_
          refine j_cVV (As := [.int ((D11.1 g1 12) + v2), .ref g2]) (st := []) C (X2_unknown_ok κ.2.1 G D11 g1 ((D11.1 g1 12) + v2) g2 _ hw) ho_g1 rfl k_621 mv_X2_unknown ⟨by decide, by decide⟩ ⟨rfl, rfl⟩ rfl rfl (Nat.le_of_ble_eq_true rfl) ⟨Nat.zero_le _, Nat.zero_le _⟩ dX8_stepBy_73 (fun D13 hw => ?_)
          refine j_aload_n C dX8_stepBy_76 rfl 1 rfl ?_
          refine j_iconst (v := 1) C dX8_stepBy_77 (by decide) ?_
          refine j_cVI (As := [.int 1]) (st := []) C (X8_tell_ok κ.2.1 G D13 v0 1 _ hw) ho_v0 rfl k_546 mv_X8_tell ⟨by decide, by decide⟩ ⟨rfl, rfl⟩ rfl rfl (Nat.le_of_ble_eq_true rfl) ⟨Nat.zero_le _, Nat.zero_le _⟩ dX8_stepBy_78 (fun r14 D15 hw => ?_)
          exact K _ _ _ _ dX8_stepBy_81 rfl hw
        · have hw := hw.2 hc
          refine j_aload_n C dX8_stepBy_49 rfl 1 rfl ?_
          refine j_bipush (v := 6) C dX8_stepBy_50 (by decide) ?_
          refine j_cVI (As := [.int 6]) (st := []) C (X8_giveNone_ok κ.2.1 G D11 v0 6 _ hw) ho_v0 rfl k_349 mv_X8_giveNone ⟨by decide, by decide⟩ ⟨rfl, rfl⟩ rfl rfl (Nat.le_of_ble_eq_true rfl) ⟨Nat.zero_le _, Nat.zero_le _⟩ dX8_stepBy_52 (fun r16 D17 hw => ?_)
          exact K _ _ _ _ dX8_stepBy_55 rfl hw
      · have hw := hw.2 hc
        exact J.sub (X8_stepBy_j31_ok C K ho_v0 hr_g1 ho_g1 hr_g2 ho_g2 D2 hw) [1] rfl
  · have hw := hw.1 hc
    refine j_aload_n C dX8_stepBy_10 rfl 1 rfl ?_
    refine j_iconst (v := 1) C dX8_stepBy_11 (by decide) ?_
    refine j_cVI (As := [.int 1]) (st := []) C (X8_giveNone_ok κ.2.1 G D2 v0 1 _ hw) ho_v0 rfl k_349 mv_X8_giveNone ⟨by decide, by decide⟩ ⟨rfl, rfl⟩ rfl rfl (Nat.le_of_ble_eq_true rfl) ⟨Nat.zero_le _, Nat.zero_le _⟩ dX8_stepBy_12 (fun r4 D5 hw => ?_)
    exact K _ _ _ _ dX8_stepBy_15 rfl hw
/-! X9_rounds -/
def X9_rounds_j266 (G : Shp) (post : Int32 → Dat → Prop) (v0 : Nat) (v1 : Int32) (v2 : Int32) (v3 : Int32) (g1 : Nat) (g2 : Nat) (g3 : Nat) (k238 : Int32 → Int32 → Dat → Prop) (v7 : Int32) (s0 : Int32) (s1 : Int32) (D : Dat) : Prop := k238 (s1 + s0) (v7 + 1) D
set_option maxRecDepth 100000 in
set_option maxHeartbeats 4000000 in
theorem X9_rounds_j266_ok {κ : Ctx} {G : Shp} {post : Int32 → Dat → Prop} {v0 : Nat} {v1 : Int32} {v2 : Int32} {v3 : Int32} {g1 : Nat} {g2 : Nat} {g3 : Nat} (C : Cx κ cX9_rounds RX9 (rmN 7) 8) (K : RtI κ cX9_rounds .int G post) (ho_v0 : isO G v0 9) (hr_g1 : G.2.2.2 v0 15 = some g1) (ho_g1 : isO G g1 13) (hr_g2 : G.2.2.2 v0 27 = some g2) (ho_g2 : isO G g2 13) (hr_g3 : G.2.2.2 v0 16 = some g3) (ho_g3 : isO G g3 13) {k238 : Int32 → Int32 → Dat → Prop} (hk238 : ∀ (v6 : Int32) (v7 : Int32) (D : Dat), k238 v6 v7 D → J κ 0 0 G D 238 [(0, .ref v0), (1, .int v1), (6, .int v6), (7, .int v7)] []) (v7 : Int32) (s0 : Int32) (s1 : Int32) (D : Dat) (hw : X9_rounds_j266 G post v0 v1 v2 v3 g1 g2 g3 k238 v7 s0 s1 D) : J κ 0 0 G D 266 [(0, .ref v0), (1, .int v1), (7, .int v7)] [.int s0, .int s1] := by
  unfold X9_rounds_j266 at hw
  refine j_iadd C dX9_rounds_266 ?_
  refine j_istore C dX9_rounds_267 (by decide) rfl ?_
  refine j_iinc (v := v7 + 1) C dX9_rounds_269 3 rfl rfl (by decide) rfl ?_
  refine j_goto (tgt := 238) C dX9_rounds_272 (by decide) ?_
  exact J.sub (hk238 (s1 + s0) (v7 + 1) D hw) [2, 3, 1, 0] rfl
def X9_rounds_l238_b (G : Shp) (post : Int32 → Dat → Prop) (v0 : Nat) (v1 : Int32) (v2 : Int32) (v3 : Int32) (g1 : Nat) (g2 : Nat) (g3 : Nat) (rec : Int32 → Int32 → Dat → Prop) (v6 : Int32) (v7 : Int32) (D : Dat) : Prop := ((40 ≤ v7 → post v6 D) ∧ (¬ (40 ≤ v7) → X9_spot_wp G D v1 v7 (fun r1 D2 => (vp_in r1 (G.2.2.1 g3) ∧ (((D2.1 g3 r1.toNatClampNeg) = 0 → X9_rounds_j266 G post v0 v1 v2 v3 g1 g2 g3 rec v7 0 v6 D2) ∧ (¬ ((D2.1 g3 r1.toNatClampNeg) = 0) → X9_rounds_j266 G post v0 v1 v2 v3 g1 g2 g3 rec v7 1 v6 D2))))))
def X9_rounds_l238 (G : Shp) (post : Int32 → Dat → Prop) (v0 : Nat) (v1 : Int32) (v2 : Int32) (v3 : Int32) (g1 : Nat) (g2 : Nat) (g3 : Nat) : Nat → Int32 → Int32 → Dat → Prop
  | 0 => fun _ _ _ => False
  | n + 1 => X9_rounds_l238_b G post v0 v1 v2 v3 g1 g2 g3 (X9_rounds_l238 G post v0 v1 v2 v3 g1 g2 g3 n)
set_option maxRecDepth 100000 in
set_option maxHeartbeats 4000000 in
theorem X9_rounds_l238_ok {κ : Ctx} {G : Shp} {post : Int32 → Dat → Prop} {v0 : Nat} {v1 : Int32} {v2 : Int32} {v3 : Int32} {g1 : Nat} {g2 : Nat} {g3 : Nat} (C : Cx κ cX9_rounds RX9 (rmN 7) 8) (K : RtI κ cX9_rounds .int G post) (ho_v0 : isO G v0 9) (hr_g1 : G.2.2.2 v0 15 = some g1) (ho_g1 : isO G g1 13) (hr_g2 : G.2.2.2 v0 27 = some g2) (ho_g2 : isO G g2 13) (hr_g3 : G.2.2.2 v0 16 = some g3) (ho_g3 : isO G g3 13) : ∀ (n : Nat) (v6 : Int32) (v7 : Int32) (D : Dat), X9_rounds_l238 G post v0 v1 v2 v3 g1 g2 g3 n v6 v7 D → J κ 0 0 G D 238 [(0, .ref v0), (1, .int v1), (6, .int v6), (7, .int v7)] [] := by
  intro n
  induction n with
  | zero => intro v6 v7 D hw; exact hw.elim
  | succ n ih =>
    intro v6 v7 D hw
    have hw : X9_rounds_l238_b G post v0 v1 v2 v3 g1 g2 g3 (X9_rounds_l238 G post v0 v1 v2 v3 g1 g2 g3 n) v6 v7 D := hw
    unfold X9_rounds_l238_b at hw
    refine j_iload C dX9_rounds_238 3 rfl ?_
    refine j_bipush (v := 40) C dX9_rounds_240 (by decide) ?_
    refine j_icmp_ge (tgt := 275) C dX9_rounds_242 (by decide) (fun hc => ?_) (fun hc => ?_)
    · have hw := hw.1 hc
      refine j_iload C dX9_rounds_275 2 rfl ?_
      exact K _ _ _ _ dX9_rounds_277 rfl hw
    · have hw := hw.2 hc
      refine j_iload C dX9_rounds_245 2 rfl ?_
      refine j_aload_n C dX9_rounds_247 rfl 0 rfl ?_
      refine gf_9_16 C ho_v0 hr_g3 k_780 dX9_rounds_248 ?_
      refine j_iload_n C dX9_rounds_251 rfl 1 rfl ?_
      refine j_iload C dX9_rounds_252 3 rfl ?_
      refine j_cSI (As := [.int v1, .int v7]) (st := [.ref g3, .int v6]) C (X9_spot_ok κ.2.1 G D v1 v7 _ hw) k_882 ms_X9_spot ⟨by decide, by decide⟩ ⟨rfl, rfl⟩ rfl rfl (Nat.le_of_ble_eq_true rfl) ⟨Nat.zero_le _, Nat.zero_le _⟩ dX9_rounds_254 (fun r1 D2 hw => ?_)
      obtain ⟨hi3, hw⟩ := hw
      refine j_zald C ho_g3 hi3 dX9_rounds_257 ?_
      refine j_if_eq (tgt := 265) C dX9_rounds_258 (by decide) (fun hc => ?_) (fun hc => ?_)
      · have hw := hw.1 hc
        refine j_iconst (v := 0) C dX9_rounds_265 (by decide) ?_
        exact J.sub (X9_rounds_j266_ok C K ho_v0 hr_g1 ho_g1 hr_g2 ho_g2 hr_g3 ho_g3 ih v7 0 v6 D2 hw) [0, 1, 3] rfl
      · have hw := hw.2 hc
        refine j_iconst (v := 1) C dX9_rounds_261 (by decide) ?_
        refine j_goto (tgt := 266) C dX9_rounds_262 (by decide) ?_
        exact J.sub (X9_rounds_j266_ok C K ho_v0 hr_g1 ho_g1 hr_g2 ho_g2 hr_g3 ho_g3 ih v7 1 v6 D2 hw) [0, 1, 3] rfl
def X9_rounds_j227 (G : Shp) (post : Int32 → Dat → Prop) (v0 : Nat) (v1 : Int32) (v2 : Int32) (v3 : Int32) (g1 : Nat) (g2 : Nat) (g3 : Nat) (D : Dat) : Prop := ∃ n, X9_rounds_l238 G post v0 v1 v2 v3 g1 g2 g3 n 0 0 (dI D v0 0 0)
set_option maxRecDepth 100000 in
set_option maxHeartbeats 4000000 in
theorem X9_rounds_j227_ok {κ : Ctx} {G : Shp} {post : Int32 → Dat → Prop} {v0 : Nat} {v1 : Int32} {v2 : Int32} {v3 : Int32} {g1 : Nat} {g2 : Nat} {g3 : Nat} (C : Cx κ cX9_rounds RX9 (rmN 7) 8) (K : RtI κ cX9_rounds .int G post) (ho_v0 : isO G v0 9) (hr_g1 : G.2.2.2 v0 15 = some g1) (ho_g1 : isO G g1 13) (hr_g2 : G.2.2.2 v0 27 = some g2) (ho_g2 : isO G g2 13) (hr_g3 : G.2.2.2 v0 16 = some g3) (ho_g3 : isO G g3 13) (D : Dat) (hw : X9_rounds_j227 G post v0 v1 v2 v3 g1 g2 g3 D) : J κ 0 0 G D 227 [(0, .ref v0), (1, .int v1)] [] := by
  unfold X9_rounds_j227 at hw
  refine j_aload_n C dX9_rounds_227 rfl 0 rfl ?_
  refine j_iconst (v := 0) C dX9_rounds_228 (by decide) ?_
  refine pf_9_0 C ho_v0 k_764 dX9_rounds_229 ?_
  refine j_iconst (v := 0) C dX9_rounds_232 (by decide) ?_
  refine j_istore C dX9_rounds_233 (by decide) rfl ?_
  refine j_iconst (v := 0) C dX9_rounds_235 (by decide) ?_
  refine j_istore C dX9_rounds_236 (by decide) rfl ?_
  obtain ⟨n, hw⟩ := hw
  exact J.sub (X9_rounds_l238_ok C K ho_v0 hr_g1 ho_g1 hr_g2 ho_g2 hr_g3 ho_g3 n 0 0 (dI D v0 0 0) hw) [2, 3, 1, 0] rfl
def X9_rounds_l174_b (G : Shp) (post : Int32 → Dat → Prop) (v0 : Nat) (v1 : Int32) (v2 : Int32) (v3 : Int32) (g1 : Nat) (g2 : Nat) (g3 : Nat) (rec : Int32 → Dat → Prop) (v7 : Int32) (D : Dat) : Prop := ((40 ≤ v7 → X9_refuse_wp G D v0 6 (fun r1 D2 => post r1 D2)) ∧ (¬ (40 ≤ v7) → X9_spot_wp G D v1 v7 (fun r3 D4 => (vp_in v7 (G.2.2.1 g2) ∧ vp_in r3 (G.2.2.1 g3) ∧ rec (v7 + 1) (dI D4 g3 r3.toNatClampNeg (vp_nar .boolean (D4.1 g2 v7.toNatClampNeg)))))))
def X9_rounds_l174 (G : Shp) (post : Int32 → Dat → Prop) (v0 : Nat) (v1 : Int32) (v2 : Int32) (v3 : Int32) (g1 : Nat) (g2 : Nat) (g3 : Nat) : Nat → Int32 → Dat → Prop
  | 0 => fun _ _ => False
  | n + 1 => X9_rounds_l174_b G post v0 v1 v2 v3 g1 g2 g3 (X9_rounds_l174 G post v0 v1 v2 v3 g1 g2 g3 n)
set_option maxRecDepth 100000 in
set_option maxHeartbeats 4000000 in
theorem X9_rounds_l174_ok {κ : Ctx} {G : Shp} {post : Int32 → Dat → Prop} {v0 : Nat} {v1 : Int32} {v2 : Int32} {v3 : Int32} {g1 : Nat} {g2 : Nat} {g3 : Nat} (C : Cx κ cX9_rounds RX9 (rmN 7) 8) (K : RtI κ cX9_rounds .int G post) (ho_v0 : isO G v0 9) (hr_g1 : G.2.2.2 v0 15 = some g1) (ho_g1 : isO G g1 13) (hr_g2 : G.2.2.2 v0 27 = some g2) (ho_g2 : isO G g2 13) (hr_g3 : G.2.2.2 v0 16 = some g3) (ho_g3 : isO G g3 13) : ∀ (n : Nat) (v7 : Int32) (D : Dat), X9_rounds_l174 G post v0 v1 v2 v3 g1 g2 g3 n v7 D → J κ 0 0 G D 174 [(0, .ref v0), (1, .int v1), (7, .int v7)] [] := by
  intro n
  induction n with
  | zero => intro v7 D hw; exact hw.elim
  | succ n ih =>
    intro v7 D hw
    have hw : X9_rounds_l174_b G post v0 v1 v2 v3 g1 g2 g3 (X9_rounds_l174 G post v0 v1 v2 v3 g1 g2 g3 n) v7 D := hw
    unfold X9_rounds_l174_b at hw
    refine j_iload C dX9_rounds_174 2 rfl ?_
    refine j_bipush (v := 40) C dX9_rounds_176 (by decide) ?_
    refine j_icmp_ge (tgt := 205) C dX9_rounds_178 (by decide) (fun hc => ?_) (fun hc => ?_)
    · have hw := hw.1 hc
      refine j_aload_n C dX9_rounds_205 rfl 0 rfl ?_
      refine j_bipush (v := 6) C dX9_rounds_206 (by decide) ?_
      refine j_cVI (As := [.int 6]) (st := []) C (X9_refuse_ok κ.2.1 G D v0 6 _ hw) ho_v0 rfl k_897 mv_X9_refuse ⟨by decide, by decide⟩ ⟨rfl, rfl⟩ rfl rfl (Nat.le_of_ble_eq_true rfl) ⟨Nat.zero_le _, Nat.zero_le _⟩ dX9_rounds_208 (fun r1 D2 hw => ?_)
      exact K _ _ _ _ dX9_rounds_211 rfl hw
    · have hw := hw.2 hc
      refine j_aload_n C dX9_rounds_181 rfl 0 rfl ?_
      refine gf_9_16 C ho_v0 hr_g3 k_780 dX9_rounds_182 ?_
      refine j_iload_n C dX9_rounds_185 rfl 1 rfl ?_
      refine j_iload C dX9_rounds_186 2 rfl ?_
      refine j_cSI (As := [.int v1, .int v7]) (st := [.ref g3]) C (X9_spot_ok κ.2.1 G D v1 v7 _ hw) k_882 ms_X9_spot ⟨by decide, by decide⟩ ⟨rfl, rfl⟩ rfl rfl (Nat.le_of_ble_eq_true rfl) ⟨Nat.zero_le _, Nat.zero_le _⟩ dX9_rounds_188 (fun r3 D4 hw => ?_)
      refine j_aload_n C dX9_rounds_191 rfl 0 rfl ?_
      refine gf_9_27 C ho_v0 hr_g2 k_791 dX9_rounds_192 ?_
      refine j_iload C dX9_rounds_195 2 rfl ?_
      obtain ⟨hi5, hw⟩ := hw
      refine j_zald C ho_g2 hi5 dX9_rounds_197 ?_
      obtain ⟨hi6, hw⟩ := hw
      refine j_zast C ho_g3 hi6 dX9_rounds_198 ?_
      refine j_iinc (v := v7 + 1) C dX9_rounds_199 2 rfl rfl (by decide) rfl ?_
      refine j_goto (tgt := 174) C dX9_rounds_202 (by decide) ?_
      exact J.sub (ih (v7 + 1) (dI D4 g3 r3.toNatClampNeg (vp_nar .boolean (D4.1 g2 v7.toNatClampNeg))) hw) [1, 2, 0] rfl
def X9_rounds_l152_b (G : Shp) (post : Int32 → Dat → Prop) (v0 : Nat) (v1 : Int32) (v2 : Int32) (v3 : Int32) (g1 : Nat) (g2 : Nat) (g3 : Nat) (rec : Int32 → Int32 → Dat → Prop) (v5 : Int32) (v6 : Int32) (D : Dat) : Prop := ((5 ≤ v6 → X9_rounds_j227 G post v0 v1 v2 v3 g1 g2 g3 D) ∧ (¬ (5 ≤ v6) → ((v5 = 0 → X9_rounds_j227 G post v0 v1 v2 v3 g1 g2 g3 D) ∧ (¬ (v5 = 0) → X9_solve_wp G D v0 v1 (fun r1 D2 => ((¬ r1 = 0 → X9_round_wp G D2 v0 v1 v2 v3 (fun r3 D4 => rec r3 (v6 + 1) D4)) ∧ (r1 = 0 → ∃ n, X9_rounds_l174 G post v0 v1 v2 v3 g1 g2 g3 n 0 D2)))))))
def X9_rounds_l152 (G : Shp) (post : Int32 → Dat → Prop) (v0 : Nat) (v1 : Int32) (v2 : Int32) (v3 : Int32) (g1 : Nat) (g2 : Nat) (g3 : Nat) : Nat → Int32 → Int32 → Dat → Prop
  | 0 => fun _ _ _ => False
  | n + 1 => X9_rounds_l152_b G post v0 v1 v2 v3 g1 g2 g3 (X9_rounds_l152 G post v0 v1 v2 v3 g1 g2 g3 n)
set_option maxRecDepth 100000 in
set_option maxHeartbeats 4000000 in
theorem X9_rounds_l152_ok {κ : Ctx} {G : Shp} {post : Int32 → Dat → Prop} {v0 : Nat} {v1 : Int32} {v2 : Int32} {v3 : Int32} {g1 : Nat} {g2 : Nat} {g3 : Nat} (C : Cx κ cX9_rounds RX9 (rmN 7) 8) (K : RtI κ cX9_rounds .int G post) (ho_v0 : isO G v0 9) (hr_g1 : G.2.2.2 v0 15 = some g1) (ho_g1 : isO G g1 13) (hr_g2 : G.2.2.2 v0 27 = some g2) (ho_g2 : isO G g2 13) (hr_g3 : G.2.2.2 v0 16 = some g3) (ho_g3 : isO G g3 13) : ∀ (n : Nat) (v5 : Int32) (v6 : Int32) (D : Dat), X9_rounds_l152 G post v0 v1 v2 v3 g1 g2 g3 n v5 v6 D → J κ 0 0 G D 152 [(0, .ref v0), (1, .int v1), (2, .int v2), (3, .int v3), (5, .int v5), (6, .int v6)] [] := by
  intro n
  induction n with
  | zero => intro v5 v6 D hw; exact hw.elim
  | succ n ih =>
    intro v5 v6 D hw
    have hw : X9_rounds_l152_b G post v0 v1 v2 v3 g1 g2 g3 (X9_rounds_l152 G post v0 v1 v2 v3 g1 g2 g3 n) v5 v6 D := hw
    unfold X9_rounds_l152_b at hw
    refine j_iload C dX9_rounds_152 5 rfl ?_
    refine j_iconst (v := 5) C dX9_rounds_154 (by decide) ?_
    refine j_icmp_ge (tgt := 227) C dX9_rounds_155 (by decide) (fun hc => ?_) (fun hc => ?_)
    · have hw := hw.1 hc
      exact J.sub (X9_rounds_j227_ok C K ho_v0 hr_g1 ho_g1 hr_g2 ho_g2 hr_g3 ho_g3 D hw) [0, 1] rfl
    · have hw := hw.2 hc
      refine j_iload C dX9_rounds_158 4 rfl ?_
      refine j_if_eq (tgt := 227) C dX9_rounds_160 (by decide) (fun hc => ?_) (fun hc => ?_)
      · have hw := hw.1 hc
        exact J.sub (X9_rounds_j227_ok C K ho_v0 hr_g1 ho_g1 hr_g2 ho_g2 hr_g3 ho_g3 D hw) [0, 1] rfl
      · have hw := hw.2 hc
        refine j_aload_n C dX9_rounds_163 rfl 0 rfl ?_
        refine j_iload_n C dX9_rounds_164 rfl 1 rfl ?_
        refine j_cVI (As := [.int v1]) (st := []) C (X9_solve_ok κ.2.1 G D v0 v1 _ hw) ho_v0 rfl k_957 mv_X9_solve ⟨by decide, by decide⟩ ⟨rfl, rfl⟩ rfl rfl (Nat.le_of_ble_eq_true rfl) ⟨Nat.zero_le _, Nat.zero_le _⟩ dX9_rounds_165 (fun r1 D2 hw => ?_)
        refine j_if_ne (tgt := 212) C dX9_rounds_168 (by decide) (fun hc => ?_) (fun hc => ?_)
        · have hw := hw.1 hc
          refine j_aload_n C dX9_rounds_212 rfl 0 rfl ?_
          refine j_iload_n C dX9_rounds_213 rfl 1 rfl ?_
          refine j_iload_n C dX9_rounds_214 rfl 2 rfl ?_
          refine j_iload_n C dX9_rounds_215 rfl 3 rfl ?_
          refine j_cVI (As := [.int v1, .int v2, .int v3]) (st := []) C (X9_round_ok κ.2.1 G D2 v0 v1 v2 v3 _ hw) ho_v0 rfl k_1116 mv_X9_round ⟨by decide, by decide⟩ ⟨rfl, rfl⟩ rfl rfl (Nat.le_of_ble_eq_true rfl) ⟨Nat.zero_le _, Nat.zero_le _⟩ dX9_rounds_216 (fun r3 D4 hw => ?_)
          refine j_istore C dX9_rounds_219 (by decide) rfl ?_
          refine j_iinc (v := v6 + 1) C dX9_rounds_221 5 rfl rfl (by decide) rfl ?_
          refine j_goto (tgt := 152) C dX9_rounds_224 (by decide) ?_
          exact J.sub (ih r3 (v6 + 1) D4 hw) [2, 3, 4, 5, 1, 0] rfl
        · have hw := hw.2 hc
          refine j_iconst (v := 0) C dX9_rounds_171 (by decide) ?_
          refine j_istore C dX9_rounds_172 (by decide) rfl ?_
          obtain ⟨n, hw⟩ := hw
          exact J.sub (X9_rounds_l174_ok C K ho_v0 hr_g1 ho_g1 hr_g2 ho_g2 hr_g3 ho_g3 n 0 D2 hw) [1, 2, 0] rfl
def X9_rounds_l103_b (G : Shp) (post : Int32 → Dat → Prop) (v0 : Nat) (v1 : Int32) (v2 : Int32) (v3 : Int32) (g1 : Nat) (g2 : Nat) (g3 : Nat) (rec : Int32 → Dat → Prop) (v5 : Int32) (D : Dat) : Prop := ((40 ≤ v5 → ∃ n, X9_rounds_l152 G post v0 v1 v2 v3 g1 g2 g3 n 1 0 D) ∧ (¬ (40 ≤ v5) → X9_spot_wp G D v1 v5 (fun r1 D2 => (vp_in r1 (G.2.2.1 g3) ∧ vp_in v5 (G.2.2.1 g2) ∧ X9_spot_wp G (dI D2 g2 v5.toNatClampNeg (vp_nar .boolean (D2.1 g3 r1.toNatClampNeg))) v1 v5 (fun r5 D6 => (vp_in r5 (G.2.2.1 g3) ∧ rec (v5 + 1) (dI D6 g3 r5.toNatClampNeg (vp_nar .boolean 0))))))))
def X9_rounds_l103 (G : Shp) (post : Int32 → Dat → Prop) (v0 : Nat) (v1 : Int32) (v2 : Int32) (v3 : Int32) (g1 : Nat) (g2 : Nat) (g3 : Nat) : Nat → Int32 → Dat → Prop
  | 0 => fun _ _ => False
  | n + 1 => X9_rounds_l103_b G post v0 v1 v2 v3 g1 g2 g3 (X9_rounds_l103 G post v0 v1 v2 v3 g1 g2 g3 n)
set_option maxRecDepth 100000 in
set_option maxHeartbeats 4000000 in
theorem X9_rounds_l103_ok {κ : Ctx} {G : Shp} {post : Int32 → Dat → Prop} {v0 : Nat} {v1 : Int32} {v2 : Int32} {v3 : Int32} {g1 : Nat} {g2 : Nat} {g3 : Nat} (C : Cx κ cX9_rounds RX9 (rmN 7) 8) (K : RtI κ cX9_rounds .int G post) (ho_v0 : isO G v0 9) (hr_g1 : G.2.2.2 v0 15 = some g1) (ho_g1 : isO G g1 13) (hr_g2 : G.2.2.2 v0 27 = some g2) (ho_g2 : isO G g2 13) (hr_g3 : G.2.2.2 v0 16 = some g3) (ho_g3 : isO G g3 13) : ∀ (n : Nat) (v5 : Int32) (D : Dat), X9_rounds_l103 G post v0 v1 v2 v3 g1 g2 g3 n v5 D → J κ 0 0 G D 103 [(0, .ref v0), (1, .int v1), (2, .int v2), (3, .int v3), (5, .int v5)] [] := by
  intro n
  induction n with
  | zero => intro v5 D hw; exact hw.elim
  | succ n ih =>
    intro v5 D hw
    have hw : X9_rounds_l103_b G post v0 v1 v2 v3 g1 g2 g3 (X9_rounds_l103 G post v0 v1 v2 v3 g1 g2 g3 n) v5 D := hw
    unfold X9_rounds_l103_b at hw
    refine j_iload C dX9_rounds_103 4 rfl ?_
    refine j_bipush (v := 40) C dX9_rounds_105 (by decide) ?_
    refine j_icmp_ge (tgt := 146) C dX9_rounds_107 (by decide) (fun hc => ?_) (fun hc => ?_)
    · have hw := hw.1 hc
      refine j_iconst (v := 1) C dX9_rounds_146 (by decide) ?_
      refine j_istore C dX9_rounds_147 (by decide) rfl ?_
      refine j_iconst (v := 0) C dX9_rounds_149 (by decide) ?_
      refine j_istore C dX9_rounds_150 (by decide) rfl ?_
      obtain ⟨n, hw⟩ := hw
      exact J.sub (X9_rounds_l152_ok C K ho_v0 hr_g1 ho_g1 hr_g2 ho_g2 hr_g3 ho_g3 n 1 0 D hw) [2, 3, 4, 5, 1, 0] rfl
    · have hw := hw.2 hc
      refine j_aload_n C dX9_rounds_110 rfl 0 rfl ?_
      refine gf_9_27 C ho_v0 hr_g2 k_791 dX9_rounds_111 ?_
      refine j_iload C dX9_rounds_114 4 rfl ?_
      refine j_aload_n C dX9_rounds_116 rfl 0 rfl ?_
      refine gf_9_16 C ho_v0 hr_g3 k_780 dX9_rounds_117 ?_
      refine j_iload_n C dX9_rounds_120 rfl 1 rfl ?_
      refine j_iload C dX9_rounds_121 4 rfl ?_
      refine j_cSI (As := [.int v1, .int v5]) (st := [.ref g3, .int v5, .ref g2]) C (X9_spot_ok κ.2.1 G D v1 v5 _ hw) k_882 ms_X9_spot ⟨by decide, by decide⟩ ⟨rfl, rfl⟩ rfl rfl (Nat.le_of_ble_eq_true rfl) ⟨Nat.zero_le _, Nat.zero_le _⟩ dX9_rounds_123 (fun r1 D2 hw => ?_)
      obtain ⟨hi3, hw⟩ := hw
      refine j_zald C ho_g3 hi3 dX9_rounds_126 ?_
      obtain ⟨hi4, hw⟩ := hw
      refine j_zast C ho_g2 hi4 dX9_rounds_127 ?_
      refine j_aload_n C dX9_rounds_128 rfl 0 rfl ?_
      refine gf_9_16 C ho_v0 hr_g3 k_780 dX9_rounds_129 ?_
      refine j_iload_n C dX9_rounds_132 rfl 1 rfl ?_
      refine j_iload C dX9_rounds_133 4 rfl ?_
      refine j_cSI (As := [.int v1, .int v5]) (st := [.ref g3]) C (X9_spot_ok κ.2.1 G (dI D2 g2 v5.toNatClampNeg (vp_nar .boolean (D2.1 g3 r1.toNatClampNeg))) v1 v5 _ hw) k_882 ms_X9_spot ⟨by decide, by decide⟩ ⟨rfl, rfl⟩ rfl rfl (Nat.le_of_ble_eq_true rfl) ⟨Nat.zero_le _, Nat.zero_le _⟩ dX9_rounds_135 (fun r5 D6 hw => ?_)
      refine j_iconst (v := 0) C dX9_rounds_138 (by decide) ?_
      obtain ⟨hi7, hw⟩ := hw
      refine j_zast C ho_g3 hi7 dX9_rounds_139 ?_
      refine j_iinc (v := v5 + 1) C dX9_rounds_140 4 rfl rfl (by decide) rfl ?_
      refine j_goto (tgt := 103) C dX9_rounds_143 (by decide) ?_
      exact J.sub (ih (v5 + 1) (dI D6 g3 r5.toNatClampNeg (vp_nar .boolean 0)) hw) [1, 2, 3, 4, 0] rfl
def X9_rounds_j80 (G : Shp) (post : Int32 → Dat → Prop) (v0 : Nat) (v1 : Int32) (v2 : Int32) (v3 : Int32) (g1 : Nat) (g2 : Nat) (g3 : Nat) (k49 : Int32 → Int32 → Dat → Prop) (v5 : Int32) (s0 : Int32) (D : Dat) : Prop := k49 s0 (v5 + 1) D
set_option maxRecDepth 100000 in
set_option maxHeartbeats 4000000 in
theorem X9_rounds_j80_ok {κ : Ctx} {G : Shp} {post : Int32 → Dat → Prop} {v0 : Nat} {v1 : Int32} {v2 : Int32} {v3 : Int32} {g1 : Nat} {g2 : Nat} {g3 : Nat} (C : Cx κ cX9_rounds RX9 (rmN 7) 8) (K : RtI κ cX9_rounds .int G post) (ho_v0 : isO G v0 9) (hr_g1 : G.2.2.2 v0 15 = some g1) (ho_g1 : isO G g1 13) (hr_g2 : G.2.2.2 v0 27 = some g2) (ho_g2 : isO G g2 13) (hr_g3 : G.2.2.2 v0 16 = some g3) (ho_g3 : isO G g3 13) {k49 : Int32 → Int32 → Dat → Prop} (hk49 : ∀ (v4 : Int32) (v5 : Int32) (D : Dat), k49 v4 v5 D → J κ 0 0 G D 49 [(0, .ref v0), (1, .int v1), (2, .int v2), (3, .int v3), (4, .int v4), (5, .int v5)] []) (v5 : Int32) (s0 : Int32) (D : Dat) (hw : X9_rounds_j80 G post v0 v1 v2 v3 g1 g2 g3 k49 v5 s0 D) : J κ 0 0 G D 80 [(0, .ref v0), (1, .int v1), (2, .int v2), (3, .int v3), (5, .int v5)] [.int s0] := by
  unfold X9_rounds_j80 at hw
  refine j_istore C dX9_rounds_80 (by decide) rfl ?_
  refine j_iinc (v := v5 + 1) C dX9_rounds_82 5 rfl rfl (by decide) rfl ?_
  refine j_goto (tgt := 49) C dX9_rounds_85 (by decide) ?_
  exact J.sub (hk49 s0 (v5 + 1) D hw) [2, 3, 4, 5, 1, 0] rfl
def X9_rounds_j75 (G : Shp) (post : Int32 → Dat → Prop) (v0 : Nat) (v1 : Int32) (v2 : Int32) (v3 : Int32) (g1 : Nat) (g2 : Nat) (g3 : Nat) (k49 : Int32 → Int32 → Dat → Prop) (v5 : Int32) (D : Dat) : Prop := X9_rounds_j80 G post v0 v1 v2 v3 g1 g2 g3 k49 v5 1 D
set_option maxRecDepth 100000 in
set_option maxHeartbeats 4000000 in
theorem X9_rounds_j75_ok {κ : Ctx} {G : Shp} {post : Int32 → Dat → Prop} {v0 : Nat} {v1 : Int32} {v2 : Int32} {v3 : Int32} {g1 : Nat} {g2 : Nat} {g3 : Nat} (C : Cx κ cX9_rounds RX9 (rmN 7) 8) (K : RtI κ cX9_rounds .int G post) (ho_v0 : isO G v0 9) (hr_g1 : G.2.2.2 v0 15 = some g1) (ho_g1 : isO G g1 13) (hr_g2 : G.2.2.2 v0 27 = some g2) (ho_g2 : isO G g2 13) (hr_g3 : G.2.2.2 v0 16 = some g3) (ho_g3 : isO G g3 13) {k49 : Int32 → Int32 → Dat → Prop} (hk49 : ∀ (v4 : Int32) (v5 : Int32) (D : Dat), k49 v4 v5 D → J κ 0 0 G D 49 [(0, .ref v0), (1, .int v1), (2, .int v2), (3, .int v3), (4, .int v4), (5, .int v5)] []) (v5 : Int32) (D : Dat) (hw : X9_rounds_j75 G post v0 v1 v2 v3 g1 g2 g3 k49 v5 D) : J κ 0 0 G D 75 [(0, .ref v0), (1, .int v1), (2, .int v2), (3, .int v3), (5, .int v5)] [] := by
  unfold X9_rounds_j75 at hw
  refine j_iconst (v := 1) C dX9_rounds_75 (by decide) ?_
  refine j_goto (tgt := 80) C dX9_rounds_76 (by decide) ?_
  exact J.sub (X9_rounds_j80_ok C K ho_v0 hr_g1 ho_g1 hr_g2 ho_g2 hr_g3 ho_g3 hk49 v5 1 D hw) [0, 1, 2, 3, 4] rfl
def X9_rounds_l49_b (G : Shp) (post : Int32 → Dat → Prop) (v0 : Nat) (v1 : Int32) (v2 : Int32) (v3 : Int32) (g1 : Nat) (g2 : Nat) (g3 : Nat) (rec : Int32 → Int32 → Dat → Prop) (v4 : Int32) (v5 : Int32) (D : Dat) : Prop := ((40 ≤ v5 → ((¬ v4 = 0 → ∃ n, X9_rounds_l103 G post v0 v1 v2 v3 g1 g2 g3 n 0 D) ∧ (v4 = 0 → X9_refuse_wp G D v0 8 (fun r1 D2 => post r1 D2)))) ∧ (¬ (40 ≤ v5) → ((¬ v4 = 0 → X9_rounds_j75 G post v0 v1 v2 v3 g1 g2 g3 rec v5 D) ∧ (v4 = 0 → X9_spot_wp G D v1 v5 (fun r3 D4 => (vp_in r3 (G.2.2.1 g1) ∧ (((D4.1 g1 r3.toNatClampNeg) = 0 → X9_rounds_j80 G post v0 v1 v2 v3 g1 g2 g3 rec v5 0 D4) ∧ (¬ ((D4.1 g1 r3.toNatClampNeg) = 0) → X9_rounds_j75 G post v0 v1 v2 v3 g1 g2 g3 rec v5 D4))))))))
def X9_rounds_l49 (G : Shp) (post : Int32 → Dat → Prop) (v0 : Nat) (v1 : Int32) (v2 : Int32) (v3 : Int32) (g1 : Nat) (g2 : Nat) (g3 : Nat) : Nat → Int32 → Int32 → Dat → Prop
  | 0 => fun _ _ _ => False
  | n + 1 => X9_rounds_l49_b G post v0 v1 v2 v3 g1 g2 g3 (X9_rounds_l49 G post v0 v1 v2 v3 g1 g2 g3 n)
set_option maxRecDepth 100000 in
set_option maxHeartbeats 4000000 in
theorem X9_rounds_l49_ok {κ : Ctx} {G : Shp} {post : Int32 → Dat → Prop} {v0 : Nat} {v1 : Int32} {v2 : Int32} {v3 : Int32} {g1 : Nat} {g2 : Nat} {g3 : Nat} (C : Cx κ cX9_rounds RX9 (rmN 7) 8) (K : RtI κ cX9_rounds .int G post) (ho_v0 : isO G v0 9) (hr_g1 : G.2.2.2 v0 15 = some g1) (ho_g1 : isO G g1 13) (hr_g2 : G.2.2.2 v0 27 = some g2) (ho_g2 : isO G g2 13) (hr_g3 : G.2.2.2 v0 16 = some g3) (ho_g3 : isO G g3 13) : ∀ (n : Nat) (v4 : Int32) (v5 : Int32) (D : Dat), X9_rounds_l49 G post v0 v1 v2 v3 g1 g2 g3 n v4 v5 D → J κ 0 0 G D 49 [(0, .ref v0), (1, .int v1), (2, .int v2), (3, .int v3), (4, .int v4), (5, .int v5)] [] := by
  intro n
  induction n with
  | zero => intro v4 v5 D hw; exact hw.elim
  | succ n ih =>
    intro v4 v5 D hw
    have hw : X9_rounds_l49_b G post v0 v1 v2 v3 g1 g2 g3 (X9_rounds_l49 G post v0 v1 v2 v3 g1 g2 g3 n) v4 v5 D := hw
    unfold X9_rounds_l49_b at hw
    refine j_iload C dX9_rounds_49 5 rfl ?_
    refine j_bipush (v := 40) C dX9_rounds_51 (by decide) ?_
    refine j_icmp_ge (tgt := 88) C dX9_rounds_53 (by decide) (fun hc => ?_) (fun hc => ?_)
    · have hw := hw.1 hc
      refine j_iload C dX9_rounds_88 4 rfl ?_
      refine j_if_ne (tgt := 100) C dX9_rounds_90 (by decide) (fun hc => ?_) (fun hc => ?_)
      · have hw := hw.1 hc
        refine j_iconst (v := 0) C dX9_rounds_100 (by decide) ?_
        refine j_istore C dX9_rounds_101 (by decide) rfl ?_
        obtain ⟨n, hw⟩ := hw
        exact J.sub (X9_rounds_l103_ok C K ho_v0 hr_g1 ho_g1 hr_g2 ho_g2 hr_g3 ho_g3 n 0 D hw) [1, 2, 3, 4, 0] rfl
      · have hw := hw.2 hc
        refine j_aload_n C dX9_rounds_93 rfl 0 rfl ?_
        refine j_bipush (v := 8) C dX9_rounds_94 (by decide) ?_
        refine j_cVI (As := [.int 8]) (st := []) C (X9_refuse_ok κ.2.1 G D v0 8 _ hw) ho_v0 rfl k_897 mv_X9_refuse ⟨by decide, by decide⟩ ⟨rfl, rfl⟩ rfl rfl (Nat.le_of_ble_eq_true rfl) ⟨Nat.zero_le _, Nat.zero_le _⟩ dX9_rounds_96 (fun r1 D2 hw => ?_)
        exact K _ _ _ _ dX9_rounds_99 rfl hw
    · have hw := hw.2 hc
      refine j_iload C dX9_rounds_56 4 rfl ?_
      refine j_if_ne (tgt := 75) C dX9_rounds_58 (by decide) (fun hc => ?_) (fun hc => ?_)
      · have hw := hw.1 hc
        exact J.sub (X9_rounds_j75_ok C K ho_v0 hr_g1 ho_g1 hr_g2 ho_g2 hr_g3 ho_g3 ih v5 D hw) [0, 1, 2, 3, 5] rfl
      · have hw := hw.2 hc
        refine j_aload_n C dX9_rounds_61 rfl 0 rfl ?_
        refine gf_9_15 C ho_v0 hr_g1 k_779 dX9_rounds_62 ?_
        refine j_iload_n C dX9_rounds_65 rfl 1 rfl ?_
        refine j_iload C dX9_rounds_66 5 rfl ?_
        refine j_cSI (As := [.int v1, .int v5]) (st := [.ref g1]) C (X9_spot_ok κ.2.1 G D v1 v5 _ hw) k_882 ms_X9_spot ⟨by decide, by decide⟩ ⟨rfl, rfl⟩ rfl rfl (Nat.le_of_ble_eq_true rfl) ⟨Nat.zero_le _, Nat.zero_le _⟩ dX9_rounds_68 (fun r3 D4 hw => ?_)
        obtain ⟨hi5, hw⟩ := hw
        refine j_zald C ho_g1 hi5 dX9_rounds_71 ?_
        refine j_if_eq (tgt := 79) C dX9_rounds_72 (by decide) (fun hc => ?_) (fun hc => ?_)
        · have hw := hw.1 hc
          refine j_iconst (v := 0) C dX9_rounds_79 (by decide) ?_
          exact J.sub (X9_rounds_j80_ok C K ho_v0 hr_g1 ho_g1 hr_g2 ho_g2 hr_g3 ho_g3 ih v5 0 D4 hw) [0, 1, 2, 3, 5] rfl
        · have hw := hw.2 hc
          exact J.sub (X9_rounds_j75_ok C K ho_v0 hr_g1 ho_g1 hr_g2 ho_g2 hr_g3 ho_g3 ih v5 D4 hw) [0, 1, 2, 3, 5] rfl
def X9_rounds_j37 (G : Shp) (post : Int32 → Dat → Prop) (v0 : Nat) (v1 : Int32) (v2 : Int32) (v3 : Int32) (g1 : Nat) (g2 : Nat) (g3 : Nat) (D : Dat) : Prop := X9_refuse_wp G D v0 2 (fun r1 D2 => post r1 D2)
set_option maxRecDepth 100000 in
set_option maxHeartbeats 4000000 in
theorem X9_rounds_j37_ok {κ : Ctx} {G : Shp} {post : Int32 → Dat → Prop} {v0 : Nat} {v1 : Int32} {v2 : Int32} {v3 : Int32} {g1 : Nat} {g2 : Nat} {g3 : Nat} (C : Cx κ cX9_rounds RX9 (rmN 7) 8) (K : RtI κ cX9_rounds .int G post) (ho_v0 : isO G v0 9) (hr_g1 : G.2.2.2 v0 15 = some g1) (ho_g1 : isO G g1 13) (hr_g2 : G.2.2.2 v0 27 = some g2) (ho_g2 : isO G g2 13) (hr_g3 : G.2.2.2 v0 16 = some g3) (ho_g3 : isO G g3 13) (D : Dat) (hw : X9_rounds_j37 G post v0 v1 v2 v3 g1 g2 g3 D) : J κ 0 0 G D 37 [(0, .ref v0)] [] := by
  unfold X9_rounds_j37 at hw
  refine j_aload_n C dX9_rounds_37 rfl 0 rfl ?_
  refine j_iconst (v := 2) C dX9_rounds_38 (by decide) ?_
  refine j_cVI (As := [.int 2]) (st := []) C (X9_refuse_ok κ.2.1 G D v0 2 _ hw) ho_v0 rfl k_897 mv_X9_refuse ⟨by decide, by decide⟩ ⟨rfl, rfl⟩ rfl rfl (Nat.le_of_ble_eq_true rfl) ⟨Nat.zero_le _, Nat.zero_le _⟩ dX9_rounds_39 (fun r1 D2 hw => ?_)
  exact K _ _ _ _ dX9_rounds_42 rfl hw
def X9_rounds_wp (G : Shp) (D : Dat) (v0 : Nat) (v1 : Int32) (v2 : Int32) (v3 : Int32) (post : Int32 → Dat → Prop) : Prop := isO G v0 9 ∧ ∃ g1, G.2.2.2 v0 15 = some g1 ∧ isO G g1 13 ∧ ∃ g2, G.2.2.2 v0 27 = some g2 ∧ isO G g2 13 ∧ ∃ g3, G.2.2.2 v0 16 = some g3 ∧ isO G g3 13 ∧ X9_isRow_wp G D v1 (fun r1 D2 => ((¬ r1 = 0 → ((v2 < 1 → X9_rounds_j37 G post v0 v1 v2 v3 g1 g2 g3 D2) ∧ (¬ (v2 < 1) → ((1000 < v2 → X9_rounds_j37 G post v0 v1 v2 v3 g1 g2 g3 D2) ∧ (¬ (1000 < v2) → ((v3 < 1 → X9_rounds_j37 G post v0 v1 v2 v3 g1 g2 g3 D2) ∧ (¬ (v3 < 1) → ((v3 ≤ 1000 → ∃ n, X9_rounds_l49 G post v0 v1 v2 v3 g1 g2 g3 n 0 0 D2) ∧ (¬ (v3 ≤ 1000) → X9_rounds_j37 G post v0 v1 v2 v3 g1 g2 g3 D2))))))))) ∧ (r1 = 0 → X9_refuse_wp G D2 v0 1 (fun r3 D4 => post r3 D4))))
set_option maxRecDepth 100000 in
set_option maxHeartbeats 4000000 in
theorem X9_rounds_ok (l : Launch) (G : Shp) (D : Dat) (v0 : Nat) (v1 : Int32) (v2 : Int32) (v3 : Int32) (post : Int32 → Dat → Prop) (hw : X9_rounds_wp G D v0 v1 v2 v3 post) : CtI l yX9_rounds cX9_rounds 8 .int (rmN 7) [.ref v0, .int v1, .int v2, .int v3] G D post := by
  obtain ⟨ho_v0, g1, hr_g1, ho_g1, g2, hr_g2, ho_g2, g3, hr_g3, ho_g3, hw⟩ := hw
  refine ctI_of (by decide) rfl (Nat.le_of_ble_eq_true rfl) ?_
  intro κ hκ C K
  subst hκ
  have C : Cx κ cX9_rounds RX9 (rmN 7) 8 := C
  refine j_iload_n C dX9_rounds_0 rfl 1 rfl ?_
  refine j_cSI (As := [.int v1]) (st := []) C (X9_isRow_ok κ.2.1 G D v1 _ hw) k_867 ms_X9_isRow ⟨by decide, by decide⟩ ⟨rfl, rfl⟩ rfl rfl (Nat.le_of_ble_eq_true rfl) ⟨Nat.zero_le _, Nat.zero_le _⟩ dX9_rounds_1 (fun r1 D2 hw => ?_)
  refine j_if_ne (tgt := 13) C dX9_rounds_4 (by decide) (fun hc => ?_) (fun hc => ?_)
  · have hw := hw.1 hc
    refine j_iload_n C dX9_rounds_13 rfl 2 rfl ?_
    refine j_iconst (v := 1) C dX9_rounds_14 (by decide) ?_
    refine j_icmp_lt (tgt := 37) C dX9_rounds_15 (by decide) (fun hc => ?_) (fun hc => ?_)
    · have hw := hw.1 hc
      exact J.sub (X9_rounds_j37_ok C K ho_v0 hr_g1 ho_g1 hr_g2 ho_g2 hr_g3 ho_g3 D2 hw) [0] rfl
    · have hw := hw.2 hc
      refine j_iload_n C dX9_rounds_18 rfl 2 rfl ?_
      refine j_sipush (v := 1000) C dX9_rounds_19 (by decide) ?_
      refine j_icmp_gt (tgt := 37) C dX9_rounds_22 (by decide) (fun hc => ?_) (fun hc => ?_)
      · have hw := hw.1 hc
        exact J.sub (X9_rounds_j37_ok C K ho_v0 hr_g1 ho_g1 hr_g2 ho_g2 hr_g3 ho_g3 D2 hw) [0] rfl
      · have hw := hw.2 hc
        refine j_iload_n C dX9_rounds_25 rfl 3 rfl ?_
        refine j_iconst (v := 1) C dX9_rounds_26 (by decide) ?_
        refine j_icmp_lt (tgt := 37) C dX9_rounds_27 (by decide) (fun hc => ?_) (fun hc => ?_)
        · have hw := hw.1 hc
          exact J.sub (X9_rounds_j37_ok C K ho_v0 hr_g1 ho_g1 hr_g2 ho_g2 hr_g3 ho_g3 D2 hw) [0] rfl
        · have hw := hw.2 hc
          refine j_iload_n C dX9_rounds_30 rfl 3 rfl ?_
          refine j_sipush (v := 1000) C dX9_rounds_31 (by decide) ?_
          refine j_icmp_le (tgt := 43) C dX9_rounds_34 (by decide) (fun hc => ?_) (fun hc => ?_)
          · have hw := hw.1 hc
            refine j_iconst (v := 0) C dX9_rounds_43 (by decide) ?_
            refine j_istore C dX9_rounds_44 (by decide) rfl ?_
            refine j_iconst (v := 0) C dX9_rounds_46 (by decide) ?_
            refine j_istore C dX9_rounds_47 (by decide) rfl ?_
            obtain ⟨n, hw⟩ := hw
            exact J.sub (X9_rounds_l49_ok C K ho_v0 hr_g1 ho_g1 hr_g2 ho_g2 hr_g3 ho_g3 n 0 0 D2 hw) [2, 3, 4, 5, 1, 0] rfl
          · have hw := hw.2 hc
            exact J.sub (X9_rounds_j37_ok C K ho_v0 hr_g1 ho_g1 hr_g2 ho_g2 hr_g3 ho_g3 D2 hw) [0] rfl
  · have hw := hw.2 hc
    refine j_aload_n C dX9_rounds_7 rfl 0 rfl ?_
    refine j_iconst (v := 1) C dX9_rounds_8 (by decide) ?_
    refine j_cVI (As := [.int 1]) (st := []) C (X9_refuse_ok κ.2.1 G D2 v0 1 _ hw) ho_v0 rfl k_897 mv_X9_refuse ⟨by decide, by decide⟩ ⟨rfl, rfl⟩ rfl rfl (Nat.le_of_ble_eq_true rfl) ⟨Nat.zero_le _, Nat.zero_le _⟩ dX9_rounds_9 (fun r3 D4 hw => ?_)
    exact K _ _ _ _ dX9_rounds_12 rfl hw
