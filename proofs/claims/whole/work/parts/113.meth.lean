/-! X9_season -/
def X9_season_j27 (G : Shp) (post : Int32 → Dat → Prop) (v0 : Nat) (v1 : Int32) (v2 : Int32) (g1 : Nat) (D : Dat) : Prop := X9_refuse_wp G D v0 5 (fun r1 D2 => post r1 D2)
set_option maxRecDepth 100000 in
set_option maxHeartbeats 4000000 in
theorem X9_season_j27_ok {κ : Ctx} {G : Shp} {post : Int32 → Dat → Prop} {v0 : Nat} {v1 : Int32} {v2 : Int32} {g1 : Nat} (C : Cx κ cX9_season RX9 (rmN 6) 3) (K : RtI κ cX9_season .int G post) (ho_v0 : isO G v0 9) (hr_g1 : G.2.2.2 v0 11 = some g1) (ho_g1 : isO G g1 11) (D : Dat) (hw : X9_season_j27 G post v0 v1 v2 g1 D) : J κ 0 0 G D 27 [(0, .ref v0)] [] := by
  unfold X9_season_j27 at hw
  refine j_aload_n C dX9_season_27 rfl 0 rfl ?_
  refine j_iconst (v := 5) C dX9_season_28 (by decide) ?_
  refine j_cVI (As := [.int 5]) (st := []) C (X9_refuse_ok κ.2.1 G D v0 5 _ hw) ho_v0 rfl k_897 mv_X9_refuse ⟨by decide, by decide⟩ ⟨rfl, rfl⟩ rfl rfl (Nat.le_of_ble_eq_true rfl) ⟨Nat.zero_le _, Nat.zero_le _⟩ dX9_season_29 (fun r1 D2 hw => ?_)
  exact K _ _ _ _ dX9_season_32 rfl hw
def X9_season_wp (G : Shp) (D : Dat) (v0 : Nat) (v1 : Int32) (v2 : Int32) (post : Int32 → Dat → Prop) : Prop := isO G v0 9 ∧ ∃ g1, G.2.2.2 v0 11 = some g1 ∧ isO G g1 11 ∧ X9_isRow_wp G D v1 (fun r1 D2 => ((¬ r1 = 0 → ((v2 < 0 → X9_season_j27 G post v0 v1 v2 g1 D2) ∧ (¬ (v2 < 0) → (vp_in v1 (G.2.2.1 g1) ∧ ((v2 < (D2.1 g1 v1.toNatClampNeg) → X9_solve_wp G D2 v0 v1 (fun r4 D5 => ((¬ r4 = 0 → X9_given_wp G D5 v0 v1 v2 1 (fun r6 D7 => X9_held_wp G D7 v0 19 (fun r8 D9 => X9_tells_wp G D9 v0 r6 r8 (fun r10 D11 => post r10 D11)))) ∧ (r4 = 0 → X9_refuse_wp G D5 v0 6 (fun r12 D13 => post r12 D13))))) ∧ (¬ (v2 < (D2.1 g1 v1.toNatClampNeg)) → X9_season_j27 G post v0 v1 v2 g1 D2)))))) ∧ (r1 = 0 → X9_refuse_wp G D2 v0 1 (fun r14 D15 => post r14 D15))))
set_option maxRecDepth 100000 in
set_option maxHeartbeats 4000000 in
theorem X9_season_ok (l : Launch) (G : Shp) (D : Dat) (v0 : Nat) (v1 : Int32) (v2 : Int32) (post : Int32 → Dat → Prop) (hw : X9_season_wp G D v0 v1 v2 post) : CtI l yX9_season cX9_season 3 .int (rmN 6) [.ref v0, .int v1, .int v2] G D post := by
  obtain ⟨ho_v0, g1, hr_g1, ho_g1, hw⟩ := hw
  refine ctI_of (by decide) rfl (Nat.le_of_ble_eq_true rfl) ?_
  intro κ hκ C K
  subst hκ
  have C : Cx κ cX9_season RX9 (rmN 6) 3 := C
  refine j_iload_n C dX9_season_0 rfl 1 rfl ?_
  refine j_cSI (As := [.int v1]) (st := []) C (X9_isRow_ok κ.2.1 G D v1 _ hw) k_867 ms_X9_isRow ⟨by decide, by decide⟩ ⟨rfl, rfl⟩ rfl rfl (Nat.le_of_ble_eq_true rfl) ⟨Nat.zero_le _, Nat.zero_le _⟩ dX9_season_1 (fun r1 D2 hw => ?_)
  refine j_if_ne (tgt := 13) C dX9_season_4 (by decide) (fun hc => ?_) (fun hc => ?_)
  · have hw := hw.1 hc
    refine j_iload_n C dX9_season_13 rfl 2 rfl ?_
    refine j_if_lt (tgt := 27) C dX9_season_14 (by decide) (fun hc => ?_) (fun hc => ?_)
    · have hw := hw.1 hc
      exact J.sub (X9_season_j27_ok C K ho_v0 hr_g1 ho_g1 D2 hw) [0] rfl
    · have hw := hw.2 hc
      refine j_iload_n C dX9_season_17 rfl 2 rfl ?_
      refine j_aload_n C dX9_season_18 rfl 0 rfl ?_
      refine gf_9_11 C ho_v0 hr_g1 k_775 dX9_season_19 ?_
      refine j_iload_n C dX9_season_22 rfl 1 rfl ?_
      obtain ⟨hi3, hw⟩ := hw
      refine j_iald C ho_g1 hi3 dX9_season_23 ?_
      refine j_icmp_lt (tgt := 33) C dX9_season_24 (by decide) (fun hc => ?_) (fun hc => ?_)
      · have hw := hw.1 hc
        refine j_aload_n C dX9_season_33 rfl 0 rfl ?_
        refine j_iload_n C dX9_season_34 rfl 1 rfl ?_
        refine j_cVI (As := [.int v1]) (st := []) C (X9_solve_ok κ.2.1 G D2 v0 v1 _ hw) ho_v0 rfl k_957 mv_X9_solve ⟨by decide, by decide⟩ ⟨rfl, rfl⟩ rfl rfl (Nat.le_of_ble_eq_true rfl) ⟨Nat.zero_le _, Nat.zero_le _⟩ dX9_season_35 (fun r4 D5 hw => ?_)
        refine j_if_ne (tgt := 48) C dX9_season_38 (by decide) (fun hc => ?_) (fun hc => ?_)
        · have hw := hw.1 hc
          refine j_aload_n C dX9_season_48 rfl 0 rfl ?_
          refine j_aload_n C dX9_season_49 rfl 0 rfl ?_
          refine j_iload_n C dX9_season_50 rfl 1 rfl ?_
          refine j_iload_n C dX9_season_51 rfl 2 rfl ?_
          refine j_iconst (v := 1) C dX9_season_52 (by decide) ?_
          refine j_cVI (As := [.int v1, .int v2, .int 1]) (st := [.ref v0]) C (X9_given_ok κ.2.1 G D5 v0 v1 v2 1 _ hw) ho_v0 rfl k_1089 mv_X9_given ⟨by decide, by decide⟩ ⟨rfl, rfl⟩ rfl rfl (Nat.le_of_ble_eq_true rfl) ⟨Nat.zero_le _, Nat.zero_le _⟩ dX9_season_53 (fun r6 D7 hw => ?_)
          refine j_aload_n C dX9_season_56 rfl 0 rfl ?_
          refine j_bipush (v := 19) C dX9_season_57 (by decide) ?_
          refine j_cVI (As := [.int 19]) (st := [.int r6, .ref v0]) C (X9_held_ok κ.2.1 G D7 v0 19 _ hw) ho_v0 rfl k_1052 mv_X9_held ⟨by decide, by decide⟩ ⟨rfl, rfl⟩ rfl rfl (Nat.le_of_ble_eq_true rfl) ⟨Nat.zero_le _, Nat.zero_le _⟩ dX9_season_59 (fun r8 D9 hw => ?_)
          refine j_cVI (As := [.int r6, .int r8]) (st := []) C (X9_tells_ok κ.2.1 G D9 v0 r6 r8 _ hw) ho_v0 rfl k_1056 mv_X9_tells ⟨by decide, by decide⟩ ⟨rfl, rfl⟩ rfl rfl (Nat.le_of_ble_eq_true rfl) ⟨Nat.zero_le _, Nat.zero_le _⟩ dX9_season_62 (fun r10 D11 hw => ?_)
          exact K _ _ _ _ dX9_season_65 rfl hw
        · have hw := hw.2 hc
          refine j_aload_n C dX9_season_41 rfl 0 rfl ?_
          refine j_bipush (v := 6) C dX9_season_42 (by decide) ?_
          refine j_cVI (As := [.int 6]) (st := []) C (X9_refuse_ok κ.2.1 G D5 v0 6 _ hw) ho_v0 rfl k_897 mv_X9_refuse ⟨by decide, by decide⟩ ⟨rfl, rfl⟩ rfl rfl (Nat.le_of_ble_eq_true rfl) ⟨Nat.zero_le _, Nat.zero_le _⟩ dX9_season_44 (fun r12 D13 hw => ?_)
          exact K _ _ _ _ dX9_season_47 rfl hw
      · have hw := hw.2 hc
        exact J.sub (X9_season_j27_ok C K ho_v0 hr_g1 ho_g1 D2 hw) [0] rfl
  · have hw := hw.2 hc
    refine j_aload_n C dX9_season_7 rfl 0 rfl ?_
    refine j_iconst (v := 1) C dX9_season_8 (by decide) ?_
    refine j_cVI (As := [.int 1]) (st := []) C (X9_refuse_ok κ.2.1 G D2 v0 1 _ hw) ho_v0 rfl k_897 mv_X9_refuse ⟨by decide, by decide⟩ ⟨rfl, rfl⟩ rfl rfl (Nat.le_of_ble_eq_true rfl) ⟨Nat.zero_le _, Nat.zero_le _⟩ dX9_season_9 (fun r14 D15 hw => ?_)
    exact K _ _ _ _ dX9_season_12 rfl hw
/-! X9_stepBy -/
def X9_stepBy_j64 (G : Shp) (post : Int32 → Dat → Prop) (v0 : Nat) (v1 : Int32) (v2 : Int32) (g1 : Nat) (g2 : Nat) (s0 : Int32) (s1 : Nat) (s2 : Nat) (D : Dat) : Prop := (isO G s1 9 ∧ X9_held_wp G D s1 (s0 + v2) (fun r2 D3 => X9_held_wp G D3 v0 19 (fun r4 D5 => (isO G s2 9 ∧ X9_tells_wp G D5 s2 r2 r4 (fun r7 D8 => post r7 D8)))))
set_option maxRecDepth 100000 in
set_option maxHeartbeats 4000000 in
theorem X9_stepBy_j64_ok {κ : Ctx} {G : Shp} {post : Int32 → Dat → Prop} {v0 : Nat} {v1 : Int32} {v2 : Int32} {g1 : Nat} {g2 : Nat} (C : Cx κ cX9_stepBy RX9 (rmN 6) 3) (K : RtI κ cX9_stepBy .int G post) (ho_v0 : isO G v0 9) (hr_g1 : G.2.2.2 v0 12 = some g1) (ho_g1 : isO G g1 11) (hr_g2 : G.2.2.2 v0 17 = some g2) (ho_g2 : isO G g2 13) (s0 : Int32) (s1 : Nat) (s2 : Nat) (D : Dat) (hw : X9_stepBy_j64 G post v0 v1 v2 g1 g2 s0 s1 s2 D) : J κ 0 0 G D 64 [(0, .ref v0), (2, .int v2)] [.int s0, .ref s1, .ref s2] := by
  unfold X9_stepBy_j64 at hw
  refine j_iload_n C dX9_stepBy_64 rfl 1 rfl ?_
  refine j_iadd C dX9_stepBy_65 ?_
  obtain ⟨ho1, hw⟩ := hw
  refine j_cVI (As := [.int (s0 + v2)]) (st := [.ref s2]) C (X9_held_ok κ.2.1 G D s1 (s0 + v2) _ hw) ho1 rfl k_1052 mv_X9_held ⟨by decide, by decide⟩ ⟨rfl, rfl⟩ rfl rfl (Nat.le_of_ble_eq_true rfl) ⟨Nat.zero_le _, Nat.zero_le _⟩ dX9_stepBy_66 (fun r2 D3 hw => ?_)
  refine j_aload_n C dX9_stepBy_69 rfl 0 rfl ?_
  refine j_bipush (v := 19) C dX9_stepBy_70 (by decide) ?_
  refine j_cVI (As := [.int 19]) (st := [.int r2, .ref s2]) C (X9_held_ok κ.2.1 G D3 v0 19 _ hw) ho_v0 rfl k_1052 mv_X9_held ⟨by decide, by decide⟩ ⟨rfl, rfl⟩ rfl rfl (Nat.le_of_ble_eq_true rfl) ⟨Nat.zero_le _, Nat.zero_le _⟩ dX9_stepBy_72 (fun r4 D5 hw => ?_)
  obtain ⟨ho6, hw⟩ := hw
  refine j_cVI (As := [.int r2, .int r4]) (st := []) C (X9_tells_ok κ.2.1 G D5 s2 r2 r4 _ hw) ho6 rfl k_1056 mv_X9_tells ⟨by decide, by decide⟩ ⟨rfl, rfl⟩ rfl rfl (Nat.le_of_ble_eq_true rfl) ⟨Nat.zero_le _, Nat.zero_le _⟩ dX9_stepBy_75 (fun r7 D8 hw => ?_)
  exact K _ _ _ _ dX9_stepBy_78 rfl hw
def X9_stepBy_j27 (G : Shp) (post : Int32 → Dat → Prop) (v0 : Nat) (v1 : Int32) (v2 : Int32) (g1 : Nat) (g2 : Nat) (D : Dat) : Prop := X9_refuse_wp G D v0 5 (fun r1 D2 => post r1 D2)
set_option maxRecDepth 100000 in
set_option maxHeartbeats 4000000 in
theorem X9_stepBy_j27_ok {κ : Ctx} {G : Shp} {post : Int32 → Dat → Prop} {v0 : Nat} {v1 : Int32} {v2 : Int32} {g1 : Nat} {g2 : Nat} (C : Cx κ cX9_stepBy RX9 (rmN 6) 3) (K : RtI κ cX9_stepBy .int G post) (ho_v0 : isO G v0 9) (hr_g1 : G.2.2.2 v0 12 = some g1) (ho_g1 : isO G g1 11) (hr_g2 : G.2.2.2 v0 17 = some g2) (ho_g2 : isO G g2 13) (D : Dat) (hw : X9_stepBy_j27 G post v0 v1 v2 g1 g2 D) : J κ 0 0 G D 27 [(0, .ref v0)] [] := by
  unfold X9_stepBy_j27 at hw
  refine j_aload_n C dX9_stepBy_27 rfl 0 rfl ?_
  refine j_iconst (v := 5) C dX9_stepBy_28 (by decide) ?_
  refine j_cVI (As := [.int 5]) (st := []) C (X9_refuse_ok κ.2.1 G D v0 5 _ hw) ho_v0 rfl k_897 mv_X9_refuse ⟨by decide, by decide⟩ ⟨rfl, rfl⟩ rfl rfl (Nat.le_of_ble_eq_true rfl) ⟨Nat.zero_le _, Nat.zero_le _⟩ dX9_stepBy_29 (fun r1 D2 hw => ?_)
  exact K _ _ _ _ dX9_stepBy_32 rfl hw
def X9_stepBy_wp (G : Shp) (D : Dat) (v0 : Nat) (v1 : Int32) (v2 : Int32) (post : Int32 → Dat → Prop) : Prop := isO G v0 9 ∧ ∃ g1, G.2.2.2 v0 12 = some g1 ∧ isO G g1 11 ∧ ∃ g2, G.2.2.2 v0 17 = some g2 ∧ isO G g2 13 ∧ X9_isRow_wp G D v1 (fun r1 D2 => ((¬ r1 = 0 → ((v2 < 0 → X9_stepBy_j27 G post v0 v1 v2 g1 g2 D2) ∧ (¬ (v2 < 0) → (vp_in v1 (G.2.2.1 g1) ∧ ((v2 < (D2.1 g1 v1.toNatClampNeg) → X9_solve_wp G D2 v0 v1 (fun r4 D5 => ((¬ r4 = 0 → (vp_in v1 (G.2.2.1 g2) ∧ (((D5.1 g2 v1.toNatClampNeg) = 0 → X9_stepBy_j64 G post v0 v1 v2 g1 g2 1 v0 v0 D5) ∧ (¬ ((D5.1 g2 v1.toNatClampNeg) = 0) → X9_stepBy_j64 G post v0 v1 v2 g1 g2 2 v0 v0 D5)))) ∧ (r4 = 0 → X9_refuse_wp G D5 v0 6 (fun r7 D8 => post r7 D8))))) ∧ (¬ (v2 < (D2.1 g1 v1.toNatClampNeg)) → X9_stepBy_j27 G post v0 v1 v2 g1 g2 D2)))))) ∧ (r1 = 0 → X9_refuse_wp G D2 v0 1 (fun r9 D10 => post r9 D10))))
set_option maxRecDepth 100000 in
set_option maxHeartbeats 4000000 in
theorem X9_stepBy_ok (l : Launch) (G : Shp) (D : Dat) (v0 : Nat) (v1 : Int32) (v2 : Int32) (post : Int32 → Dat → Prop) (hw : X9_stepBy_wp G D v0 v1 v2 post) : CtI l yX9_stepBy cX9_stepBy 3 .int (rmN 6) [.ref v0, .int v1, .int v2] G D post := by
  obtain ⟨ho_v0, g1, hr_g1, ho_g1, g2, hr_g2, ho_g2, hw⟩ := hw
  refine ctI_of (by decide) rfl (Nat.le_of_ble_eq_true rfl) ?_
  intro κ hκ C K
  subst hκ
  have C : Cx κ cX9_stepBy RX9 (rmN 6) 3 := C
  refine j_iload_n C dX9_stepBy_0 rfl 1 rfl ?_
  refine j_cSI (As := [.int v1]) (st := []) C (X9_isRow_ok κ.2.1 G D v1 _ hw) k_867 ms_X9_isRow ⟨by decide, by decide⟩ ⟨rfl, rfl⟩ rfl rfl (Nat.le_of_ble_eq_true rfl) ⟨Nat.zero_le _, Nat.zero_le _⟩ dX9_stepBy_1 (fun r1 D2 hw => ?_)
  refine j_if_ne (tgt := 13) C dX9_stepBy_4 (by decide) (fun hc => ?_) (fun hc => ?_)
  · have hw := hw.1 hc
    refine j_iload_n C dX9_stepBy_13 rfl 2 rfl ?_
    refine j_if_lt (tgt := 27) C dX9_stepBy_14 (by decide) (fun hc => ?_) (fun hc => ?_)
    · have hw := hw.1 hc
      exact J.sub (X9_stepBy_j27_ok C K ho_v0 hr_g1 ho_g1 hr_g2 ho_g2 D2 hw) [0] rfl
    · have hw := hw.2 hc
      refine j_iload_n C dX9_stepBy_17 rfl 2 rfl ?_
      refine j_aload_n C dX9_stepBy_18 rfl 0 rfl ?_
      refine gf_9_12 C ho_v0 hr_g1 k_776 dX9_stepBy_19 ?_
      refine j_iload_n C dX9_stepBy_22 rfl 1 rfl ?_
      obtain ⟨hi3, hw⟩ := hw
      refine j_iald C ho_g1 hi3 dX9_stepBy_23 ?_
      refine j_icmp_lt (tgt := 33) C dX9_stepBy_24 (by decide) (fun hc => ?_) (fun hc => ?_)
      · have hw := hw.1 hc
        refine j_aload_n C dX9_stepBy_33 rfl 0 rfl ?_
        refine j_iload_n C dX9_stepBy_34 rfl 1 rfl ?_
        refine j_cVI (As := [.int v1]) (st := []) C (X9_solve_ok κ.2.1 G D2 v0 v1 _ hw) ho_v0 rfl k_957 mv_X9_solve ⟨by decide, by decide⟩ ⟨rfl, rfl⟩ rfl rfl (Nat.le_of_ble_eq_true rfl) ⟨Nat.zero_le _, Nat.zero_le _⟩ dX9_stepBy_35 (fun r4 D5 hw => ?_)
        refine j_if_ne (tgt := 48) C dX9_stepBy_38 (by decide) (fun hc => ?_) (fun hc => ?_)
        · have hw := hw.1 hc
          refine j_aload_n C dX9_stepBy_48 rfl 0 rfl ?_
          refine j_aload_n C dX9_stepBy_49 rfl 0 rfl ?_
          refine j_aload_n C dX9_stepBy_50 rfl 0 rfl ?_
          refine gf_9_17 C ho_v0 hr_g2 k_781 dX9_stepBy_51 ?_
          refine j_iload_n C dX9_stepBy_54 rfl 1 rfl ?_
          obtain ⟨hi6, hw⟩ := hw
          refine j_zald C ho_g2 hi6 dX9_stepBy_55 ?_
          refine j_if_eq (tgt := 63) C dX9_stepBy_56 (by decide) (fun hc => ?_) (fun hc => ?_)
          · have hw := hw.1 hc
            refine j_iconst (v := 1) C dX9_stepBy_63 (by decide) ?_
            exact J.sub (X9_stepBy_j64_ok C K ho_v0 hr_g1 ho_g1 hr_g2 ho_g2 1 v0 v0 D5 hw) [0, 2] rfl
          · have hw := hw.2 hc
            refine j_iconst (v := 2) C dX9_stepBy_59 (by decide) ?_
            refine j_goto (tgt := 64) C dX9_stepBy_60 (by decide) ?_
            exact J.sub (X9_stepBy_j64_ok C K ho_v0 hr_g1 ho_g1 hr_g2 ho_g2 2 v0 v0 D5 hw) [0, 2] rfl
        · have hw := hw.2 hc
          refine j_aload_n C dX9_stepBy_41 rfl 0 rfl ?_
          refine j_bipush (v := 6) C dX9_stepBy_42 (by decide) ?_
          refine j_cVI (As := [.int 6]) (st := []) C (X9_refuse_ok κ.2.1 G D5 v0 6 _ hw) ho_v0 rfl k_897 mv_X9_refuse ⟨by decide, by decide⟩ ⟨rfl, rfl⟩ rfl rfl (Nat.le_of_ble_eq_true rfl) ⟨Nat.zero_le _, Nat.zero_le _⟩ dX9_stepBy_44 (fun r7 D8 hw => ?_)
          exact K _ _ _ _ dX9_stepBy_47 rfl hw
      · have hw := hw.2 hc
        exact J.sub (X9_stepBy_j27_ok C K ho_v0 hr_g1 ho_g1 hr_g2 ho_g2 D2 hw) [0] rfl
  · have hw := hw.2 hc
    refine j_aload_n C dX9_stepBy_7 rfl 0 rfl ?_
    refine j_iconst (v := 1) C dX9_stepBy_8 (by decide) ?_
    refine j_cVI (As := [.int 1]) (st := []) C (X9_refuse_ok κ.2.1 G D2 v0 1 _ hw) ho_v0 rfl k_897 mv_X9_refuse ⟨by decide, by decide⟩ ⟨rfl, rfl⟩ rfl rfl (Nat.le_of_ble_eq_true rfl) ⟨Nat.zero_le _, Nat.zero_le _⟩ dX9_stepBy_9 (fun r9 D10 hw => ?_)
    exact K _ _ _ _ dX9_stepBy_12 rfl hw
/-! X9_where -/
def X9_where_j150 (G : Shp) (post : Int32 → Dat → Prop) (v0 : Nat) (v1 : Int32) (g1 : Nat) (k34 : Int32 → Int32 → Dat → Prop) (v2 : Int32) (v3 : Int32) (D : Dat) : Prop := k34 v2 (v3 + 1) D
set_option maxRecDepth 100000 in
set_option maxHeartbeats 4000000 in
theorem X9_where_j150_ok {κ : Ctx} {G : Shp} {post : Int32 → Dat → Prop} {v0 : Nat} {v1 : Int32} {g1 : Nat} (C : Cx κ cX9_where RX9 (rmN 6) 6) (K : RtI κ cX9_where .int G post) (ho_v0 : isO G v0 9) (hr_g1 : G.2.2.2 v0 12 = some g1) (ho_g1 : isO G g1 11) {k34 : Int32 → Int32 → Dat → Prop} (hk34 : ∀ (v2 : Int32) (v3 : Int32) (D : Dat), k34 v2 v3 D → J κ 0 0 G D 34 [(0, .ref v0), (1, .int v1), (2, .int v2), (3, .int v3)] []) (v2 : Int32) (v3 : Int32) (D : Dat) (hw : X9_where_j150 G post v0 v1 g1 k34 v2 v3 D) : J κ 0 0 G D 150 [(0, .ref v0), (1, .int v1), (2, .int v2), (3, .int v3)] [] := by
  unfold X9_where_j150 at hw
  refine j_iinc (v := v3 + 1) C dX9_where_150 3 rfl rfl (by decide) rfl ?_
  refine j_goto (tgt := 34) C dX9_where_153 (by decide) ?_
  exact J.sub (hk34 v2 (v3 + 1) D hw) [1, 2, 3, 0] rfl
def X9_where_j139 (G : Shp) (post : Int32 → Dat → Prop) (v0 : Nat) (v1 : Int32) (g1 : Nat) (k34 : Int32 → Int32 → Dat → Prop) (v2 : Int32) (v3 : Int32) (D : Dat) : Prop := X9_findStep_wp G D v0 v1 v3 (fun r1 D2 => X9_takeStep_wp G D2 v0 v1 r1 (fun D4 => X9_where_j150 G post v0 v1 g1 k34 v2 v3 D4))
set_option maxRecDepth 100000 in
set_option maxHeartbeats 4000000 in
theorem X9_where_j139_ok {κ : Ctx} {G : Shp} {post : Int32 → Dat → Prop} {v0 : Nat} {v1 : Int32} {g1 : Nat} (C : Cx κ cX9_where RX9 (rmN 6) 6) (K : RtI κ cX9_where .int G post) (ho_v0 : isO G v0 9) (hr_g1 : G.2.2.2 v0 12 = some g1) (ho_g1 : isO G g1 11) {k34 : Int32 → Int32 → Dat → Prop} (hk34 : ∀ (v2 : Int32) (v3 : Int32) (D : Dat), k34 v2 v3 D → J κ 0 0 G D 34 [(0, .ref v0), (1, .int v1), (2, .int v2), (3, .int v3)] []) (v2 : Int32) (v3 : Int32) (D : Dat) (hw : X9_where_j139 G post v0 v1 g1 k34 v2 v3 D) : J κ 0 0 G D 139 [(0, .ref v0), (1, .int v1), (2, .int v2), (3, .int v3)] [] := by
  unfold X9_where_j139 at hw
  refine j_aload_n C dX9_where_139 rfl 0 rfl ?_
  refine j_iload_n C dX9_where_140 rfl 1 rfl ?_
  refine j_aload_n C dX9_where_141 rfl 0 rfl ?_
  refine j_iload_n C dX9_where_142 rfl 1 rfl ?_
  refine j_iload_n C dX9_where_143 rfl 3 rfl ?_
  refine j_cVI (As := [.int v1, .int v3]) (st := [.int v1, .ref v0]) C (X9_findStep_ok κ.2.1 G D v0 v1 v3 _ hw) ho_v0 rfl k_917 mv_X9_findStep ⟨by decide, by decide⟩ ⟨rfl, rfl⟩ rfl rfl (Nat.le_of_ble_eq_true rfl) ⟨Nat.zero_le _, Nat.zero_le _⟩ dX9_where_144 (fun r1 D2 hw => ?_)
  refine j_cVV (As := [.int v1, .int r1]) (st := []) C (X9_takeStep_ok κ.2.1 G D2 v0 v1 r1 _ hw) ho_v0 rfl k_929 mv_X9_takeStep ⟨by decide, by decide⟩ ⟨rfl, rfl⟩ rfl rfl (Nat.le_of_ble_eq_true rfl) ⟨Nat.zero_le _, Nat.zero_le _⟩ dX9_where_147 (fun D4 hw => ?_)
  exact J.sub (X9_where_j150_ok C K ho_v0 hr_g1 ho_g1 hk34 v2 v3 D4 hw) [0, 1, 2, 3] rfl
def X9_where_j121 (G : Shp) (post : Int32 → Dat → Prop) (v0 : Nat) (v1 : Int32) (g1 : Nat) (k34 : Int32 → Int32 → Dat → Prop) (v3 : Int32) (v4 : Int32) (v5 : Int32) (D : Dat) : Prop := X9_keep_wp G D v0 20 v4 (fun D2 => X9_keep_wp G D2 v0 21 v5 (fun D4 => X9_where_j139 G post v0 v1 g1 k34 v3 v3 D4))
set_option maxRecDepth 100000 in
set_option maxHeartbeats 4000000 in
theorem X9_where_j121_ok {κ : Ctx} {G : Shp} {post : Int32 → Dat → Prop} {v0 : Nat} {v1 : Int32} {g1 : Nat} (C : Cx κ cX9_where RX9 (rmN 6) 6) (K : RtI κ cX9_where .int G post) (ho_v0 : isO G v0 9) (hr_g1 : G.2.2.2 v0 12 = some g1) (ho_g1 : isO G g1 11) {k34 : Int32 → Int32 → Dat → Prop} (hk34 : ∀ (v2 : Int32) (v3 : Int32) (D : Dat), k34 v2 v3 D → J κ 0 0 G D 34 [(0, .ref v0), (1, .int v1), (2, .int v2), (3, .int v3)] []) (v3 : Int32) (v4 : Int32) (v5 : Int32) (D : Dat) (hw : X9_where_j121 G post v0 v1 g1 k34 v3 v4 v5 D) : J κ 0 0 G D 121 [(0, .ref v0), (1, .int v1), (3, .int v3), (4, .int v4), (5, .int v5)] [] := by
  unfold X9_where_j121 at hw
  refine j_iload_n C dX9_where_121 rfl 2 rfl ?_
  refine j_istore_n C dX9_where_122 rfl (by decide) rfl ?_
  refine j_aload_n C dX9_where_123 rfl 1 rfl ?_
  refine j_bipush (v := 20) C dX9_where_124 (by decide) ?_
  refine j_iload C dX9_where_126 4 rfl ?_
  refine j_cVV (As := [.int 20, .int v4]) (st := []) C (X9_keep_ok κ.2.1 G D v0 20 v4 _ hw) ho_v0 rfl k_1044 mv_X9_keep ⟨by decide, by decide⟩ ⟨rfl, rfl⟩ rfl rfl (Nat.le_of_ble_eq_true rfl) ⟨Nat.zero_le _, Nat.zero_le _⟩ dX9_where_128 (fun D2 hw => ?_)
  refine j_aload_n C dX9_where_131 rfl 1 rfl ?_
  refine j_bipush (v := 21) C dX9_where_132 (by decide) ?_
  refine j_iload C dX9_where_134 5 rfl ?_
  refine j_cVV (As := [.int 21, .int v5]) (st := []) C (X9_keep_ok κ.2.1 G D2 v0 21 v5 _ hw) ho_v0 rfl k_1044 mv_X9_keep ⟨by decide, by decide⟩ ⟨rfl, rfl⟩ rfl rfl (Nat.le_of_ble_eq_true rfl) ⟨Nat.zero_le _, Nat.zero_le _⟩ dX9_where_136 (fun D4 hw => ?_)
  exact J.sub (X9_where_j139_ok C K ho_v0 hr_g1 ho_g1 hk34 v3 v3 D4 hw) [1, 2, 0, 3] rfl
def X9_where_l34_b (G : Shp) (post : Int32 → Dat → Prop) (v0 : Nat) (v1 : Int32) (g1 : Nat) (rec : Int32 → Int32 → Dat → Prop) (v2 : Int32) (v3 : Int32) (D : Dat) : Prop := ((40 ≤ v3 → ((¬ v2 = (-1) → post v2 (dI D v0 0 0)) ∧ (v2 = (-1) → X9_refuse_wp G D v0 8 (fun r1 D2 => post r1 D2)))) ∧ (¬ (40 ≤ v3) → X9_findStep_wp G D v0 v1 v3 (fun r3 D4 => ((r3 = (-1) → X9_addStep_wp G D4 v0 v1 v3 (fun D6 => X9_solve_wp G D6 v0 v1 (fun r7 D8 => ((r7 = 0 → X9_where_j139 G post v0 v1 g1 rec v2 v3 D8) ∧ (¬ (r7 = 0) → X9_cost_wp G D8 v0 (fun r9 D10 => X9_held_wp G D10 v0 19 (fun r11 D12 => ((v2 = (-1) → X9_where_j121 G post v0 v1 g1 rec v3 r9 r11 D12) ∧ (¬ (v2 = (-1)) → X9_held_wp G D12 v0 21 (fun r13 D14 => X9_times_wp G D14 v0 r9 r13 (fun r15 D16 => X9_held_wp G D16 v0 20 (fun r17 D18 => X9_times_wp G D18 v0 r17 r11 (fun r19 D20 => X9_less_wp G D20 v0 r15 r19 (fun r21 D22 => X9_sign_wp G D22 v0 r21 (fun r23 D24 => ((0 ≤ r23 → X9_where_j139 G post v0 v1 g1 rec v2 v3 D24) ∧ (¬ (0 ≤ r23) → X9_where_j121 G post v0 v1 g1 rec v3 r9 r11 D24))))))))))))))))) ∧ (¬ (r3 = (-1)) → X9_where_j150 G post v0 v1 g1 rec v2 v3 D4)))))
def X9_where_l34 (G : Shp) (post : Int32 → Dat → Prop) (v0 : Nat) (v1 : Int32) (g1 : Nat) : Nat → Int32 → Int32 → Dat → Prop
  | 0 => fun _ _ _ => False
  | n + 1 => X9_where_l34_b G post v0 v1 g1 (X9_where_l34 G post v0 v1 g1 n)
set_option maxRecDepth 100000 in
set_option maxHeartbeats 4000000 in
theorem X9_where_l34_ok {κ : Ctx} {G : Shp} {post : Int32 → Dat → Prop} {v0 : Nat} {v1 : Int32} {g1 : Nat} (C : Cx κ cX9_where RX9 (rmN 6) 6) (K : RtI κ cX9_where .int G post) (ho_v0 : isO G v0 9) (hr_g1 : G.2.2.2 v0 12 = some g1) (ho_g1 : isO G g1 11) : ∀ (n : Nat) (v2 : Int32) (v3 : Int32) (D : Dat), X9_where_l34 G post v0 v1 g1 n v2 v3 D → J κ 0 0 G D 34 [(0, .ref v0), (1, .int v1), (2, .int v2), (3, .int v3)] [] := by
  intro n
  induction n with
  | zero => intro v2 v3 D hw; exact hw.elim
  | succ n ih =>
    intro v2 v3 D hw
    have hw : X9_where_l34_b G post v0 v1 g1 (X9_where_l34 G post v0 v1 g1 n) v2 v3 D := hw
    unfold X9_where_l34_b at hw
    refine j_iload_n C dX9_where_34 rfl 3 rfl ?_
    refine j_bipush (v := 40) C dX9_where_35 (by decide) ?_
    refine j_icmp_ge (tgt := 156) C dX9_where_37 (by decide) (fun hc => ?_) (fun hc => ?_)
    · have hw := hw.1 hc
      refine j_iload_n C dX9_where_156 rfl 2 rfl ?_
      refine j_iconst (v := (-1)) C dX9_where_157 (by decide) ?_
      refine j_icmp_ne (tgt := 168) C dX9_where_158 (by decide) (fun hc => ?_) (fun hc => ?_)
      · have hw := hw.1 hc
        refine j_aload_n C dX9_where_168 rfl 0 rfl ?_
        refine j_iconst (v := 0) C dX9_where_169 (by decide) ?_
        refine pf_9_0 C ho_v0 k_764 dX9_where_170 ?_
        refine j_iload_n C dX9_where_173 rfl 2 rfl ?_
        exact K _ _ _ _ dX9_where_174 rfl hw
      · have hw := hw.2 hc
        refine j_aload_n C dX9_where_161 rfl 0 rfl ?_
        refine j_bipush (v := 8) C dX9_where_162 (by decide) ?_
        refine j_cVI (As := [.int 8]) (st := []) C (X9_refuse_ok κ.2.1 G D v0 8 _ hw) ho_v0 rfl k_897 mv_X9_refuse ⟨by decide, by decide⟩ ⟨rfl, rfl⟩ rfl rfl (Nat.le_of_ble_eq_true rfl) ⟨Nat.zero_le _, Nat.zero_le _⟩ dX9_where_164 (fun r1 D2 hw => ?_)
        exact K _ _ _ _ dX9_where_167 rfl hw
    · have hw := hw.2 hc
      refine j_aload_n C dX9_where_40 rfl 0 rfl ?_
      refine j_iload_n C dX9_where_41 rfl 1 rfl ?_
      refine j_iload_n C dX9_where_42 rfl 3 rfl ?_
      refine j_cVI (As := [.int v1, .int v3]) (st := []) C (X9_findStep_ok κ.2.1 G D v0 v1 v3 _ hw) ho_v0 rfl k_917 mv_X9_findStep ⟨by decide, by decide⟩ ⟨rfl, rfl⟩ rfl rfl (Nat.le_of_ble_eq_true rfl) ⟨Nat.zero_le _, Nat.zero_le _⟩ dX9_where_43 (fun r3 D4 hw => ?_)
      refine j_iconst (v := (-1)) C dX9_where_46 (by decide) ?_
      refine j_icmp_eq (tgt := 53) C dX9_where_47 (by decide) (fun hc => ?_) (fun hc => ?_)
      · have hw := hw.1 hc
        refine j_aload_n C dX9_where_53 rfl 0 rfl ?_
        refine j_iload_n C dX9_where_54 rfl 1 rfl ?_
        refine j_iload_n C dX9_where_55 rfl 3 rfl ?_
        refine j_cVV (As := [.int v1, .int v3]) (st := []) C (X9_addStep_ok κ.2.1 G D4 v0 v1 v3 _ hw) ho_v0 rfl k_921 mv_X9_addStep ⟨by decide, by decide⟩ ⟨rfl, rfl⟩ rfl rfl (Nat.le_of_ble_eq_true rfl) ⟨Nat.zero_le _, Nat.zero_le _⟩ dX9_where_56 (fun D6 hw => ?_)
        refine j_aload_n C dX9_where_59 rfl 0 rfl ?_
        refine j_iload_n C dX9_where_60 rfl 1 rfl ?_
        refine j_cVI (As := [.int v1]) (st := []) C (X9_solve_ok κ.2.1 G D6 v0 v1 _ hw) ho_v0 rfl k_957 mv_X9_solve ⟨by decide, by decide⟩ ⟨rfl, rfl⟩ rfl rfl (Nat.le_of_ble_eq_true rfl) ⟨Nat.zero_le _, Nat.zero_le _⟩ dX9_where_61 (fun r7 D8 hw => ?_)
        refine j_if_eq (tgt := 139) C dX9_where_64 (by decide) (fun hc => ?_) (fun hc => ?_)
        · have hw := hw.1 hc
          exact J.sub (X9_where_j139_ok C K ho_v0 hr_g1 ho_g1 ih v2 v3 D8 hw) [0, 1, 2, 3] rfl
        · have hw := hw.2 hc
          refine j_aload_n C dX9_where_67 rfl 0 rfl ?_
          refine j_cVI (As := []) (st := []) C (X9_cost_ok κ.2.1 G D8 v0 _ hw) ho_v0 rfl k_1048 mv_X9_cost ⟨by decide, by decide⟩ ⟨rfl, rfl⟩ rfl rfl (Nat.le_of_ble_eq_true rfl) ⟨Nat.zero_le _, Nat.zero_le _⟩ dX9_where_68 (fun r9 D10 hw => ?_)
          refine j_istore C dX9_where_71 (by decide) rfl ?_
          refine j_aload_n C dX9_where_73 rfl 1 rfl ?_
          refine j_bipush (v := 19) C dX9_where_74 (by decide) ?_
          refine j_cVI (As := [.int 19]) (st := []) C (X9_held_ok κ.2.1 G D10 v0 19 _ hw) ho_v0 rfl k_1052 mv_X9_held ⟨by decide, by decide⟩ ⟨rfl, rfl⟩ rfl rfl (Nat.le_of_ble_eq_true rfl) ⟨Nat.zero_le _, Nat.zero_le _⟩ dX9_where_76 (fun r11 D12 hw => ?_)
          refine j_istore C dX9_where_79 (by decide) rfl ?_
          refine j_iload_n C dX9_where_81 rfl 4 rfl ?_
          refine j_iconst (v := (-1)) C dX9_where_82 (by decide) ?_
          refine j_icmp_eq (tgt := 121) C dX9_where_83 (by decide) (fun hc => ?_) (fun hc => ?_)
          · have hw := hw.1 hc
            exact J.sub (X9_where_j121_ok C K ho_v0 hr_g1 ho_g1 ih v3 r9 r11 D12 hw) [2, 3, 5, 1, 0] rfl
          · have hw := hw.2 hc
            refine j_aload_n C dX9_where_86 rfl 2 rfl ?_
            refine j_aload_n C dX9_where_87 rfl 2 rfl ?_
            refine j_aload_n C dX9_where_88 rfl 2 rfl ?_
            refine j_iload C dX9_where_89 1 rfl ?_
            refine j_aload_n C dX9_where_91 rfl 2 rfl ?_
            refine j_bipush (v := 21) C dX9_where_92 (by decide) ?_
            refine j_cVI (As := [.int 21]) (st := [.int r9, .ref v0, .ref v0, .ref v0]) C (X9_held_ok κ.2.1 G D12 v0 21 _ hw) ho_v0 rfl k_1052 mv_X9_held ⟨by decide, by decide⟩ ⟨rfl, rfl⟩ rfl rfl (Nat.le_of_ble_eq_true rfl) ⟨Nat.zero_le _, Nat.zero_le _⟩ dX9_where_94 (fun r13 D14 hw => ?_)
            refine j_cVI (As := [.int r9, .int r13]) (st := [.ref v0, .ref v0]) C (X9_times_ok κ.2.1 G D14 v0 r9 r13 _ hw) ho_v0 rfl k_994 mv_X9_times ⟨by decide, by decide⟩ ⟨rfl, rfl⟩ rfl rfl (Nat.le_of_ble_eq_true rfl) ⟨Nat.zero_le _, Nat.zero_le _⟩ dX9_where_97 (fun r15 D16 hw => ?_)
            refine j_aload_n C dX9_where_100 rfl 2 rfl ?_
            refine j_aload_n C dX9_where_101 rfl 2 rfl ?_
            refine j_bipush (v := 20) C dX9_where_102 (by decide) ?_
            refine j_cVI (As := [.int 20]) (st := [.ref v0, .int r15, .ref v0, .ref v0]) C (X9_held_ok κ.2.1 G D16 v0 20 _ hw) ho_v0 rfl k_1052 mv_X9_held ⟨by decide, by decide⟩ ⟨rfl, rfl⟩ rfl rfl (Nat.le_of_ble_eq_true rfl) ⟨Nat.zero_le _, Nat.zero_le _⟩ dX9_where_104 (fun r17 D18 hw => ?_)
            refine j_iload C dX9_where_107 0 rfl ?_
            refine j_cVI (As := [.int r17, .int r11]) (st := [.int r15, .ref v0, .ref v0]) C (X9_times_ok κ.2.1 G D18 v0 r17 r11 _ hw) ho_v0 rfl k_994 mv_X9_times ⟨by decide, by decide⟩ ⟨rfl, rfl⟩ rfl rfl (Nat.le_of_ble_eq_true rfl) ⟨Nat.zero_le _, Nat.zero_le _⟩ dX9_where_109 (fun r19 D20 hw => ?_)
            refine j_cVI (As := [.int r15, .int r19]) (st := [.ref v0]) C (X9_less_ok κ.2.1 G D20 v0 r15 r19 _ hw) ho_v0 rfl k_1002 mv_X9_less ⟨by decide, by decide⟩ ⟨rfl, rfl⟩ rfl rfl (Nat.le_of_ble_eq_true rfl) ⟨Nat.zero_le _, Nat.zero_le _⟩ dX9_where_112 (fun r21 D22 hw => ?_)
            refine j_cVI (As := [.int r21]) (st := []) C (X9_sign_ok κ.2.1 G D22 v0 r21 _ hw) ho_v0 rfl k_990 mv_X9_sign ⟨by decide, by decide⟩ ⟨rfl, rfl⟩ rfl rfl (Nat.le_of_ble_eq_true rfl) ⟨Nat.zero_le _, Nat.zero_le _⟩ dX9_where_115 (fun r23 D24 hw => ?_)
            refine j_if_ge (tgt := 139) C dX9_where_118 (by decide) (fun hc => ?_) (fun hc => ?_)
            · have hw := hw.1 hc
              exact J.sub (X9_where_j139_ok C K ho_v0 hr_g1 ho_g1 ih v2 v3 D24 hw) [2, 3, 4, 5] rfl
            · have hw := hw.2 hc
              exact J.sub (X9_where_j121_ok C K ho_v0 hr_g1 ho_g1 ih v3 r9 r11 D24 hw) [2, 3, 5, 1, 0] rfl
      · have hw := hw.2 hc
        refine j_goto (tgt := 150) C dX9_where_50 (by decide) ?_
        exact J.sub (X9_where_j150_ok C K ho_v0 hr_g1 ho_g1 ih v2 v3 D4 hw) [0, 1, 2, 3] rfl
def X9_where_wp (G : Shp) (D : Dat) (v0 : Nat) (v1 : Int32) (post : Int32 → Dat → Prop) : Prop := isO G v0 9 ∧ ∃ g1, G.2.2.2 v0 12 = some g1 ∧ isO G g1 11 ∧ X9_isRow_wp G D v1 (fun r1 D2 => ((¬ r1 = 0 → (vp_in v1 (G.2.2.1 g1) ∧ ((¬ (D2.1 g1 v1.toNatClampNeg) = 3 → ∃ n, X9_where_l34 G post v0 v1 g1 n (-1) 1 D2) ∧ ((D2.1 g1 v1.toNatClampNeg) = 3 → X9_refuse_wp G D2 v0 8 (fun r4 D5 => post r4 D5))))) ∧ (r1 = 0 → X9_refuse_wp G D2 v0 1 (fun r6 D7 => post r6 D7))))
set_option maxRecDepth 100000 in
set_option maxHeartbeats 4000000 in
theorem X9_where_ok (l : Launch) (G : Shp) (D : Dat) (v0 : Nat) (v1 : Int32) (post : Int32 → Dat → Prop) (hw : X9_where_wp G D v0 v1 post) : CtI l yX9_where cX9_where 6 .int (rmN 6) [.ref v0, .int v1] G D post := by
  obtain ⟨ho_v0, g1, hr_g1, ho_g1, hw⟩ := hw
  refine ctI_of (by decide) rfl (Nat.le_of_ble_eq_true rfl) ?_
  intro κ hκ C K
  subst hκ
  have C : Cx κ cX9_where RX9 (rmN 6) 6 := C
  refine j_iload_n C dX9_where_0 rfl 1 rfl ?_
  refine j_cSI (As := [.int v1]) (st := []) C (X9_isRow_ok κ.2.1 G D v1 _ hw) k_867 ms_X9_isRow ⟨by decide, by decide⟩ ⟨rfl, rfl⟩ rfl rfl (Nat.le_of_ble_eq_true rfl) ⟨Nat.zero_le _, Nat.zero_le _⟩ dX9_where_1 (fun r1 D2 hw => ?_)
  refine j_if_ne (tgt := 13) C dX9_where_4 (by decide) (fun hc => ?_) (fun hc => ?_)
  · have hw := hw.1 hc
    refine j_aload_n C dX9_where_13 rfl 0 rfl ?_
    refine gf_9_12 C ho_v0 hr_g1 k_776 dX9_where_14 ?_
    refine j_iload_n C dX9_where_17 rfl 1 rfl ?_
    obtain ⟨hi3, hw⟩ := hw
    refine j_iald C ho_g1 hi3 dX9_where_18 ?_
    refine j_iconst (v := 3) C dX9_where_19 (by decide) ?_
    refine j_icmp_ne (tgt := 30) C dX9_where_20 (by decide) (fun hc => ?_) (fun hc => ?_)
    · have hw := hw.1 hc
      refine j_iconst (v := (-1)) C dX9_where_30 (by decide) ?_
      refine j_istore_n C dX9_where_31 rfl (by decide) rfl ?_
      refine j_iconst (v := 1) C dX9_where_32 (by decide) ?_
      refine j_istore_n C dX9_where_33 rfl (by decide) rfl ?_
      obtain ⟨n, hw⟩ := hw
      exact J.sub (X9_where_l34_ok C K ho_v0 hr_g1 ho_g1 n (-1) 1 D2 hw) [2, 3, 1, 0] rfl
    · have hw := hw.2 hc
      refine j_aload_n C dX9_where_23 rfl 0 rfl ?_
      refine j_bipush (v := 8) C dX9_where_24 (by decide) ?_
      refine j_cVI (As := [.int 8]) (st := []) C (X9_refuse_ok κ.2.1 G D2 v0 8 _ hw) ho_v0 rfl k_897 mv_X9_refuse ⟨by decide, by decide⟩ ⟨rfl, rfl⟩ rfl rfl (Nat.le_of_ble_eq_true rfl) ⟨Nat.zero_le _, Nat.zero_le _⟩ dX9_where_26 (fun r4 D5 hw => ?_)
      exact K _ _ _ _ dX9_where_29 rfl hw
  · have hw := hw.2 hc
    refine j_aload_n C dX9_where_7 rfl 0 rfl ?_
    refine j_iconst (v := 1) C dX9_where_8 (by decide) ?_
    refine j_cVI (As := [.int 1]) (st := []) C (X9_refuse_ok κ.2.1 G D2 v0 1 _ hw) ho_v0 rfl k_897 mv_X9_refuse ⟨by decide, by decide⟩ ⟨rfl, rfl⟩ rfl rfl (Nat.le_of_ble_eq_true rfl) ⟨Nat.zero_le _, Nat.zero_le _⟩ dX9_where_9 (fun r6 D7 hw => ?_)
    exact K _ _ _ _ dX9_where_12 rfl hw
/-! X8_at -/
def X8_at_j34 (G : Shp) (post : Int32 → Dat → Prop) (v0 : Nat) (v1 : Int32) (v2 : Int32) (v3 : Int32) (g1 : Nat) (g2 : Nat) (D : Dat) : Prop := X8_giveNone_wp G D v0 2 (fun r1 D2 => post r1 D2)
set_option maxRecDepth 100000 in
set_option maxHeartbeats 4000000 in
theorem X8_at_j34_ok {κ : Ctx} {G : Shp} {post : Int32 → Dat → Prop} {v0 : Nat} {v1 : Int32} {v2 : Int32} {v3 : Int32} {g1 : Nat} {g2 : Nat} (C : Cx κ cX8_at RX8 (rmN 7) 5) (K : RtI κ cX8_at .int G post) (ho_v0 : isO G v0 8) (hr_g1 : G.2.2.2 v0 1 = some g1) (ho_g1 : isO G g1 2) (hr_g2 : G.2.2.2 v0 5 = some g2) (ho_g2 : isO G g2 0) (D : Dat) (hw : X8_at_j34 G post v0 v1 v2 v3 g1 g2 D) : J κ 0 0 G D 34 [(0, .ref v0)] [] := by
  unfold X8_at_j34 at hw
  refine j_aload_n C dX8_at_34 rfl 0 rfl ?_
  refine j_iconst (v := 2) C dX8_at_35 (by decide) ?_
  refine j_cVI (As := [.int 2]) (st := []) C (X8_giveNone_ok κ.2.1 G D v0 2 _ hw) ho_v0 rfl k_349 mv_X8_giveNone ⟨by decide, by decide⟩ ⟨rfl, rfl⟩ rfl rfl (Nat.le_of_ble_eq_true rfl) ⟨Nat.zero_le _, Nat.zero_le _⟩ dX8_at_36 (fun r1 D2 hw => ?_)
  exact K _ _ _ _ dX8_at_39 rfl hw
def X8_at_j19 (G : Shp) (post : Int32 → Dat → Prop) (v0 : Nat) (v1 : Int32) (v2 : Int32) (v3 : Int32) (g1 : Nat) (g2 : Nat) (D : Dat) : Prop := X8_giveNone_wp G D v0 1 (fun r1 D2 => post r1 D2)
set_option maxRecDepth 100000 in
set_option maxHeartbeats 4000000 in
theorem X8_at_j19_ok {κ : Ctx} {G : Shp} {post : Int32 → Dat → Prop} {v0 : Nat} {v1 : Int32} {v2 : Int32} {v3 : Int32} {g1 : Nat} {g2 : Nat} (C : Cx κ cX8_at RX8 (rmN 7) 5) (K : RtI κ cX8_at .int G post) (ho_v0 : isO G v0 8) (hr_g1 : G.2.2.2 v0 1 = some g1) (ho_g1 : isO G g1 2) (hr_g2 : G.2.2.2 v0 5 = some g2) (ho_g2 : isO G g2 0) (D : Dat) (hw : X8_at_j19 G post v0 v1 v2 v3 g1 g2 D) : J κ 0 0 G D 19 [(0, .ref v0)] [] := by
  unfold X8_at_j19 at hw
  refine j_aload_n C dX8_at_19 rfl 0 rfl ?_
  refine j_iconst (v := 1) C dX8_at_20 (by decide) ?_
  refine j_cVI (As := [.int 1]) (st := []) C (X8_giveNone_ok κ.2.1 G D v0 1 _ hw) ho_v0 rfl k_349 mv_X8_giveNone ⟨by decide, by decide⟩ ⟨rfl, rfl⟩ rfl rfl (Nat.le_of_ble_eq_true rfl) ⟨Nat.zero_le _, Nat.zero_le _⟩ dX8_at_21 (fun r1 D2 hw => ?_)
  exact K _ _ _ _ dX8_at_24 rfl hw
def X8_at_wp (G : Shp) (D : Dat) (v0 : Nat) (v1 : Int32) (v2 : Int32) (v3 : Int32) (post : Int32 → Dat → Prop) : Prop := isO G v0 8 ∧ ∃ g1, G.2.2.2 v0 1 = some g1 ∧ isO G g1 2 ∧ ∃ g2, G.2.2.2 v0 5 = some g2 ∧ isO G g2 0 ∧ X8_rowOf_wp G D v0 v1 (fun r1 D2 => (r1 = none → X8_at_j19 G post v0 v1 v2 v3 g1 g2 D2) ∧ (∀ y3, r1 = some y3 → X8_isFarTick_wp G D2 v2 (fun r4 D5 => ((¬ r4 = 0 → ((v3 < 0 → X8_at_j34 G post v0 v1 v2 v3 g1 g2 D5) ∧ (¬ (v3 < 0) → ((v3 ≤ 3 → X2_find_wp G D5 g1 y3 (-1) (fun r6 D7 => ((¬ r6 = 0 → (((v3.toInt < 0 ∨ 2 < v3.toInt) → X2_foretold_wp G D7 g1 v2 g2 (fun D9 => X8_tell_wp G D9 v0 1 (fun r10 D11 => post r10 D11))) ∧ (v3.toInt = 0 → X2_trend_wp G D7 g1 v2 g2 (fun D13 => X8_tell_wp G D13 v0 (D13.1 g1 10) (fun r14 D15 => post r14 D15))) ∧ (v3.toInt = 1 → X2_placeOf_wp G D7 g1 v2 (fun r16 D17 => X2_seasonOf_wp G D17 g1 r16 g2 (fun D19 => X8_tell_wp G D19 v0 (D19.1 g1 10) (fun r20 D21 => post r20 D21)))) ∧ (v3.toInt = 2 → X2_feastsOn_wp G D7 g1 v2 g2 (fun D23 => X8_tell_wp G D23 v0 1 (fun r24 D25 => post r24 D25))))) ∧ (r6 = 0 → X8_giveNone_wp G D7 v0 6 (fun r26 D27 => post r26 D27))))) ∧ (¬ (v3 ≤ 3) → X8_at_j34 G post v0 v1 v2 v3 g1 g2 D5))))) ∧ (r4 = 0 → X8_at_j19 G post v0 v1 v2 v3 g1 g2 D5)))))
set_option maxRecDepth 100000 in
set_option maxHeartbeats 4000000 in
theorem X8_at_ok (l : Launch) (G : Shp) (D : Dat) (v0 : Nat) (v1 : Int32) (v2 : Int32) (v3 : Int32) (post : Int32 → Dat → Prop) (hw : X8_at_wp G D v0 v1 v2 v3 post) : CtI l yX8_at cX8_at 5 .int (rmN 7) [.ref v0, .int v1, .int v2, .int v3] G D post := by
  obtain ⟨ho_v0, g1, hr_g1, ho_g1, g2, hr_g2, ho_g2, hw⟩ := hw
  refine ctI_of (by decide) rfl (Nat.le_of_ble_eq_true rfl) ?_
  intro κ hκ C K
  subst hκ
  have C : Cx κ cX8_at RX8 (rmN 7) 5 := C
  refine j_aload_n C dX8_at_0 rfl 0 rfl ?_
  refine j_iload_n C dX8_at_1 rfl 1 rfl ?_
  refine j_cVQ (As := [.int v1]) (st := []) C (X8_rowOf_ok κ.2.1 G D v0 v1 _ hw) ho_v0 rfl k_299 mv_X8_rowOf ⟨by decide, by decide⟩ ⟨rfl, rfl⟩ rfl rfl (Nat.le_of_ble_eq_true rfl) ⟨Nat.zero_le _, Nat.zero_le _⟩ dX8_at_2 (fun r1 D2 hw => ?_)
  refine j_astoreO C dX8_at_5 (by decide) rfl ?_
  refine j_aloadO C dX8_at_7 0 rfl ?_
  refine j_ifnull (tgt := 19) C dX8_at_9 (by decide) (fun hc => ?_) (fun y3 hc => ?_)
  · have hw := hw.1 hc
    exact J.sub (X8_at_j19_ok C K ho_v0 hr_g1 ho_g1 hr_g2 ho_g2 D2 hw) [1] rfl
  · replace hw := hw.2 y3 hc
    subst hc
    show J κ 0 0 G D2 12 [(4, .ref y3), (0, .ref v0), (1, .int v1), (2, .int v2), (3, .int v3)] []
    refine j_iload_n C dX8_at_12 rfl 3 rfl ?_
    refine j_cSI (As := [.int v2]) (st := []) C (X8_isFarTick_ok κ.2.1 G D2 v2 _ hw) k_642 ms_X8_isFarTick ⟨by decide, by decide⟩ ⟨rfl, rfl⟩ rfl rfl (Nat.le_of_ble_eq_true rfl) ⟨Nat.zero_le _, Nat.zero_le _⟩ dX8_at_13 (fun r4 D5 hw => ?_)
    refine j_if_ne (tgt := 25) C dX8_at_16 (by decide) (fun hc => ?_) (fun hc => ?_)
    · have hw := hw.1 hc
      refine j_iload_n C dX8_at_25 rfl 4 rfl ?_
      refine j_if_lt (tgt := 34) C dX8_at_26 (by decide) (fun hc => ?_) (fun hc => ?_)
      · have hw := hw.1 hc
        exact J.sub (X8_at_j34_ok C K ho_v0 hr_g1 ho_g1 hr_g2 ho_g2 D5 hw) [1] rfl
      · have hw := hw.2 hc
        refine j_iload_n C dX8_at_29 rfl 4 rfl ?_
        refine j_iconst (v := 3) C dX8_at_30 (by decide) ?_
        refine j_icmp_le (tgt := 40) C dX8_at_31 (by decide) (fun hc => ?_) (fun hc => ?_)
        · have hw := hw.1 hc
          refine j_aload_n C dX8_at_40 rfl 1 rfl ?_
          refine gf_8_1 C ho_v0 hr_g1 k_252 dX8_at_41 ?_
          refine j_aload C dX8_at_44 0 rfl ?_
          refine j_iconst (v := (-1)) C dX8_at_46 (by decide) ?_
          refine j_cVI (As := [.ref y3, .int (-1)]) (st := []) C (X2_find_ok κ.2.1 G D5 g1 y3 (-1) _ hw) ho_g1 rfl k_420 mv_X2_find ⟨by decide, by decide⟩ ⟨rfl, rfl⟩ rfl rfl (Nat.le_of_ble_eq_true rfl) ⟨Nat.zero_le _, Nat.zero_le _⟩ dX8_at_47 (fun r6 D7 hw => ?_)
          refine j_if_ne (tgt := 60) C dX8_at_50 (by decide) (fun hc => ?_) (fun hc => ?_)
          · have hw := hw.1 hc
            refine j_iload_n C dX8_at_60 rfl 4 rfl ?_
            by_cases hsw : v3.toInt < 0 ∨ 2 < v3.toInt
            · have hw := hw.1 hsw
              refine j_tableOut (tgt := 161) C dX8_at_61 hsw (by decide) ?_
              refine j_aload_n C dX8_at_161 rfl 1 rfl ?_
              refine gf_8_1 C ho_v0 hr_g1 k_252 dX8_at_162 ?_
              refine j_iload_n C dX8_at_165 rfl 3 rfl ?_
              refine j_aload_n C dX8_at_166 rfl 1 rfl ?_
              refine gf_8_5 C ho_v0 hr_g2 k_256 dX8_at_167 ?_
              refine j_cVV (As := [.int v2, .ref g2]) (st := []) C (X2_foretold_ok κ.2.1 G D7 g1 v2 g2 _ hw) ho_g1 rfl k_659 mv_X2_foretold ⟨by decide, by decide⟩ ⟨rfl, rfl⟩ rfl rfl (Nat.le_of_ble_eq_true rfl) ⟨Nat.zero_le _, Nat.zero_le _⟩ dX8_at_170 (fun D9 hw => ?_)
              refine j_aload_n C dX8_at_173 rfl 1 rfl ?_
              refine j_iconst (v := 1) C dX8_at_174 (by decide) ?_
              refine j_cVI (As := [.int 1]) (st := []) C (X8_tell_ok κ.2.1 G D9 v0 1 _ hw) ho_v0 rfl k_546 mv_X8_tell ⟨by decide, by decide⟩ ⟨rfl, rfl⟩ rfl rfl (Nat.le_of_ble_eq_true rfl) ⟨Nat.zero_le _, Nat.zero_le _⟩ dX8_at_175 (fun r10 D11 hw => ?_)
              exact K _ _ _ _ dX8_at_178 rfl hw
            · have hcs : v3.toInt = 0 ∨ v3.toInt = 1 ∨ v3.toInt = 2 := by omega
              rcases hcs with hc | hc | hc
              · have hw := hw.2.1 hc
                refine j_tableIn (off := 27) (tgt := 88) C dX8_at_61 (by omega) (by omega) (by rw [hc]; rfl) (by decide) ?_
                refine j_aload_n C dX8_at_88 rfl 1 rfl ?_
                refine gf_8_1 C ho_v0 hr_g1 k_252 dX8_at_89 ?_
                refine j_iload_n C dX8_at_92 rfl 3 rfl ?_
                refine j_aload_n C dX8_at_93 rfl 1 rfl ?_
                refine gf_8_5 C ho_v0 hr_g2 k_256 dX8_at_94 ?_
                refine j_cVV (As := [.int v2, .ref g2]) (st := []) C (X2_trend_ok κ.2.1 G D7 g1 v2 g2 _ hw) ho_g1 rfl k_645 mv_X2_trend ⟨by decide, by decide⟩ ⟨rfl, rfl⟩ rfl rfl (Nat.le_of_ble_eq_true rfl) ⟨Nat.zero_le _, Nat.zero_le _⟩ dX8_at_97 (fun D13 hw => ?_)
                refine j_aload_n C dX8_at_100 rfl 1 rfl ?_
                refine j_aload_n C dX8_at_101 rfl 1 rfl ?_
                refine gf_8_1 C ho_v0 hr_g1 k_252 dX8_at_102 ?_
                refine gf_2_10 C ho_g1 k_158 dX8_at_105 ?_
                refine j_cVI (As := [.int (D13.1 g1 10)]) (st := []) C (X8_tell_ok κ.2.1 G D13 v0 (D13.1 g1 10) _ hw) ho_v0 rfl k_546 mv_X8_tell ⟨by decide, by decide⟩ ⟨rfl, rfl⟩ rfl rfl (Nat.le_of_ble_eq_true rfl) ⟨Nat.zero_le _, Nat.zero_le _⟩ dX8_at_108 (fun r14 D15 hw => ?_)
                exact K _ _ _ _ dX8_at_111 rfl hw
              · have hw := hw.2.2.1 hc
                refine j_tableIn (off := 51) (tgt := 112) C dX8_at_61 (by omega) (by omega) (by rw [hc]; rfl) (by decide) ?_
                refine j_aload_n C dX8_at_112 rfl 1 rfl ?_
                refine gf_8_1 C ho_v0 hr_g1 k_252 dX8_at_113 ?_
                refine j_aload_n C dX8_at_116 rfl 1 rfl ?_
                refine gf_8_1 C ho_v0 hr_g1 k_252 dX8_at_117 ?_
                refine j_iload_n C dX8_at_120 rfl 3 rfl ?_
                refine j_cVI (As := [.int v2]) (st := [.ref g1]) C (X2_placeOf_ok κ.2.1 G D7 g1 v2 _ hw) ho_g1 rfl k_654 mv_X2_placeOf ⟨by decide, by decide⟩ ⟨rfl, rfl⟩ rfl rfl (Nat.le_of_ble_eq_true rfl) ⟨Nat.zero_le _, Nat.zero_le _⟩ dX8_at_121 (fun r16 D17 hw => ?_)
                refine j_aload_n C dX8_at_124 rfl 1 rfl ?_
                refine gf_8_5 C ho_v0 hr_g2 k_256 dX8_at_125 ?_
                refine j_cVV (As := [.int r16, .ref g2]) (st := []) C (X2_seasonOf_ok κ.2.1 G D17 g1 r16 g2 _ hw) ho_g1 rfl k_633 mv_X2_seasonOf ⟨by decide, by decide⟩ ⟨rfl, rfl⟩ rfl rfl (Nat.le_of_ble_eq_true rfl) ⟨Nat.zero_le _, Nat.zero_le _⟩ dX8_at_128 (fun D19 hw => ?_)
                refine j_aload_n C dX8_at_131 rfl 1 rfl ?_
                refine j_aload_n C dX8_at_132 rfl 1 rfl ?_
                refine gf_8_1 C ho_v0 hr_g1 k_252 dX8_at_133 ?_
                refine gf_2_10 C ho_g1 k_158 dX8_at_136 ?_
                refine j_cVI (As := [.int (D19.1 g1 10)]) (st := []) C (X8_tell_ok κ.2.1 G D19 v0 (D19.1 g1 10) _ hw) ho_v0 rfl k_546 mv_X8_tell ⟨by decide, by decide⟩ ⟨rfl, rfl⟩ rfl rfl (Nat.le_of_ble_eq_true rfl) ⟨Nat.zero_le _, Nat.zero_le _⟩ dX8_at_139 (fun r20 D21 hw => ?_)
                exact K _ _ _ _ dX8_at_142 rfl hw
              · have hw := hw.2.2.2 hc
                refine j_tableIn (off := 82) (tgt := 143) C dX8_at_61 (by omega) (by omega) (by rw [hc]; rfl) (by decide) ?_
                refine j_aload_n C dX8_at_143 rfl 1 rfl ?_
                refine gf_8_1 C ho_v0 hr_g1 k_252 dX8_at_144 ?_
                refine j_iload_n C dX8_at_147 rfl 3 rfl ?_
                refine j_aload_n C dX8_at_148 rfl 1 rfl ?_
                refine gf_8_5 C ho_v0 hr_g2 k_256 dX8_at_149 ?_
                refine j_cVV (As := [.int v2, .ref g2]) (st := []) C (X2_feastsOn_ok κ.2.1 G D7 g1 v2 g2 _ hw) ho_g1 rfl k_655 mv_X2_feastsOn ⟨by decide, by decide⟩ ⟨rfl, rfl⟩ rfl rfl (Nat.le_of_ble_eq_true rfl) ⟨Nat.zero_le _, Nat.zero_le _⟩ dX8_at_152 (fun D23 hw => ?_)
                refine j_aload_n C dX8_at_155 rfl 1 rfl ?_
                refine j_iconst (v := 1) C dX8_at_156 (by decide) ?_
                refine j_cVI (As := [.int 1]) (st := []) C (X8_tell_ok κ.2.1 G D23 v0 1 _ hw) ho_v0 rfl k_546 mv_X8_tell ⟨by decide, by decide⟩ ⟨rfl, rfl⟩ rfl rfl (Nat.le_of_ble_eq_true rfl) ⟨Nat.zero_le _, Nat.zero_le _⟩ dX8_at_157 (fun r24 D25 hw => ?_)
                exact K _ _ _ _ dX8_at_160 rfl hw
          · have hw := hw.2 hc
            refine j_aload_n C dX8_at_53 rfl 1 rfl ?_
            refine j_bipush (v := 6) C dX8_at_54 (by decide) ?_
            refine j_cVI (As := [.int 6]) (st := []) C (X8_giveNone_ok κ.2.1 G D7 v0 6 _ hw) ho_v0 rfl k_349 mv_X8_giveNone ⟨by decide, by decide⟩ ⟨rfl, rfl⟩ rfl rfl (Nat.le_of_ble_eq_true rfl) ⟨Nat.zero_le _, Nat.zero_le _⟩ dX8_at_56 (fun r26 D27 hw => ?_)
            exact K _ _ _ _ dX8_at_59 rfl hw
        · have hw := hw.2 hc
          exact J.sub (X8_at_j34_ok C K ho_v0 hr_g1 ho_g1 hr_g2 ho_g2 D5 hw) [1] rfl
    · have hw := hw.2 hc
      exact J.sub (X8_at_j19_ok C K ho_v0 hr_g1 ho_g1 hr_g2 ho_g2 D5 hw) [1] rfl
/-! X8_feastBy -/
def X8_feastBy_wp (G : Shp) (D : Dat) (v0 : Nat) (v1 : Int32) (v2 : Int32) (post : Int32 → Dat → Prop) : Prop := isO G v0 8 ∧ ∃ g1, G.2.2.2 v0 1 = some g1 ∧ isO G g1 2 ∧ ∃ g2, G.2.2.2 v0 5 = some g2 ∧ isO G g2 0 ∧ X8_rowOf_wp G D v0 v1 (fun r1 D2 => (r1 = none → X8_giveNone_wp G D2 v0 1 (fun r4 D5 => post r4 D5)) ∧ (∀ y3, r1 = some y3 → (isO G y3 3 ∧ X3_hasFeast_wp G D2 y3 v2 (fun r7 D8 => ((¬ r7 = 0 → X2_find_wp G D8 g1 y3 (-1) (fun r9 D10 => ((¬ r9 = 0 → X2_unknown_wp G D10 g1 ((D10.1 g1 13) + v2) g2 (fun D12 => X8_tell_wp G D12 v0 1 (fun r13 D14 => post r13 D14))) ∧ (r9 = 0 → X8_giveNone_wp G D10 v0 6 (fun r15 D16 => post r15 D16))))) ∧ (r7 = 0 → X8_giveNone_wp G D8 v0 5 (fun r17 D18 => post r17 D18)))))))
set_option maxRecDepth 100000 in
set_option maxHeartbeats 4000000 in
theorem X8_feastBy_ok (l : Launch) (G : Shp) (D : Dat) (v0 : Nat) (v1 : Int32) (v2 : Int32) (post : Int32 → Dat → Prop) (hw : X8_feastBy_wp G D v0 v1 v2 post) : CtI l yX8_feastBy cX8_feastBy 4 .int (rmN 7) [.ref v0, .int v1, .int v2] G D post := by
  obtain ⟨ho_v0, g1, hr_g1, ho_g1, g2, hr_g2, ho_g2, hw⟩ := hw
  refine ctI_of (by decide) rfl (Nat.le_of_ble_eq_true rfl) ?_
  intro κ hκ C K
  subst hκ
  have C : Cx κ cX8_feastBy RX8 (rmN 7) 4 := C
  refine j_aload_n C dX8_feastBy_0 rfl 0 rfl ?_
  refine j_iload_n C dX8_feastBy_1 rfl 1 rfl ?_
  refine j_cVQ (As := [.int v1]) (st := []) C (X8_rowOf_ok κ.2.1 G D v0 v1 _ hw) ho_v0 rfl k_299 mv_X8_rowOf ⟨by decide, by decide⟩ ⟨rfl, rfl⟩ rfl rfl (Nat.le_of_ble_eq_true rfl) ⟨Nat.zero_le _, Nat.zero_le _⟩ dX8_feastBy_2 (fun r1 D2 hw => ?_)
  refine j_astore_nO C dX8_feastBy_5 rfl (by decide) rfl ?_
  refine j_aload_nO C dX8_feastBy_6 rfl 0 rfl ?_
  refine j_ifnonnull (tgt := 16) C dX8_feastBy_7 (by decide) (fun y3 hc => ?_) (fun hc => ?_)
  · replace hw := hw.2 y3 hc
    subst hc
    show J κ 0 0 G D2 16 [(3, .ref y3), (0, .ref v0), (1, .int v1), (2, .int v2)] []
    refine j_aload_n C dX8_feastBy_16 rfl 0 rfl ?_
    refine j_iload_n C dX8_feastBy_17 rfl 3 rfl ?_
    obtain ⟨ho6, hw⟩ := hw
    refine j_cVI (As := [.int v2]) (st := []) C (X3_hasFeast_ok κ.2.1 G D2 y3 v2 _ hw) ho6 rfl k_392 mv_X3_hasFeast ⟨by decide, by decide⟩ ⟨rfl, rfl⟩ rfl rfl (Nat.le_of_ble_eq_true rfl) ⟨Nat.zero_le _, Nat.zero_le _⟩ dX8_feastBy_18 (fun r7 D8 hw => ?_)
    refine j_if_ne (tgt := 30) C dX8_feastBy_21 (by decide) (fun hc => ?_) (fun hc => ?_)
    · have hw := hw.1 hc
      refine j_aload_n C dX8_feastBy_30 rfl 1 rfl ?_
      refine gf_8_1 C ho_v0 hr_g1 k_252 dX8_feastBy_31 ?_
      refine j_aload_n C dX8_feastBy_34 rfl 0 rfl ?_
      refine j_iconst (v := (-1)) C dX8_feastBy_35 (by decide) ?_
      refine j_cVI (As := [.ref y3, .int (-1)]) (st := []) C (X2_find_ok κ.2.1 G D8 g1 y3 (-1) _ hw) ho_g1 rfl k_420 mv_X2_find ⟨by decide, by decide⟩ ⟨rfl, rfl⟩ rfl rfl (Nat.le_of_ble_eq_true rfl) ⟨Nat.zero_le _, Nat.zero_le _⟩ dX8_feastBy_36 (fun r9 D10 hw => ?_)
      refine j_if_ne (tgt := 49) C dX8_feastBy_39 (by decide) (fun hc => ?_) (fun hc => ?_)
      · have hw := hw.1 hc
        refine j_aload_n C dX8_feastBy_49 rfl 1 rfl ?_
        refine gf_8_1 C ho_v0 hr_g1 k_252 dX8_feastBy_50 ?_
        refine j_aload_n C dX8_feastBy_53 rfl 1 rfl ?_
        refine gf_8_1 C ho_v0 hr_g1 k_252 dX8_feastBy_54 ?_
        refine gf_2_13 C ho_g1 k_163 dX8_feastBy_57 ?_
        refine j_iload_n C dX8_feastBy_60 rfl 3 rfl ?_
        refine j_iadd C dX8_feastBy_61 ?_
        refine j_aload_n C dX8_feastBy_62 rfl 1 rfl ?_
        refine gf_8_5 C ho_v0 hr_g2 k_256 dX8_feastBy_63 ?_
        refine j_cVV (As := [.int ((D10.1 g1 13) + v2), .ref g2]) (st := []) C (X2_unknown_ok κ.2.1 G D10 g1 ((D10.1 g1 13) + v2) g2 _ hw) ho_g1 rfl k_621 mv_X2_unknown ⟨by decide, by decide⟩ ⟨rfl, rfl⟩ rfl rfl (Nat.le_of_ble_eq_true rfl) ⟨Nat.zero_le _, Nat.zero_le _⟩ dX8_feastBy_66 (fun D12 hw => ?_)
        refine j_aload_n C dX8_feastBy_69 rfl 1 rfl ?_
        refine j_iconst (v := 1) C dX8_feastBy_70 (by decide) ?_
        refine j_cVI (As := [.int 1]) (st := []) C (X8_tell_ok κ.2.1 G D12 v0 1 _ hw) ho_v0 rfl k_546 mv_X8_tell ⟨by decide, by decide⟩ ⟨rfl, rfl⟩ rfl rfl (Nat.le_of_ble_eq_true rfl) ⟨Nat.zero_le _, Nat.zero_le _⟩ dX8_feastBy_71 (fun r13 D14 hw => ?_)
        exact K _ _ _ _ dX8_feastBy_74 rfl hw
      · have hw := hw.2 hc
        refine j_aload_n C dX8_feastBy_42 rfl 1 rfl ?_
        refine j_bipush (v := 6) C dX8_feastBy_43 (by decide) ?_
        refine j_cVI (As := [.int 6]) (st := []) C (X8_giveNone_ok κ.2.1 G D10 v0 6 _ hw) ho_v0 rfl k_349 mv_X8_giveNone ⟨by decide, by decide⟩ ⟨rfl, rfl⟩ rfl rfl (Nat.le_of_ble_eq_true rfl) ⟨Nat.zero_le _, Nat.zero_le _⟩ dX8_feastBy_45 (fun r15 D16 hw => ?_)
        exact K _ _ _ _ dX8_feastBy_48 rfl hw
    · have hw := hw.2 hc
      refine j_aload_n C dX8_feastBy_24 rfl 1 rfl ?_
      refine j_iconst (v := 5) C dX8_feastBy_25 (by decide) ?_
      refine j_cVI (As := [.int 5]) (st := []) C (X8_giveNone_ok κ.2.1 G D8 v0 5 _ hw) ho_v0 rfl k_349 mv_X8_giveNone ⟨by decide, by decide⟩ ⟨rfl, rfl⟩ rfl rfl (Nat.le_of_ble_eq_true rfl) ⟨Nat.zero_le _, Nat.zero_le _⟩ dX8_feastBy_26 (fun r17 D18 hw => ?_)
      exact K _ _ _ _ dX8_feastBy_29 rfl hw
  · have hw := hw.1 hc
    refine j_aload_n C dX8_feastBy_10 rfl 1 rfl ?_
    refine j_iconst (v := 1) C dX8_feastBy_11 (by decide) ?_
    refine j_cVI (As := [.int 1]) (st := []) C (X8_giveNone_ok κ.2.1 G D2 v0 1 _ hw) ho_v0 rfl k_349 mv_X8_giveNone ⟨by decide, by decide⟩ ⟨rfl, rfl⟩ rfl rfl (Nat.le_of_ble_eq_true rfl) ⟨Nat.zero_le _, Nat.zero_le _⟩ dX8_feastBy_12 (fun r4 D5 hw => ?_)
    exact K _ _ _ _ dX8_feastBy_15 rfl hw
/-! X8_part -/
def X8_part_j107 (G : Shp) (post : Int32 → Dat → Prop) (v0 : Nat) (v1 : Int32) (v2 : Int32) (g1 : Nat) (g2 : Nat) (D : Dat) : Prop := X8_tell_wp G D v0 1 (fun r1 D2 => post r1 D2)
set_option maxRecDepth 100000 in
set_option maxHeartbeats 4000000 in
theorem X8_part_j107_ok {κ : Ctx} {G : Shp} {post : Int32 → Dat → Prop} {v0 : Nat} {v1 : Int32} {v2 : Int32} {g1 : Nat} {g2 : Nat} (C : Cx κ cX8_part RX8 (rmN 7) 4) (K : RtI κ cX8_part .int G post) (ho_v0 : isO G v0 8) (hr_g1 : G.2.2.2 v0 1 = some g1) (ho_g1 : isO G g1 2) (hr_g2 : G.2.2.2 v0 5 = some g2) (ho_g2 : isO G g2 0) (D : Dat) (hw : X8_part_j107 G post v0 v1 v2 g1 g2 D) : J κ 0 0 G D 107 [(0, .ref v0)] [] := by
  unfold X8_part_j107 at hw
  refine j_aload_n C dX8_part_107 rfl 0 rfl ?_
  refine j_iconst (v := 1) C dX8_part_108 (by decide) ?_
  refine j_cVI (As := [.int 1]) (st := []) C (X8_tell_ok κ.2.1 G D v0 1 _ hw) ho_v0 rfl k_546 mv_X8_tell ⟨by decide, by decide⟩ ⟨rfl, rfl⟩ rfl rfl (Nat.le_of_ble_eq_true rfl) ⟨Nat.zero_le _, Nat.zero_le _⟩ dX8_part_109 (fun r1 D2 hw => ?_)
  exact K _ _ _ _ dX8_part_112 rfl hw
def X8_part_j25 (G : Shp) (post : Int32 → Dat → Prop) (v0 : Nat) (v1 : Int32) (v2 : Int32) (g1 : Nat) (g2 : Nat) (D : Dat) : Prop := X8_giveNone_wp G D v0 2 (fun r1 D2 => post r1 D2)
set_option maxRecDepth 100000 in
set_option maxHeartbeats 4000000 in
theorem X8_part_j25_ok {κ : Ctx} {G : Shp} {post : Int32 → Dat → Prop} {v0 : Nat} {v1 : Int32} {v2 : Int32} {g1 : Nat} {g2 : Nat} (C : Cx κ cX8_part RX8 (rmN 7) 4) (K : RtI κ cX8_part .int G post) (ho_v0 : isO G v0 8) (hr_g1 : G.2.2.2 v0 1 = some g1) (ho_g1 : isO G g1 2) (hr_g2 : G.2.2.2 v0 5 = some g2) (ho_g2 : isO G g2 0) (D : Dat) (hw : X8_part_j25 G post v0 v1 v2 g1 g2 D) : J κ 0 0 G D 25 [(0, .ref v0)] [] := by
  unfold X8_part_j25 at hw
  refine j_aload_n C dX8_part_25 rfl 0 rfl ?_
  refine j_iconst (v := 2) C dX8_part_26 (by decide) ?_
  refine j_cVI (As := [.int 2]) (st := []) C (X8_giveNone_ok κ.2.1 G D v0 2 _ hw) ho_v0 rfl k_349 mv_X8_giveNone ⟨by decide, by decide⟩ ⟨rfl, rfl⟩ rfl rfl (Nat.le_of_ble_eq_true rfl) ⟨Nat.zero_le _, Nat.zero_le _⟩ dX8_part_27 (fun r1 D2 hw => ?_)
  exact K _ _ _ _ dX8_part_30 rfl hw
def X8_part_wp (G : Shp) (D : Dat) (v0 : Nat) (v1 : Int32) (v2 : Int32) (post : Int32 → Dat → Prop) : Prop := isO G v0 8 ∧ ∃ g1, G.2.2.2 v0 1 = some g1 ∧ isO G g1 2 ∧ ∃ g2, G.2.2.2 v0 5 = some g2 ∧ isO G g2 0 ∧ X8_rowOf_wp G D v0 v1 (fun r1 D2 => (r1 = none → X8_giveNone_wp G D2 v0 1 (fun r4 D5 => post r4 D5)) ∧ (∀ y3, r1 = some y3 → ((v2 < 0 → X8_part_j25 G post v0 v1 v2 g1 g2 D2) ∧ (¬ (v2 < 0) → ((v2 ≤ 2 → X2_find_wp G D2 g1 y3 (-1) (fun r6 D7 => ((¬ r6 = 0 → ((¬ v2 = 0 → ((¬ v2 = 1 → X2_cost_wp G D7 g1 g2 (fun D9 => X8_part_j107 G post v0 v1 v2 g1 g2 D9)) ∧ (v2 = 1 → X2_slope_wp G D7 g1 g2 (fun D11 => X8_part_j107 G post v0 v1 v2 g1 g2 D11)))) ∧ (v2 = 0 → X2_level_wp G D7 g1 g2 (fun D13 => X8_tell_wp G D13 v0 (D13.1 g1 10) (fun r14 D15 => post r14 D15))))) ∧ (r6 = 0 → X8_giveNone_wp G D7 v0 6 (fun r16 D17 => post r16 D17))))) ∧ (¬ (v2 ≤ 2) → X8_part_j25 G post v0 v1 v2 g1 g2 D2))))))
set_option maxRecDepth 100000 in
set_option maxHeartbeats 4000000 in
theorem X8_part_ok (l : Launch) (G : Shp) (D : Dat) (v0 : Nat) (v1 : Int32) (v2 : Int32) (post : Int32 → Dat → Prop) (hw : X8_part_wp G D v0 v1 v2 post) : CtI l yX8_part cX8_part 4 .int (rmN 7) [.ref v0, .int v1, .int v2] G D post := by
  obtain ⟨ho_v0, g1, hr_g1, ho_g1, g2, hr_g2, ho_g2, hw⟩ := hw
  refine ctI_of (by decide) rfl (Nat.le_of_ble_eq_true rfl) ?_
  intro κ hκ C K
  subst hκ
  have C : Cx κ cX8_part RX8 (rmN 7) 4 := C
  refine j_aload_n C dX8_part_0 rfl 0 rfl ?_
  refine j_iload_n C dX8_part_1 rfl 1 rfl ?_
  refine j_cVQ (As := [.int v1]) (st := []) C (X8_rowOf_ok κ.2.1 G D v0 v1 _ hw) ho_v0 rfl k_299 mv_X8_rowOf ⟨by decide, by decide⟩ ⟨rfl, rfl⟩ rfl rfl (Nat.le_of_ble_eq_true rfl) ⟨Nat.zero_le _, Nat.zero_le _⟩ dX8_part_2 (fun r1 D2 hw => ?_)
  refine j_astore_nO C dX8_part_5 rfl (by decide) rfl ?_
  refine j_aload_nO C dX8_part_6 rfl 0 rfl ?_
  refine j_ifnonnull (tgt := 16) C dX8_part_7 (by decide) (fun y3 hc => ?_) (fun hc => ?_)
  · replace hw := hw.2 y3 hc
    subst hc
    show J κ 0 0 G D2 16 [(3, .ref y3), (0, .ref v0), (1, .int v1), (2, .int v2)] []
    refine j_iload_n C dX8_part_16 rfl 3 rfl ?_
    refine j_if_lt (tgt := 25) C dX8_part_17 (by decide) (fun hc => ?_) (fun hc => ?_)
    · have hw := hw.1 hc
      exact J.sub (X8_part_j25_ok C K ho_v0 hr_g1 ho_g1 hr_g2 ho_g2 D2 hw) [1] rfl
    · have hw := hw.2 hc
      refine j_iload_n C dX8_part_20 rfl 3 rfl ?_
      refine j_iconst (v := 2) C dX8_part_21 (by decide) ?_
      refine j_icmp_le (tgt := 31) C dX8_part_22 (by decide) (fun hc => ?_) (fun hc => ?_)
      · have hw := hw.1 hc
        refine j_aload_n C dX8_part_31 rfl 1 rfl ?_
        refine gf_8_1 C ho_v0 hr_g1 k_252 dX8_part_32 ?_
        refine j_aload_n C dX8_part_35 rfl 0 rfl ?_
        refine j_iconst (v := (-1)) C dX8_part_36 (by decide) ?_
        refine j_cVI (As := [.ref y3, .int (-1)]) (st := []) C (X2_find_ok κ.2.1 G D2 g1 y3 (-1) _ hw) ho_g1 rfl k_420 mv_X2_find ⟨by decide, by decide⟩ ⟨rfl, rfl⟩ rfl rfl (Nat.le_of_ble_eq_true rfl) ⟨Nat.zero_le _, Nat.zero_le _⟩ dX8_part_37 (fun r6 D7 hw => ?_)
        refine j_if_ne (tgt := 50) C dX8_part_40 (by decide) (fun hc => ?_) (fun hc => ?_)
        · have hw := hw.1 hc
          refine j_iload_n C dX8_part_50 rfl 3 rfl ?_
          refine j_if_ne (tgt := 77) C dX8_part_51 (by decide) (fun hc => ?_) (fun hc => ?_)
          · have hw := hw.1 hc
            refine j_iload_n C dX8_part_77 rfl 3 rfl ?_
            refine j_iconst (v := 1) C dX8_part_78 (by decide) ?_
            refine j_icmp_ne (tgt := 96) C dX8_part_79 (by decide) (fun hc => ?_) (fun hc => ?_)
            · have hw := hw.1 hc
              refine j_aload_n C dX8_part_96 rfl 1 rfl ?_
              refine gf_8_1 C ho_v0 hr_g1 k_252 dX8_part_97 ?_
              refine j_aload_n C dX8_part_100 rfl 1 rfl ?_
              refine gf_8_5 C ho_v0 hr_g2 k_256 dX8_part_101 ?_
              refine j_cVV (As := [.ref g2]) (st := []) C (X2_cost_ok κ.2.1 G D7 g1 g2 _ hw) ho_g1 rfl k_613 mv_X2_cost ⟨by decide, by decide⟩ ⟨rfl, rfl⟩ rfl rfl (Nat.le_of_ble_eq_true rfl) ⟨Nat.zero_le _, Nat.zero_le _⟩ dX8_part_104 (fun D9 hw => ?_)
              exact J.sub (X8_part_j107_ok C K ho_v0 hr_g1 ho_g1 hr_g2 ho_g2 D9 hw) [1] rfl
            · have hw := hw.2 hc
              refine j_aload_n C dX8_part_82 rfl 1 rfl ?_
              refine gf_8_1 C ho_v0 hr_g1 k_252 dX8_part_83 ?_
              refine j_aload_n C dX8_part_86 rfl 1 rfl ?_
              refine gf_8_5 C ho_v0 hr_g2 k_256 dX8_part_87 ?_
              refine j_cVV (As := [.ref g2]) (st := []) C (X2_slope_ok κ.2.1 G D7 g1 g2 _ hw) ho_g1 rfl k_608 mv_X2_slope ⟨by decide, by decide⟩ ⟨rfl, rfl⟩ rfl rfl (Nat.le_of_ble_eq_true rfl) ⟨Nat.zero_le _, Nat.zero_le _⟩ dX8_part_90 (fun D11 hw => ?_)
              refine j_goto (tgt := 107) C dX8_part_93 (by decide) ?_
              exact J.sub (X8_part_j107_ok C K ho_v0 hr_g1 ho_g1 hr_g2 ho_g2 D11 hw) [1] rfl
          · have hw := hw.2 hc
            refine j_aload_n C dX8_part_54 rfl 1 rfl ?_
            refine gf_8_1 C ho_v0 hr_g1 k_252 dX8_part_55 ?_
            refine j_aload_n C dX8_part_58 rfl 1 rfl ?_
            refine gf_8_5 C ho_v0 hr_g2 k_256 dX8_part_59 ?_
            refine j_cVV (As := [.ref g2]) (st := []) C (X2_level_ok κ.2.1 G D7 g1 g2 _ hw) ho_g1 rfl k_538 mv_X2_level ⟨by decide, by decide⟩ ⟨rfl, rfl⟩ rfl rfl (Nat.le_of_ble_eq_true rfl) ⟨Nat.zero_le _, Nat.zero_le _⟩ dX8_part_62 (fun D13 hw => ?_)
            refine j_aload_n C dX8_part_65 rfl 1 rfl ?_
            refine j_aload_n C dX8_part_66 rfl 1 rfl ?_
            refine gf_8_1 C ho_v0 hr_g1 k_252 dX8_part_67 ?_
            refine gf_2_10 C ho_g1 k_158 dX8_part_70 ?_
            refine j_cVI (As := [.int (D13.1 g1 10)]) (st := []) C (X8_tell_ok κ.2.1 G D13 v0 (D13.1 g1 10) _ hw) ho_v0 rfl k_546 mv_X8_tell ⟨by decide, by decide⟩ ⟨rfl, rfl⟩ rfl rfl (Nat.le_of_ble_eq_true rfl) ⟨Nat.zero_le _, Nat.zero_le _⟩ dX8_part_73 (fun r14 D15 hw => ?_)
            exact K _ _ _ _ dX8_part_76 rfl hw
        · have hw := hw.2 hc
          refine j_aload_n C dX8_part_43 rfl 1 rfl ?_
          refine j_bipush (v := 6) C dX8_part_44 (by decide) ?_
          refine j_cVI (As := [.int 6]) (st := []) C (X8_giveNone_ok κ.2.1 G D7 v0 6 _ hw) ho_v0 rfl k_349 mv_X8_giveNone ⟨by decide, by decide⟩ ⟨rfl, rfl⟩ rfl rfl (Nat.le_of_ble_eq_true rfl) ⟨Nat.zero_le _, Nat.zero_le _⟩ dX8_part_46 (fun r16 D17 hw => ?_)
          exact K _ _ _ _ dX8_part_49 rfl hw
      · have hw := hw.2 hc
        exact J.sub (X8_part_j25_ok C K ho_v0 hr_g1 ho_g1 hr_g2 ho_g2 D2 hw) [1] rfl
  · have hw := hw.1 hc
    refine j_aload_n C dX8_part_10 rfl 1 rfl ?_
    refine j_iconst (v := 1) C dX8_part_11 (by decide) ?_
    refine j_cVI (As := [.int 1]) (st := []) C (X8_giveNone_ok κ.2.1 G D2 v0 1 _ hw) ho_v0 rfl k_349 mv_X8_giveNone ⟨by decide, by decide⟩ ⟨rfl, rfl⟩ rfl rfl (Nat.le_of_ble_eq_true rfl) ⟨Nat.zero_le _, Nat.zero_le _⟩ dX8_part_12 (fun r4 D5 hw => ?_)
    exact K _ _ _ _ dX8_part_15 rfl hw
/-! X8_pull -/
def X8_pull_j26 (G : Shp) (post : Int32 → Dat → Prop) (v0 : Nat) (v1 : Int32) (v2 : Int32) (v3 : Int32) (g1 : Nat) (g2 : Nat) (D : Dat) : Prop := X8_giveNone_wp G D v0 1 (fun r1 D2 => post r1 D2)
set_option maxRecDepth 100000 in
set_option maxHeartbeats 4000000 in
theorem X8_pull_j26_ok {κ : Ctx} {G : Shp} {post : Int32 → Dat → Prop} {v0 : Nat} {v1 : Int32} {v2 : Int32} {v3 : Int32} {g1 : Nat} {g2 : Nat} (C : Cx κ cX8_pull RX8 (rmN 7) 5) (K : RtI κ cX8_pull .int G post) (ho_v0 : isO G v0 8) (hr_g1 : G.2.2.2 v0 1 = some g1) (ho_g1 : isO G g1 2) (hr_g2 : G.2.2.2 v0 5 = some g2) (ho_g2 : isO G g2 0) (D : Dat) (hw : X8_pull_j26 G post v0 v1 v2 v3 g1 g2 D) : J κ 0 0 G D 26 [(0, .ref v0)] [] := by
  unfold X8_pull_j26 at hw
  refine j_aload_n C dX8_pull_26 rfl 0 rfl ?_
  refine j_iconst (v := 1) C dX8_pull_27 (by decide) ?_
  refine j_cVI (As := [.int 1]) (st := []) C (X8_giveNone_ok κ.2.1 G D v0 1 _ hw) ho_v0 rfl k_349 mv_X8_giveNone ⟨by decide, by decide⟩ ⟨rfl, rfl⟩ rfl rfl (Nat.le_of_ble_eq_true rfl) ⟨Nat.zero_le _, Nat.zero_le _⟩ dX8_pull_28 (fun r1 D2 hw => ?_)
  exact K _ _ _ _ dX8_pull_31 rfl hw
def X8_pull_wp (G : Shp) (D : Dat) (v0 : Nat) (v1 : Int32) (v2 : Int32) (v3 : Int32) (post : Int32 → Dat → Prop) : Prop := isO G v0 8 ∧ ∃ g1, G.2.2.2 v0 1 = some g1 ∧ isO G g1 2 ∧ ∃ g2, G.2.2.2 v0 5 = some g2 ∧ isO G g2 0 ∧ X8_rowOf_wp G D v0 v1 (fun r1 D2 => (r1 = none → X8_pull_j26 G post v0 v1 v2 v3 g1 g2 D2) ∧ (∀ y3, r1 = some y3 → X8_isTick_wp G D2 v2 (fun r4 D5 => ((r4 = 0 → X8_pull_j26 G post v0 v1 v2 v3 g1 g2 D5) ∧ (¬ (r4 = 0) → X8_isFarTick_wp G D5 v3 (fun r6 D7 => ((¬ r6 = 0 → (isO G y3 3 ∧ X3_counts_wp G D7 y3 v2 (fun r9 D10 => ((¬ r9 = 0 → X2_find_wp G D10 g1 y3 v2 (fun r11 D12 => ((¬ r11 = 0 → X2_foretold_wp G D12 g1 v3 g2 (fun D14 => X8_tell_wp G D14 v0 1 (fun r15 D16 => post r15 D16))) ∧ (r11 = 0 → X8_giveNone_wp G D12 v0 6 (fun r17 D18 => post r17 D18))))) ∧ (r9 = 0 → X8_giveNone_wp G D10 v0 7 (fun r19 D20 => post r19 D20)))))) ∧ (r6 = 0 → X8_pull_j26 G post v0 v1 v2 v3 g1 g2 D7))))))))
set_option maxRecDepth 100000 in
set_option maxHeartbeats 4000000 in
theorem X8_pull_ok (l : Launch) (G : Shp) (D : Dat) (v0 : Nat) (v1 : Int32) (v2 : Int32) (v3 : Int32) (post : Int32 → Dat → Prop) (hw : X8_pull_wp G D v0 v1 v2 v3 post) : CtI l yX8_pull cX8_pull 5 .int (rmN 7) [.ref v0, .int v1, .int v2, .int v3] G D post := by
  obtain ⟨ho_v0, g1, hr_g1, ho_g1, g2, hr_g2, ho_g2, hw⟩ := hw
  refine ctI_of (by decide) rfl (Nat.le_of_ble_eq_true rfl) ?_
  intro κ hκ C K
  subst hκ
  have C : Cx κ cX8_pull RX8 (rmN 7) 5 := C
  refine j_aload_n C dX8_pull_0 rfl 0 rfl ?_
  refine j_iload_n C dX8_pull_1 rfl 1 rfl ?_
  refine j_cVQ (As := [.int v1]) (st := []) C (X8_rowOf_ok κ.2.1 G D v0 v1 _ hw) ho_v0 rfl k_299 mv_X8_rowOf ⟨by decide, by decide⟩ ⟨rfl, rfl⟩ rfl rfl (Nat.le_of_ble_eq_true rfl) ⟨Nat.zero_le _, Nat.zero_le _⟩ dX8_pull_2 (fun r1 D2 hw => ?_)
  refine j_astoreO C dX8_pull_5 (by decide) rfl ?_
  refine j_aloadO C dX8_pull_7 0 rfl ?_
  refine j_ifnull (tgt := 26) C dX8_pull_9 (by decide) (fun hc => ?_) (fun y3 hc => ?_)
  · have hw := hw.1 hc
    exact J.sub (X8_pull_j26_ok C K ho_v0 hr_g1 ho_g1 hr_g2 ho_g2 D2 hw) [1] rfl
  · replace hw := hw.2 y3 hc
    subst hc
    show J κ 0 0 G D2 12 [(4, .ref y3), (0, .ref v0), (1, .int v1), (2, .int v2), (3, .int v3)] []
    refine j_iload_n C dX8_pull_12 rfl 3 rfl ?_
    refine j_cSI (As := [.int v2]) (st := []) C (X8_isTick_ok κ.2.1 G D2 v2 _ hw) k_303 ms_X8_isTick ⟨by decide, by decide⟩ ⟨rfl, rfl⟩ rfl rfl (Nat.le_of_ble_eq_true rfl) ⟨Nat.zero_le _, Nat.zero_le _⟩ dX8_pull_13 (fun r4 D5 hw => ?_)
    refine j_if_eq (tgt := 26) C dX8_pull_16 (by decide) (fun hc => ?_) (fun hc => ?_)
    · have hw := hw.1 hc
      exact J.sub (X8_pull_j26_ok C K ho_v0 hr_g1 ho_g1 hr_g2 ho_g2 D5 hw) [1] rfl
    · have hw := hw.2 hc
      refine j_iload_n C dX8_pull_19 rfl 4 rfl ?_
      refine j_cSI (As := [.int v3]) (st := []) C (X8_isFarTick_ok κ.2.1 G D5 v3 _ hw) k_642 ms_X8_isFarTick ⟨by decide, by decide⟩ ⟨rfl, rfl⟩ rfl rfl (Nat.le_of_ble_eq_true rfl) ⟨Nat.zero_le _, Nat.zero_le _⟩ dX8_pull_20 (fun r6 D7 hw => ?_)
      refine j_if_ne (tgt := 32) C dX8_pull_23 (by decide) (fun hc => ?_) (fun hc => ?_)
      · have hw := hw.1 hc
        refine j_aload C dX8_pull_32 0 rfl ?_
        refine j_iload_n C dX8_pull_34 rfl 3 rfl ?_
        obtain ⟨ho8, hw⟩ := hw
        refine j_cVI (As := [.int v2]) (st := []) C (X3_counts_ok κ.2.1 G D7 y3 v2 _ hw) ho8 rfl k_684 mv_X3_counts ⟨by decide, by decide⟩ ⟨rfl, rfl⟩ rfl rfl (Nat.le_of_ble_eq_true rfl) ⟨Nat.zero_le _, Nat.zero_le _⟩ dX8_pull_35 (fun r9 D10 hw => ?_)
        refine j_if_ne (tgt := 48) C dX8_pull_38 (by decide) (fun hc => ?_) (fun hc => ?_)
        · have hw := hw.1 hc
          refine j_aload_n C dX8_pull_48 rfl 1 rfl ?_
          refine gf_8_1 C ho_v0 hr_g1 k_252 dX8_pull_49 ?_
          refine j_aload C dX8_pull_52 0 rfl ?_
          refine j_iload_n C dX8_pull_54 rfl 3 rfl ?_
          refine j_cVI (As := [.ref y3, .int v2]) (st := []) C (X2_find_ok κ.2.1 G D10 g1 y3 v2 _ hw) ho_g1 rfl k_420 mv_X2_find ⟨by decide, by decide⟩ ⟨rfl, rfl⟩ rfl rfl (Nat.le_of_ble_eq_true rfl) ⟨Nat.zero_le _, Nat.zero_le _⟩ dX8_pull_55 (fun r11 D12 hw => ?_)
          refine j_if_ne (tgt := 68) C dX8_pull_58 (by decide) (fun hc => ?_) (fun hc => ?_)
          · have hw := hw.1 hc
            refine j_aload_n C dX8_pull_68 rfl 1 rfl ?_
            refine gf_8_1 C ho_v0 hr_g1 k_252 dX8_pull_69 ?_
            refine j_iload_n C dX8_pull_72 rfl 4 rfl ?_
            refine j_aload_n C dX8_pull_73 rfl 1 rfl ?_
            refine gf_8_5 C ho_v0 hr_g2 k_256 dX8_pull_74 ?_
            refine j_cVV (As := [.int v3, .ref g2]) (st := []) C (X2_foretold_ok κ.2.1 G D12 g1 v3 g2 _ hw) ho_g1 rfl k_659 mv_X2_foretold ⟨by decide, by decide⟩ ⟨rfl, rfl⟩ rfl rfl (Nat.le_of_ble_eq_true rfl) ⟨Nat.zero_le _, Nat.zero_le _⟩ dX8_pull_77 (fun D14 hw => ?_)
            refine j_aload_n C dX8_pull_80 rfl 1 rfl ?_
            refine j_iconst (v := 1) C dX8_pull_81 (by decide) ?_
            refine j_cVI (As := [.int 1]) (st := []) C (X8_tell_ok κ.2.1 G D14 v0 1 _ hw) ho_v0 rfl k_546 mv_X8_tell ⟨by decide, by decide⟩ ⟨rfl, rfl⟩ rfl rfl (Nat.le_of_ble_eq_true rfl) ⟨Nat.zero_le _, Nat.zero_le _⟩ dX8_pull_82 (fun r15 D16 hw => ?_)
            exact K _ _ _ _ dX8_pull_85 rfl hw
          · have hw := hw.2 hc
            refine j_aload_n C dX8_pull_61 rfl 1 rfl ?_
            refine j_bipush (v := 6) C dX8_pull_62 (by decide) ?_
            refine j_cVI (As := [.int 6]) (st := []) C (X8_giveNone_ok κ.2.1 G D12 v0 6 _ hw) ho_v0 rfl k_349 mv_X8_giveNone ⟨by decide, by decide⟩ ⟨rfl, rfl⟩ rfl rfl (Nat.le_of_ble_eq_true rfl) ⟨Nat.zero_le _, Nat.zero_le _⟩ dX8_pull_64 (fun r17 D18 hw => ?_)
            exact K _ _ _ _ dX8_pull_67 rfl hw
        · have hw := hw.2 hc
          refine j_aload_n C dX8_pull_41 rfl 1 rfl ?_
          refine j_bipush (v := 7) C dX8_pull_42 (by decide) ?_
          refine j_cVI (As := [.int 7]) (st := []) C (X8_giveNone_ok κ.2.1 G D10 v0 7 _ hw) ho_v0 rfl k_349 mv_X8_giveNone ⟨by decide, by decide⟩ ⟨rfl, rfl⟩ rfl rfl (Nat.le_of_ble_eq_true rfl) ⟨Nat.zero_le _, Nat.zero_le _⟩ dX8_pull_44 (fun r19 D20 hw => ?_)
          exact K _ _ _ _ dX8_pull_47 rfl hw
      · have hw := hw.2 hc
        exact J.sub (X8_pull_j26_ok C K ho_v0 hr_g1 ho_g1 hr_g2 ho_g2 D7 hw) [1] rfl
/-! X8_rest -/
def X8_rest_j17 (G : Shp) (post : Int32 → Dat → Prop) (v0 : Nat) (v1 : Int32) (v2 : Int32) (g1 : Nat) (g2 : Nat) (D : Dat) : Prop := X8_giveNone_wp G D v0 1 (fun r1 D2 => post r1 D2)
set_option maxRecDepth 100000 in
set_option maxHeartbeats 4000000 in
theorem X8_rest_j17_ok {κ : Ctx} {G : Shp} {post : Int32 → Dat → Prop} {v0 : Nat} {v1 : Int32} {v2 : Int32} {g1 : Nat} {g2 : Nat} (C : Cx κ cX8_rest RX8 (rmN 7) 4) (K : RtI κ cX8_rest .int G post) (ho_v0 : isO G v0 8) (hr_g1 : G.2.2.2 v0 1 = some g1) (ho_g1 : isO G g1 2) (hr_g2 : G.2.2.2 v0 5 = some g2) (ho_g2 : isO G g2 0) (D : Dat) (hw : X8_rest_j17 G post v0 v1 v2 g1 g2 D) : J κ 0 0 G D 17 [(0, .ref v0)] [] := by
  unfold X8_rest_j17 at hw
  refine j_aload_n C dX8_rest_17 rfl 0 rfl ?_
  refine j_iconst (v := 1) C dX8_rest_18 (by decide) ?_
  refine j_cVI (As := [.int 1]) (st := []) C (X8_giveNone_ok κ.2.1 G D v0 1 _ hw) ho_v0 rfl k_349 mv_X8_giveNone ⟨by decide, by decide⟩ ⟨rfl, rfl⟩ rfl rfl (Nat.le_of_ble_eq_true rfl) ⟨Nat.zero_le _, Nat.zero_le _⟩ dX8_rest_19 (fun r1 D2 hw => ?_)
  exact K _ _ _ _ dX8_rest_22 rfl hw
def X8_rest_wp (G : Shp) (D : Dat) (v0 : Nat) (v1 : Int32) (v2 : Int32) (post : Int32 → Dat → Prop) : Prop := isO G v0 8 ∧ ∃ g1, G.2.2.2 v0 1 = some g1 ∧ isO G g1 2 ∧ ∃ g2, G.2.2.2 v0 5 = some g2 ∧ isO G g2 0 ∧ X8_rowOf_wp G D v0 v1 (fun r1 D2 => (r1 = none → X8_rest_j17 G post v0 v1 v2 g1 g2 D2) ∧ (∀ y3, r1 = some y3 → X8_isTick_wp G D2 v2 (fun r4 D5 => ((¬ r4 = 0 → (isO G y3 3 ∧ ∃ y7, G.2.2.2 y3 1 = some y7 ∧ isO G y7 7 ∧ X7_has_wp G D5 y7 v2 (fun r10 D11 => ((¬ r10 = 0 → X2_find_wp G D11 g1 y3 (-1) (fun r12 D13 => ((¬ r12 = 0 → X2_leftOver_wp G D13 g1 v2 g2 (fun D15 => X8_tell_wp G D15 v0 1 (fun r16 D17 => post r16 D17))) ∧ (r12 = 0 → X8_giveNone_wp G D13 v0 6 (fun r18 D19 => post r18 D19))))) ∧ (r10 = 0 → X8_giveNone_wp G D11 v0 7 (fun r20 D21 => post r20 D21)))))) ∧ (r4 = 0 → X8_rest_j17 G post v0 v1 v2 g1 g2 D5)))))
set_option maxRecDepth 100000 in
set_option maxHeartbeats 4000000 in
theorem X8_rest_ok (l : Launch) (G : Shp) (D : Dat) (v0 : Nat) (v1 : Int32) (v2 : Int32) (post : Int32 → Dat → Prop) (hw : X8_rest_wp G D v0 v1 v2 post) : CtI l yX8_rest cX8_rest 4 .int (rmN 7) [.ref v0, .int v1, .int v2] G D post := by
  obtain ⟨ho_v0, g1, hr_g1, ho_g1, g2, hr_g2, ho_g2, hw⟩ := hw
  refine ctI_of (by decide) rfl (Nat.le_of_ble_eq_true rfl) ?_
  intro κ hκ C K
  subst hκ
  have C : Cx κ cX8_rest RX8 (rmN 7) 4 := C
  refine j_aload_n C dX8_rest_0 rfl 0 rfl ?_
  refine j_iload_n C dX8_rest_1 rfl 1 rfl ?_
  refine j_cVQ (As := [.int v1]) (st := []) C (X8_rowOf_ok κ.2.1 G D v0 v1 _ hw) ho_v0 rfl k_299 mv_X8_rowOf ⟨by decide, by decide⟩ ⟨rfl, rfl⟩ rfl rfl (Nat.le_of_ble_eq_true rfl) ⟨Nat.zero_le _, Nat.zero_le _⟩ dX8_rest_2 (fun r1 D2 hw => ?_)
  refine j_astore_nO C dX8_rest_5 rfl (by decide) rfl ?_
  refine j_aload_nO C dX8_rest_6 rfl 0 rfl ?_
  refine j_ifnull (tgt := 17) C dX8_rest_7 (by decide) (fun hc => ?_) (fun y3 hc => ?_)
  · have hw := hw.1 hc
    exact J.sub (X8_rest_j17_ok C K ho_v0 hr_g1 ho_g1 hr_g2 ho_g2 D2 hw) [1] rfl
  · replace hw := hw.2 y3 hc
    subst hc
    show J κ 0 0 G D2 10 [(3, .ref y3), (0, .ref v0), (1, .int v1), (2, .int v2)] []
    refine j_iload_n C dX8_rest_10 rfl 3 rfl ?_
    refine j_cSI (As := [.int v2]) (st := []) C (X8_isTick_ok κ.2.1 G D2 v2 _ hw) k_303 ms_X8_isTick ⟨by decide, by decide⟩ ⟨rfl, rfl⟩ rfl rfl (Nat.le_of_ble_eq_true rfl) ⟨Nat.zero_le _, Nat.zero_le _⟩ dX8_rest_11 (fun r4 D5 hw => ?_)
    refine j_if_ne (tgt := 23) C dX8_rest_14 (by decide) (fun hc => ?_) (fun hc => ?_)
    · have hw := hw.1 hc
      refine j_aload_n C dX8_rest_23 rfl 0 rfl ?_
      obtain ⟨ho6, hw⟩ := hw
      obtain ⟨y7, hr8, ho9, hw⟩ := hw
      refine gf_3_1 C ho6 hr8 k_87 dX8_rest_24 ?_
      refine j_iload_n C dX8_rest_27 rfl 3 rfl ?_
      refine j_cVI (As := [.int v2]) (st := []) C (X7_has_ok κ.2.1 G D5 y7 v2 _ hw) ho9 rfl k_353 mv_X7_has ⟨by decide, by decide⟩ ⟨rfl, rfl⟩ rfl rfl (Nat.le_of_ble_eq_true rfl) ⟨Nat.zero_le _, Nat.zero_le _⟩ dX8_rest_28 (fun r10 D11 hw => ?_)
      refine j_if_ne (tgt := 41) C dX8_rest_31 (by decide) (fun hc => ?_) (fun hc => ?_)
      · have hw := hw.1 hc
        refine j_aload_n C dX8_rest_41 rfl 1 rfl ?_
        refine gf_8_1 C ho_v0 hr_g1 k_252 dX8_rest_42 ?_
        refine j_aload_n C dX8_rest_45 rfl 0 rfl ?_
        refine j_iconst (v := (-1)) C dX8_rest_46 (by decide) ?_
        refine j_cVI (As := [.ref y3, .int (-1)]) (st := []) C (X2_find_ok κ.2.1 G D11 g1 y3 (-1) _ hw) ho_g1 rfl k_420 mv_X2_find ⟨by decide, by decide⟩ ⟨rfl, rfl⟩ rfl rfl (Nat.le_of_ble_eq_true rfl) ⟨Nat.zero_le _, Nat.zero_le _⟩ dX8_rest_47 (fun r12 D13 hw => ?_)
        refine j_if_ne (tgt := 60) C dX8_rest_50 (by decide) (fun hc => ?_) (fun hc => ?_)
        · have hw := hw.1 hc
          refine j_aload_n C dX8_rest_60 rfl 1 rfl ?_
          refine gf_8_1 C ho_v0 hr_g1 k_252 dX8_rest_61 ?_
          refine j_iload_n C dX8_rest_64 rfl 3 rfl ?_
          refine j_aload_n C dX8_rest_65 rfl 1 rfl ?_
          refine gf_8_5 C ho_v0 hr_g2 k_256 dX8_rest_66 ?_
          refine j_cVV (As := [.int v2, .ref g2]) (st := []) C (X2_leftOver_ok κ.2.1 G D13 g1 v2 g2 _ hw) ho_g1 rfl k_671 mv_X2_leftOver ⟨by decide, by decide⟩ ⟨rfl, rfl⟩ rfl rfl (Nat.le_of_ble_eq_true rfl) ⟨Nat.zero_le _, Nat.zero_le _⟩ dX8_rest_69 (fun D15 hw => ?_)
          refine j_aload_n C dX8_rest_72 rfl 1 rfl ?_
          refine j_iconst (v := 1) C dX8_rest_73 (by decide) ?_
          refine j_cVI (As := [.int 1]) (st := []) C (X8_tell_ok κ.2.1 G D15 v0 1 _ hw) ho_v0 rfl k_546 mv_X8_tell ⟨by decide, by decide⟩ ⟨rfl, rfl⟩ rfl rfl (Nat.le_of_ble_eq_true rfl) ⟨Nat.zero_le _, Nat.zero_le _⟩ dX8_rest_74 (fun r16 D17 hw => ?_)
          exact K _ _ _ _ dX8_rest_77 rfl hw
        · have hw := hw.2 hc
          refine j_aload_n C dX8_rest_53 rfl 1 rfl ?_
          refine j_bipush (v := 6) C dX8_rest_54 (by decide) ?_
          refine j_cVI (As := [.int 6]) (st := []) C (X8_giveNone_ok κ.2.1 G D13 v0 6 _ hw) ho_v0 rfl k_349 mv_X8_giveNone ⟨by decide, by decide⟩ ⟨rfl, rfl⟩ rfl rfl (Nat.le_of_ble_eq_true rfl) ⟨Nat.zero_le _, Nat.zero_le _⟩ dX8_rest_56 (fun r18 D19 hw => ?_)
          exact K _ _ _ _ dX8_rest_59 rfl hw
      · have hw := hw.2 hc
        refine j_aload_n C dX8_rest_34 rfl 1 rfl ?_
        refine j_bipush (v := 7) C dX8_rest_35 (by decide) ?_
        refine j_cVI (As := [.int 7]) (st := []) C (X8_giveNone_ok κ.2.1 G D11 v0 7 _ hw) ho_v0 rfl k_349 mv_X8_giveNone ⟨by decide, by decide⟩ ⟨rfl, rfl⟩ rfl rfl (Nat.le_of_ble_eq_true rfl) ⟨Nat.zero_le _, Nat.zero_le _⟩ dX8_rest_37 (fun r20 D21 hw => ?_)
        exact K _ _ _ _ dX8_rest_40 rfl hw
    · have hw := hw.2 hc
      exact J.sub (X8_rest_j17_ok C K ho_v0 hr_g1 ho_g1 hr_g2 ho_g2 D5 hw) [1] rfl
/-! X8_right -/
def X8_right_j150 (G : Shp) (post : Int32 → Dat → Prop) (v0 : Nat) (v1 : Int32) (v2 : Int32) (v3 : Int32) (v4 : Int32) (v5 : Int32) (v6 : Int32) (g1 : Nat) (v7 : Int32) (s0 : Int32) (D : Dat) : Prop := ((¬ s0 = 0 → X1_divideBy_wp G D g1 v7 (fun D2 => X8_tellAnswer_wp G D2 v0 (fun r3 D4 => post r3 D4))) ∧ (s0 = 0 → X8_giveNone_wp G D v0 6 (fun r5 D6 => post r5 D6)))
set_option maxRecDepth 100000 in
set_option maxHeartbeats 4000000 in
theorem X8_right_j150_ok {κ : Ctx} {G : Shp} {post : Int32 → Dat → Prop} {v0 : Nat} {v1 : Int32} {v2 : Int32} {v3 : Int32} {v4 : Int32} {v5 : Int32} {v6 : Int32} {g1 : Nat} (C : Cx κ cX8_right RX8 (rmN 7) 9) (K : RtI κ cX8_right .int G post) (ho_v0 : isO G v0 8) (hr_g1 : G.2.2.2 v0 3 = some g1) (ho_g1 : isO G g1 1) (v7 : Int32) (s0 : Int32) (D : Dat) (hw : X8_right_j150 G post v0 v1 v2 v3 v4 v5 v6 g1 v7 s0 D) : J κ 0 0 G D 150 [(0, .ref v0), (7, .int v7)] [.int s0] := by
  unfold X8_right_j150 at hw
  refine j_istore C dX8_right_150 (by decide) rfl ?_
  refine j_iload C dX8_right_152 0 rfl ?_
  refine j_if_ne (tgt := 164) C dX8_right_154 (by decide) (fun hc => ?_) (fun hc => ?_)
  · have hw := hw.1 hc
    refine j_aload_n C dX8_right_164 rfl 1 rfl ?_
    refine gf_8_3 C ho_v0 hr_g1 k_254 dX8_right_165 ?_
    refine j_iload C dX8_right_168 2 rfl ?_
    refine j_cVV (As := [.int v7]) (st := []) C (X1_divideBy_ok κ.2.1 G D g1 v7 _ hw) ho_g1 rfl k_568 mv_X1_divideBy ⟨by decide, by decide⟩ ⟨rfl, rfl⟩ rfl rfl (Nat.le_of_ble_eq_true rfl) ⟨Nat.zero_le _, Nat.zero_le _⟩ dX8_right_170 (fun D2 hw => ?_)
    refine j_aload_n C dX8_right_173 rfl 1 rfl ?_
    refine j_cVI (As := []) (st := []) C (X8_tellAnswer_ok κ.2.1 G D2 v0 _ hw) ho_v0 rfl k_572 mv_X8_tellAnswer ⟨by decide, by decide⟩ ⟨rfl, rfl⟩ rfl rfl (Nat.le_of_ble_eq_true rfl) ⟨Nat.zero_le _, Nat.zero_le _⟩ dX8_right_174 (fun r3 D4 hw => ?_)
    exact K _ _ _ _ dX8_right_177 rfl hw
  · have hw := hw.2 hc
    refine j_aload_n C dX8_right_157 rfl 1 rfl ?_
    refine j_bipush (v := 6) C dX8_right_158 (by decide) ?_
    refine j_cVI (As := [.int 6]) (st := []) C (X8_giveNone_ok κ.2.1 G D v0 6 _ hw) ho_v0 rfl k_349 mv_X8_giveNone ⟨by decide, by decide⟩ ⟨rfl, rfl⟩ rfl rfl (Nat.le_of_ble_eq_true rfl) ⟨Nat.zero_le _, Nat.zero_le _⟩ dX8_right_160 (fun r5 D6 hw => ?_)
    exact K _ _ _ _ dX8_right_163 rfl hw
def X8_right_j149 (G : Shp) (post : Int32 → Dat → Prop) (v0 : Nat) (v1 : Int32) (v2 : Int32) (v3 : Int32) (v4 : Int32) (v5 : Int32) (v6 : Int32) (g1 : Nat) (v7 : Int32) (D : Dat) : Prop := X8_right_j150 G post v0 v1 v2 v3 v4 v5 v6 g1 v7 0 D
set_option maxRecDepth 100000 in
set_option maxHeartbeats 4000000 in
theorem X8_right_j149_ok {κ : Ctx} {G : Shp} {post : Int32 → Dat → Prop} {v0 : Nat} {v1 : Int32} {v2 : Int32} {v3 : Int32} {v4 : Int32} {v5 : Int32} {v6 : Int32} {g1 : Nat} (C : Cx κ cX8_right RX8 (rmN 7) 9) (K : RtI κ cX8_right .int G post) (ho_v0 : isO G v0 8) (hr_g1 : G.2.2.2 v0 3 = some g1) (ho_g1 : isO G g1 1) (v7 : Int32) (D : Dat) (hw : X8_right_j149 G post v0 v1 v2 v3 v4 v5 v6 g1 v7 D) : J κ 0 0 G D 149 [(0, .ref v0), (7, .int v7)] [] := by
  unfold X8_right_j149 at hw
  refine j_iconst (v := 0) C dX8_right_149 (by decide) ?_
  exact J.sub (X8_right_j150_ok C K ho_v0 hr_g1 ho_g1 v7 0 D hw) [0, 1] rfl
def X8_right_j133 (G : Shp) (post : Int32 → Dat → Prop) (v0 : Nat) (v1 : Int32) (v2 : Int32) (v3 : Int32) (v4 : Int32) (v5 : Int32) (v6 : Int32) (g1 : Nat) (v7 : Int32) (D : Dat) : Prop := X8_addForetold_wp G D v0 v4 1 v6 (fun r1 D2 => ((r1 = 0 → X8_right_j149 G post v0 v1 v2 v3 v4 v5 v6 g1 v7 D2) ∧ (¬ (r1 = 0) → X8_right_j150 G post v0 v1 v2 v3 v4 v5 v6 g1 v7 1 D2)))
set_option maxRecDepth 100000 in
set_option maxHeartbeats 4000000 in
theorem X8_right_j133_ok {κ : Ctx} {G : Shp} {post : Int32 → Dat → Prop} {v0 : Nat} {v1 : Int32} {v2 : Int32} {v3 : Int32} {v4 : Int32} {v5 : Int32} {v6 : Int32} {g1 : Nat} (C : Cx κ cX8_right RX8 (rmN 7) 9) (K : RtI κ cX8_right .int G post) (ho_v0 : isO G v0 8) (hr_g1 : G.2.2.2 v0 3 = some g1) (ho_g1 : isO G g1 1) (v7 : Int32) (D : Dat) (hw : X8_right_j133 G post v0 v1 v2 v3 v4 v5 v6 g1 v7 D) : J κ 0 0 G D 133 [(0, .ref v0), (4, .int v4), (6, .int v6), (7, .int v7)] [] := by
  unfold X8_right_j133 at hw
  refine j_aload_n C dX8_right_133 rfl 0 rfl ?_
  refine j_iload C dX8_right_134 1 rfl ?_
  refine j_iconst (v := 1) C dX8_right_136 (by decide) ?_
  refine j_iload C dX8_right_137 2 rfl ?_
  refine j_cVI (As := [.int v4, .int 1, .int v6]) (st := []) C (X8_addForetold_ok κ.2.1 G D v0 v4 1 v6 _ hw) ho_v0 rfl k_753 mv_X8_addForetold ⟨by decide, by decide⟩ ⟨rfl, rfl⟩ rfl rfl (Nat.le_of_ble_eq_true rfl) ⟨Nat.zero_le _, Nat.zero_le _⟩ dX8_right_139 (fun r1 D2 hw => ?_)
  refine j_if_eq (tgt := 149) C dX8_right_142 (by decide) (fun hc => ?_) (fun hc => ?_)
  · have hw := hw.1 hc
    exact J.sub (X8_right_j149_ok C K ho_v0 hr_g1 ho_g1 v7 D2 hw) [0, 3] rfl
  · have hw := hw.2 hc
    refine j_iconst (v := 1) C dX8_right_145 (by decide) ?_
    refine j_goto (tgt := 150) C dX8_right_146 (by decide) ?_
    exact J.sub (X8_right_j150_ok C K ho_v0 hr_g1 ho_g1 v7 1 D2 hw) [0, 3] rfl
def X8_right_j125 (G : Shp) (post : Int32 → Dat → Prop) (v0 : Nat) (v1 : Int32) (v2 : Int32) (v3 : Int32) (v4 : Int32) (v5 : Int32) (v6 : Int32) (g1 : Nat) (v7 : Int32) (s0 : Int32) (s1 : Int32) (s2 : Nat) (D : Dat) : Prop := (isO G s2 8 ∧ X8_addForetold_wp G D s2 s1 s0 v6 (fun r2 D3 => ((r2 = 0 → X8_right_j149 G post v0 v1 v2 v3 v4 v5 v6 g1 v7 D3) ∧ (¬ (r2 = 0) → X8_right_j133 G post v0 v1 v2 v3 v4 v5 v6 g1 v7 D3))))
set_option maxRecDepth 100000 in
set_option maxHeartbeats 4000000 in
theorem X8_right_j125_ok {κ : Ctx} {G : Shp} {post : Int32 → Dat → Prop} {v0 : Nat} {v1 : Int32} {v2 : Int32} {v3 : Int32} {v4 : Int32} {v5 : Int32} {v6 : Int32} {g1 : Nat} (C : Cx κ cX8_right RX8 (rmN 7) 9) (K : RtI κ cX8_right .int G post) (ho_v0 : isO G v0 8) (hr_g1 : G.2.2.2 v0 3 = some g1) (ho_g1 : isO G g1 1) (v7 : Int32) (s0 : Int32) (s1 : Int32) (s2 : Nat) (D : Dat) (hw : X8_right_j125 G post v0 v1 v2 v3 v4 v5 v6 g1 v7 s0 s1 s2 D) : J κ 0 0 G D 125 [(0, .ref v0), (4, .int v4), (6, .int v6), (7, .int v7)] [.int s0, .int s1, .ref s2] := by
  unfold X8_right_j125 at hw
  refine j_iload C dX8_right_125 2 rfl ?_
  obtain ⟨ho1, hw⟩ := hw
  refine j_cVI (As := [.int s1, .int s0, .int v6]) (st := []) C (X8_addForetold_ok κ.2.1 G D s2 s1 s0 v6 _ hw) ho1 rfl k_753 mv_X8_addForetold ⟨by decide, by decide⟩ ⟨rfl, rfl⟩ rfl rfl (Nat.le_of_ble_eq_true rfl) ⟨Nat.zero_le _, Nat.zero_le _⟩ dX8_right_127 (fun r2 D3 hw => ?_)
  refine j_if_eq (tgt := 149) C dX8_right_130 (by decide) (fun hc => ?_) (fun hc => ?_)
  · have hw := hw.1 hc
    exact J.sub (X8_right_j149_ok C K ho_v0 hr_g1 ho_g1 v7 D3 hw) [0, 3] rfl
  · have hw := hw.2 hc
    exact J.sub (X8_right_j133_ok C K ho_v0 hr_g1 ho_g1 v7 D3 hw) [0, 1, 2, 3] rfl
def X8_right_j96 (G : Shp) (post : Int32 → Dat → Prop) (v0 : Nat) (v1 : Int32) (v2 : Int32) (v3 : Int32) (v4 : Int32) (v5 : Int32) (v6 : Int32) (g1 : Nat) (v7 : Int32) (s0 : Int32) (s1 : Int32) (s2 : Nat) (D : Dat) : Prop := (isO G s2 8 ∧ X8_addForetold_wp G D s2 s1 s0 v6 (fun r2 D3 => ((r2 = 0 → X8_right_j149 G post v0 v1 v2 v3 v4 v5 v6 g1 v7 D3) ∧ (¬ (r2 = 0) → ((v3 = (-1) → X8_right_j133 G post v0 v1 v2 v3 v4 v5 v6 g1 v7 D3) ∧ (¬ (v3 = (-1)) → ((¬ v5 = 2 → X8_right_j125 G post v0 v1 v2 v3 v4 v5 v6 g1 v7 (-1) v3 v0 D3) ∧ (v5 = 2 → X8_right_j125 G post v0 v1 v2 v3 v4 v5 v6 g1 v7 (v7 - 1) v3 v0 D3))))))))
set_option maxRecDepth 100000 in
set_option maxHeartbeats 4000000 in
theorem X8_right_j96_ok {κ : Ctx} {G : Shp} {post : Int32 → Dat → Prop} {v0 : Nat} {v1 : Int32} {v2 : Int32} {v3 : Int32} {v4 : Int32} {v5 : Int32} {v6 : Int32} {g1 : Nat} (C : Cx κ cX8_right RX8 (rmN 7) 9) (K : RtI κ cX8_right .int G post) (ho_v0 : isO G v0 8) (hr_g1 : G.2.2.2 v0 3 = some g1) (ho_g1 : isO G g1 1) (v7 : Int32) (s0 : Int32) (s1 : Int32) (s2 : Nat) (D : Dat) (hw : X8_right_j96 G post v0 v1 v2 v3 v4 v5 v6 g1 v7 s0 s1 s2 D) : J κ 0 0 G D 96 [(0, .ref v0), (3, .int v3), (4, .int v4), (5, .int v5), (6, .int v6), (7, .int v7)] [.int s0, .int s1, .ref s2] := by
  unfold X8_right_j96 at hw
  refine j_iload C dX8_right_96 4 rfl ?_
  obtain ⟨ho1, hw⟩ := hw
  refine j_cVI (As := [.int s1, .int s0, .int v6]) (st := []) C (X8_addForetold_ok κ.2.1 G D s2 s1 s0 v6 _ hw) ho1 rfl k_753 mv_X8_addForetold ⟨by decide, by decide⟩ ⟨rfl, rfl⟩ rfl rfl (Nat.le_of_ble_eq_true rfl) ⟨Nat.zero_le _, Nat.zero_le _⟩ dX8_right_98 (fun r2 D3 hw => ?_)
  refine j_if_eq (tgt := 149) C dX8_right_101 (by decide) (fun hc => ?_) (fun hc => ?_)
  · have hw := hw.1 hc
    exact J.sub (X8_right_j149_ok C K ho_v0 hr_g1 ho_g1 v7 D3 hw) [0, 5] rfl
  · have hw := hw.2 hc
    refine j_iload_n C dX8_right_104 rfl 1 rfl ?_
    refine j_iconst (v := (-1)) C dX8_right_105 (by decide) ?_
    refine j_icmp_eq (tgt := 133) C dX8_right_106 (by decide) (fun hc => ?_) (fun hc => ?_)
    · have hw := hw.1 hc
      exact J.sub (X8_right_j133_ok C K ho_v0 hr_g1 ho_g1 v7 D3 hw) [0, 2, 4, 5] rfl
    · have hw := hw.2 hc
      refine j_aload_n C dX8_right_109 rfl 0 rfl ?_
      refine j_iload_n C dX8_right_110 rfl 1 rfl ?_
      refine j_iload C dX8_right_111 3 rfl ?_
      refine j_iconst (v := 2) C dX8_right_113 (by decide) ?_
      refine j_icmp_ne (tgt := 124) C dX8_right_114 (by decide) (fun hc => ?_) (fun hc => ?_)
      · have hw := hw.1 hc
        refine j_iconst (v := (-1)) C dX8_right_124 (by decide) ?_
        exact J.sub (X8_right_j125_ok C K ho_v0 hr_g1 ho_g1 v7 (-1) v3 v0 D3 hw) [0, 2, 4, 5] rfl
      · have hw := hw.2 hc
        refine j_iload C dX8_right_117 5 rfl ?_
        refine j_iconst (v := 1) C dX8_right_119 (by decide) ?_
        refine j_isub C dX8_right_120 ?_
        refine j_goto (tgt := 125) C dX8_right_121 (by decide) ?_
        exact J.sub (X8_right_j125_ok C K ho_v0 hr_g1 ho_g1 v7 (v7 - 1) v3 v0 D3 hw) [0, 2, 4, 5] rfl
def X8_right_j72 (G : Shp) (post : Int32 → Dat → Prop) (v0 : Nat) (v1 : Int32) (v2 : Int32) (v3 : Int32) (v4 : Int32) (v5 : Int32) (v6 : Int32) (g1 : Nat) (v7 : Int32) (s0 : Int32) (s1 : Int32) (s2 : Nat) (D : Dat) : Prop := (isO G s2 8 ∧ X8_addForetold_wp G D s2 s1 s0 v6 (fun r2 D3 => ((r2 = 0 → X8_right_j149 G post v0 v1 v2 v3 v4 v5 v6 g1 v7 D3) ∧ (¬ (r2 = 0) → ((¬ v5 = 1 → X8_right_j96 G post v0 v1 v2 v3 v4 v5 v6 g1 v7 (-1) v2 v0 D3) ∧ (v5 = 1 → X8_right_j96 G post v0 v1 v2 v3 v4 v5 v6 g1 v7 (v7 - 1) v2 v0 D3))))))
set_option maxRecDepth 100000 in
set_option maxHeartbeats 4000000 in
theorem X8_right_j72_ok {κ : Ctx} {G : Shp} {post : Int32 → Dat → Prop} {v0 : Nat} {v1 : Int32} {v2 : Int32} {v3 : Int32} {v4 : Int32} {v5 : Int32} {v6 : Int32} {g1 : Nat} (C : Cx κ cX8_right RX8 (rmN 7) 9) (K : RtI κ cX8_right .int G post) (ho_v0 : isO G v0 8) (hr_g1 : G.2.2.2 v0 3 = some g1) (ho_g1 : isO G g1 1) (v7 : Int32) (s0 : Int32) (s1 : Int32) (s2 : Nat) (D : Dat) (hw : X8_right_j72 G post v0 v1 v2 v3 v4 v5 v6 g1 v7 s0 s1 s2 D) : J κ 0 0 G D 72 [(0, .ref v0), (2, .int v2), (3, .int v3), (4, .int v4), (5, .int v5), (6, .int v6), (7, .int v7)] [.int s0, .int s1, .ref s2] := by
  unfold X8_right_j72 at hw
  refine j_iload C dX8_right_72 5 rfl ?_
  obtain ⟨ho1, hw⟩ := hw
  refine j_cVI (As := [.int s1, .int s0, .int v6]) (st := []) C (X8_addForetold_ok κ.2.1 G D s2 s1 s0 v6 _ hw) ho1 rfl k_753 mv_X8_addForetold ⟨by decide, by decide⟩ ⟨rfl, rfl⟩ rfl rfl (Nat.le_of_ble_eq_true rfl) ⟨Nat.zero_le _, Nat.zero_le _⟩ dX8_right_74 (fun r2 D3 hw => ?_)
  refine j_if_eq (tgt := 149) C dX8_right_77 (by decide) (fun hc => ?_) (fun hc => ?_)
  · have hw := hw.1 hc
    exact J.sub (X8_right_j149_ok C K ho_v0 hr_g1 ho_g1 v7 D3 hw) [0, 6] rfl
  · have hw := hw.2 hc
    refine j_aload_n C dX8_right_80 rfl 0 rfl ?_
    refine j_iload_n C dX8_right_81 rfl 1 rfl ?_
    refine j_iload C dX8_right_82 4 rfl ?_
    refine j_iconst (v := 1) C dX8_right_84 (by decide) ?_
    refine j_icmp_ne (tgt := 95) C dX8_right_85 (by decide) (fun hc => ?_) (fun hc => ?_)
    · have hw := hw.1 hc
      refine j_iconst (v := (-1)) C dX8_right_95 (by decide) ?_
      exact J.sub (X8_right_j96_ok C K ho_v0 hr_g1 ho_g1 v7 (-1) v2 v0 D3 hw) [0, 2, 3, 4, 5, 6] rfl
    · have hw := hw.2 hc
      refine j_iload C dX8_right_88 6 rfl ?_
      refine j_iconst (v := 1) C dX8_right_90 (by decide) ?_
      refine j_isub C dX8_right_91 ?_
      refine j_goto (tgt := 96) C dX8_right_92 (by decide) ?_
      exact J.sub (X8_right_j96_ok C K ho_v0 hr_g1 ho_g1 v7 (v7 - 1) v2 v0 D3 hw) [0, 2, 3, 4, 5, 6] rfl
def X8_right_j44 (G : Shp) (post : Int32 → Dat → Prop) (v0 : Nat) (v1 : Int32) (v2 : Int32) (v3 : Int32) (v4 : Int32) (v5 : Int32) (v6 : Int32) (g1 : Nat) (D : Dat) : Prop := X8_giveNone_wp G D v0 1 (fun r1 D2 => post r1 D2)
set_option maxRecDepth 100000 in
set_option maxHeartbeats 4000000 in
theorem X8_right_j44_ok {κ : Ctx} {G : Shp} {post : Int32 → Dat → Prop} {v0 : Nat} {v1 : Int32} {v2 : Int32} {v3 : Int32} {v4 : Int32} {v5 : Int32} {v6 : Int32} {g1 : Nat} (C : Cx κ cX8_right RX8 (rmN 7) 9) (K : RtI κ cX8_right .int G post) (ho_v0 : isO G v0 8) (hr_g1 : G.2.2.2 v0 3 = some g1) (ho_g1 : isO G g1 1) (D : Dat) (hw : X8_right_j44 G post v0 v1 v2 v3 v4 v5 v6 g1 D) : J κ 0 0 G D 44 [(0, .ref v0)] [] := by
  unfold X8_right_j44 at hw
  refine j_aload_n C dX8_right_44 rfl 0 rfl ?_
  refine j_iconst (v := 1) C dX8_right_45 (by decide) ?_
  refine j_cVI (As := [.int 1]) (st := []) C (X8_giveNone_ok κ.2.1 G D v0 1 _ hw) ho_v0 rfl k_349 mv_X8_giveNone ⟨by decide, by decide⟩ ⟨rfl, rfl⟩ rfl rfl (Nat.le_of_ble_eq_true rfl) ⟨Nat.zero_le _, Nat.zero_le _⟩ dX8_right_46 (fun r1 D2 hw => ?_)
  exact K _ _ _ _ dX8_right_49 rfl hw
def X8_right_j10 (G : Shp) (post : Int32 → Dat → Prop) (v0 : Nat) (v1 : Int32) (v2 : Int32) (v3 : Int32) (v4 : Int32) (v5 : Int32) (v6 : Int32) (g1 : Nat) (s0 : Int32) (D : Dat) : Prop := X8_areFourRows_wp G D v0 v1 v2 v3 v4 (fun r1 D2 => ((r1 = 0 → X8_right_j44 G post v0 v1 v2 v3 v4 v5 v6 g1 D2) ∧ (¬ (r1 = 0) → ((v5 < 0 → X8_right_j44 G post v0 v1 v2 v3 v4 v5 v6 g1 D2) ∧ (¬ (v5 < 0) → ((s0 ≤ v5 → X8_right_j44 G post v0 v1 v2 v3 v4 v5 v6 g1 D2) ∧ (¬ (s0 ≤ v5) → X8_isFarTick_wp G D2 v6 (fun r3 D4 => ((¬ r3 = 0 → X1_start_wp G D4 g1 (fun D6 => ((¬ v5 = 0 → X8_right_j72 G post v0 v1 v2 v3 v4 v5 v6 g1 s0 (-1) v1 v0 D6) ∧ (v5 = 0 → X8_right_j72 G post v0 v1 v2 v3 v4 v5 v6 g1 s0 (s0 - 1) v1 v0 D6)))) ∧ (r3 = 0 → X8_right_j44 G post v0 v1 v2 v3 v4 v5 v6 g1 D4))))))))))
set_option maxRecDepth 100000 in
set_option maxHeartbeats 4000000 in
theorem X8_right_j10_ok {κ : Ctx} {G : Shp} {post : Int32 → Dat → Prop} {v0 : Nat} {v1 : Int32} {v2 : Int32} {v3 : Int32} {v4 : Int32} {v5 : Int32} {v6 : Int32} {g1 : Nat} (C : Cx κ cX8_right RX8 (rmN 7) 9) (K : RtI κ cX8_right .int G post) (ho_v0 : isO G v0 8) (hr_g1 : G.2.2.2 v0 3 = some g1) (ho_g1 : isO G g1 1) (s0 : Int32) (D : Dat) (hw : X8_right_j10 G post v0 v1 v2 v3 v4 v5 v6 g1 s0 D) : J κ 0 0 G D 10 [(0, .ref v0), (1, .int v1), (2, .int v2), (3, .int v3), (4, .int v4), (5, .int v5), (6, .int v6)] [.int s0] := by
  unfold X8_right_j10 at hw
  refine j_istore C dX8_right_10 (by decide) rfl ?_
  refine j_aload_n C dX8_right_12 rfl 1 rfl ?_
  refine j_iload_n C dX8_right_13 rfl 2 rfl ?_
  refine j_iload_n C dX8_right_14 rfl 3 rfl ?_
  refine j_iload_n C dX8_right_15 rfl 4 rfl ?_
  refine j_iload C dX8_right_16 5 rfl ?_
  refine j_cVI (As := [.int v1, .int v2, .int v3, .int v4]) (st := []) C (X8_areFourRows_ok κ.2.1 G D v0 v1 v2 v3 v4 _ hw) ho_v0 rfl k_749 mv_X8_areFourRows ⟨by decide, by decide⟩ ⟨rfl, rfl⟩ rfl rfl (Nat.le_of_ble_eq_true rfl) ⟨Nat.zero_le _, Nat.zero_le _⟩ dX8_right_18 (fun r1 D2 hw => ?_)
  refine j_if_eq (tgt := 44) C dX8_right_21 (by decide) (fun hc => ?_) (fun hc => ?_)
  · have hw := hw.1 hc
    exact J.sub (X8_right_j44_ok C K ho_v0 hr_g1 ho_g1 D2 hw) [1] rfl
  · have hw := hw.2 hc
    refine j_iload C dX8_right_24 6 rfl ?_
    refine j_if_lt (tgt := 44) C dX8_right_26 (by decide) (fun hc => ?_) (fun hc => ?_)
    · have hw := hw.1 hc
      exact J.sub (X8_right_j44_ok C K ho_v0 hr_g1 ho_g1 D2 hw) [1] rfl
    · have hw := hw.2 hc
      refine j_iload C dX8_right_29 6 rfl ?_
      refine j_iload C dX8_right_31 0 rfl ?_
      refine j_icmp_ge (tgt := 44) C dX8_right_33 (by decide) (fun hc => ?_) (fun hc => ?_)
      · have hw := hw.1 hc
        exact J.sub (X8_right_j44_ok C K ho_v0 hr_g1 ho_g1 D2 hw) [1] rfl
      · have hw := hw.2 hc
        refine j_iload C dX8_right_36 7 rfl ?_
        refine j_cSI (As := [.int v6]) (st := []) C (X8_isFarTick_ok κ.2.1 G D2 v6 _ hw) k_642 ms_X8_isFarTick ⟨by decide, by decide⟩ ⟨rfl, rfl⟩ rfl rfl (Nat.le_of_ble_eq_true rfl) ⟨Nat.zero_le _, Nat.zero_le _⟩ dX8_right_38 (fun r3 D4 hw => ?_)
        refine j_if_ne (tgt := 50) C dX8_right_41 (by decide) (fun hc => ?_) (fun hc => ?_)
        · have hw := hw.1 hc
          refine j_aload_n C dX8_right_50 rfl 1 rfl ?_
          refine gf_8_3 C ho_v0 hr_g1 k_254 dX8_right_51 ?_
          refine j_cVV (As := []) (st := []) C (X1_start_ok κ.2.1 G D4 g1 _ hw) ho_g1 rfl k_550 mv_X1_start ⟨by decide, by decide⟩ ⟨rfl, rfl⟩ rfl rfl (Nat.le_of_ble_eq_true rfl) ⟨Nat.zero_le _, Nat.zero_le _⟩ dX8_right_54 (fun D6 hw => ?_)
          refine j_aload_n C dX8_right_57 rfl 1 rfl ?_
          refine j_iload_n C dX8_right_58 rfl 2 rfl ?_
          refine j_iload C dX8_right_59 6 rfl ?_
          refine j_if_ne (tgt := 71) C dX8_right_61 (by decide) (fun hc => ?_) (fun hc => ?_)
          · have hw := hw.1 hc
            refine j_iconst (v := (-1)) C dX8_right_71 (by decide) ?_
            exact J.sub (X8_right_j72_ok C K ho_v0 hr_g1 ho_g1 s0 (-1) v1 v0 D6 hw) [1, 3, 4, 5, 6, 7, 0] rfl
          · have hw := hw.2 hc
            refine j_iload C dX8_right_64 0 rfl ?_
            refine j_iconst (v := 1) C dX8_right_66 (by decide) ?_
            refine j_isub C dX8_right_67 ?_
            refine j_goto (tgt := 72) C dX8_right_68 (by decide) ?_
            exact J.sub (X8_right_j72_ok C K ho_v0 hr_g1 ho_g1 s0 (s0 - 1) v1 v0 D6 hw) [1, 3, 4, 5, 6, 7, 0] rfl
        · have hw := hw.2 hc
          exact J.sub (X8_right_j44_ok C K ho_v0 hr_g1 ho_g1 D4 hw) [1] rfl
def X8_right_wp (G : Shp) (D : Dat) (v0 : Nat) (v1 : Int32) (v2 : Int32) (v3 : Int32) (v4 : Int32) (v5 : Int32) (v6 : Int32) (post : Int32 → Dat → Prop) : Prop := isO G v0 8 ∧ ∃ g1, G.2.2.2 v0 3 = some g1 ∧ isO G g1 1 ∧ ((¬ v3 = (-1) → X8_right_j10 G post v0 v1 v2 v3 v4 v5 v6 g1 3 D) ∧ (v3 = (-1) → X8_right_j10 G post v0 v1 v2 v3 v4 v5 v6 g1 2 D))
set_option maxRecDepth 100000 in
set_option maxHeartbeats 4000000 in
theorem X8_right_ok (l : Launch) (G : Shp) (D : Dat) (v0 : Nat) (v1 : Int32) (v2 : Int32) (v3 : Int32) (v4 : Int32) (v5 : Int32) (v6 : Int32) (post : Int32 → Dat → Prop) (hw : X8_right_wp G D v0 v1 v2 v3 v4 v5 v6 post) : CtI l yX8_right cX8_right 9 .int (rmN 7) [.ref v0, .int v1, .int v2, .int v3, .int v4, .int v5, .int v6] G D post := by
  obtain ⟨ho_v0, g1, hr_g1, ho_g1, hw⟩ := hw
  refine ctI_of (by decide) rfl (Nat.le_of_ble_eq_true rfl) ?_
  intro κ hκ C K
  subst hκ
  have C : Cx κ cX8_right RX8 (rmN 7) 9 := C
  refine j_iload_n C dX8_right_0 rfl 3 rfl ?_
  refine j_iconst (v := (-1)) C dX8_right_1 (by decide) ?_
  refine j_icmp_ne (tgt := 9) C dX8_right_2 (by decide) (fun hc => ?_) (fun hc => ?_)
  · have hw := hw.1 hc
    refine j_iconst (v := 3) C dX8_right_9 (by decide) ?_
    exact J.sub (X8_right_j10_ok C K ho_v0 hr_g1 ho_g1 3 D hw) [0, 1, 2, 3, 4, 5, 6] rfl
  · have hw := hw.2 hc
    refine j_iconst (v := 2) C dX8_right_5 (by decide) ?_
    refine j_goto (tgt := 10) C dX8_right_6 (by decide) ?_
    exact J.sub (X8_right_j10_ok C K ho_v0 hr_g1 ho_g1 2 D hw) [0, 1, 2, 3, 4, 5, 6] rfl
