/-! X9_at -/
def X9_at_j29 (G : Shp) (post : Int32 → Dat → Prop) (v0 : Nat) (v1 : Int32) (v2 : Int32) (v3 : Int32) (D : Dat) : Prop := X9_refuse_wp G D v0 2 (fun r1 D2 => post r1 D2)
set_option maxRecDepth 100000 in
set_option maxHeartbeats 4000000 in
theorem X9_at_j29_ok {κ : Ctx} {G : Shp} {post : Int32 → Dat → Prop} {v0 : Nat} {v1 : Int32} {v2 : Int32} {v3 : Int32} (C : Cx κ cX9_at RX9 (rmN 6) 4) (K : RtI κ cX9_at .int G post) (ho_v0 : isO G v0 9) (D : Dat) (hw : X9_at_j29 G post v0 v1 v2 v3 D) : J κ 0 0 G D 29 [(0, .ref v0)] [] := by
  unfold X9_at_j29 at hw
  refine j_aload_n C dX9_at_29 rfl 0 rfl ?_
  refine j_iconst (v := 2) C dX9_at_30 (by decide) ?_
  refine j_cVI (As := [.int 2]) (st := []) C (X9_refuse_ok κ.2.1 G D v0 2 _ hw) ho_v0 rfl k_897 mv_X9_refuse ⟨by decide, by decide⟩ ⟨rfl, rfl⟩ rfl rfl (Nat.le_of_ble_eq_true rfl) ⟨Nat.zero_le _, Nat.zero_le _⟩ dX9_at_31 (fun r1 D2 hw => ?_)
  exact K _ _ _ _ dX9_at_34 rfl hw
def X9_at_j14 (G : Shp) (post : Int32 → Dat → Prop) (v0 : Nat) (v1 : Int32) (v2 : Int32) (v3 : Int32) (D : Dat) : Prop := X9_refuse_wp G D v0 1 (fun r1 D2 => post r1 D2)
set_option maxRecDepth 100000 in
set_option maxHeartbeats 4000000 in
theorem X9_at_j14_ok {κ : Ctx} {G : Shp} {post : Int32 → Dat → Prop} {v0 : Nat} {v1 : Int32} {v2 : Int32} {v3 : Int32} (C : Cx κ cX9_at RX9 (rmN 6) 4) (K : RtI κ cX9_at .int G post) (ho_v0 : isO G v0 9) (D : Dat) (hw : X9_at_j14 G post v0 v1 v2 v3 D) : J κ 0 0 G D 14 [(0, .ref v0)] [] := by
  unfold X9_at_j14 at hw
  refine j_aload_n C dX9_at_14 rfl 0 rfl ?_
  refine j_iconst (v := 1) C dX9_at_15 (by decide) ?_
  refine j_cVI (As := [.int 1]) (st := []) C (X9_refuse_ok κ.2.1 G D v0 1 _ hw) ho_v0 rfl k_897 mv_X9_refuse ⟨by decide, by decide⟩ ⟨rfl, rfl⟩ rfl rfl (Nat.le_of_ble_eq_true rfl) ⟨Nat.zero_le _, Nat.zero_le _⟩ dX9_at_16 (fun r1 D2 hw => ?_)
  exact K _ _ _ _ dX9_at_19 rfl hw
def X9_at_wp (G : Shp) (D : Dat) (v0 : Nat) (v1 : Int32) (v2 : Int32) (v3 : Int32) (post : Int32 → Dat → Prop) : Prop := isO G v0 9 ∧ X9_isRow_wp G D v1 (fun r1 D2 => ((r1 = 0 → X9_at_j14 G post v0 v1 v2 v3 D2) ∧ (¬ (r1 = 0) → X9_isFar_wp G D2 v2 (fun r3 D4 => ((¬ r3 = 0 → ((v3 < 0 → X9_at_j29 G post v0 v1 v2 v3 D4) ∧ (¬ (v3 < 0) → ((v3 ≤ 3 → X9_solve_wp G D4 v0 v1 (fun r5 D6 => ((¬ r5 = 0 → X9_given_wp G D6 v0 v1 v2 v3 (fun r7 D8 => X9_held_wp G D8 v0 19 (fun r9 D10 => X9_tells_wp G D10 v0 r7 r9 (fun r11 D12 => post r11 D12)))) ∧ (r5 = 0 → X9_refuse_wp G D6 v0 6 (fun r13 D14 => post r13 D14))))) ∧ (¬ (v3 ≤ 3) → X9_at_j29 G post v0 v1 v2 v3 D4))))) ∧ (r3 = 0 → X9_at_j14 G post v0 v1 v2 v3 D4))))))
set_option maxRecDepth 100000 in
set_option maxHeartbeats 4000000 in
theorem X9_at_ok (l : Launch) (G : Shp) (D : Dat) (v0 : Nat) (v1 : Int32) (v2 : Int32) (v3 : Int32) (post : Int32 → Dat → Prop) (hw : X9_at_wp G D v0 v1 v2 v3 post) : CtI l yX9_at cX9_at 4 .int (rmN 6) [.ref v0, .int v1, .int v2, .int v3] G D post := by
  obtain ⟨ho_v0, hw⟩ := hw
  refine ctI_of (by decide) rfl (Nat.le_of_ble_eq_true rfl) ?_
  intro κ hκ C K
  subst hκ
  have C : Cx κ cX9_at RX9 (rmN 6) 4 := C
  refine j_iload_n C dX9_at_0 rfl 1 rfl ?_
  refine j_cSI (As := [.int v1]) (st := []) C (X9_isRow_ok κ.2.1 G D v1 _ hw) k_867 ms_X9_isRow ⟨by decide, by decide⟩ ⟨rfl, rfl⟩ rfl rfl (Nat.le_of_ble_eq_true rfl) ⟨Nat.zero_le _, Nat.zero_le _⟩ dX9_at_1 (fun r1 D2 hw => ?_)
  refine j_if_eq (tgt := 14) C dX9_at_4 (by decide) (fun hc => ?_) (fun hc => ?_)
  · have hw := hw.1 hc
    exact J.sub (X9_at_j14_ok C K ho_v0 D2 hw) [0] rfl
  · have hw := hw.2 hc
    refine j_iload_n C dX9_at_7 rfl 2 rfl ?_
    refine j_cSI (As := [.int v2]) (st := []) C (X9_isFar_ok κ.2.1 G D2 v2 _ hw) k_1097 ms_X9_isFar ⟨by decide, by decide⟩ ⟨rfl, rfl⟩ rfl rfl (Nat.le_of_ble_eq_true rfl) ⟨Nat.zero_le _, Nat.zero_le _⟩ dX9_at_8 (fun r3 D4 hw => ?_)
    refine j_if_ne (tgt := 20) C dX9_at_11 (by decide) (fun hc => ?_) (fun hc => ?_)
    · have hw := hw.1 hc
      refine j_iload_n C dX9_at_20 rfl 3 rfl ?_
      refine j_if_lt (tgt := 29) C dX9_at_21 (by decide) (fun hc => ?_) (fun hc => ?_)
      · have hw := hw.1 hc
        exact J.sub (X9_at_j29_ok C K ho_v0 D4 hw) [0] rfl
      · have hw := hw.2 hc
        refine j_iload_n C dX9_at_24 rfl 3 rfl ?_
        refine j_iconst (v := 3) C dX9_at_25 (by decide) ?_
        refine j_icmp_le (tgt := 35) C dX9_at_26 (by decide) (fun hc => ?_) (fun hc => ?_)
        · have hw := hw.1 hc
          refine j_aload_n C dX9_at_35 rfl 0 rfl ?_
          refine j_iload_n C dX9_at_36 rfl 1 rfl ?_
          refine j_cVI (As := [.int v1]) (st := []) C (X9_solve_ok κ.2.1 G D4 v0 v1 _ hw) ho_v0 rfl k_957 mv_X9_solve ⟨by decide, by decide⟩ ⟨rfl, rfl⟩ rfl rfl (Nat.le_of_ble_eq_true rfl) ⟨Nat.zero_le _, Nat.zero_le _⟩ dX9_at_37 (fun r5 D6 hw => ?_)
          refine j_if_ne (tgt := 50) C dX9_at_40 (by decide) (fun hc => ?_) (fun hc => ?_)
          · have hw := hw.1 hc
            refine j_aload_n C dX9_at_50 rfl 0 rfl ?_
            refine j_aload_n C dX9_at_51 rfl 0 rfl ?_
            refine j_iload_n C dX9_at_52 rfl 1 rfl ?_
            refine j_iload_n C dX9_at_53 rfl 2 rfl ?_
            refine j_iload_n C dX9_at_54 rfl 3 rfl ?_
            refine j_cVI (As := [.int v1, .int v2, .int v3]) (st := [.ref v0]) C (X9_given_ok κ.2.1 G D6 v0 v1 v2 v3 _ hw) ho_v0 rfl k_1089 mv_X9_given ⟨by decide, by decide⟩ ⟨rfl, rfl⟩ rfl rfl (Nat.le_of_ble_eq_true rfl) ⟨Nat.zero_le _, Nat.zero_le _⟩ dX9_at_55 (fun r7 D8 hw => ?_)
            refine j_aload_n C dX9_at_58 rfl 0 rfl ?_
            refine j_bipush (v := 19) C dX9_at_59 (by decide) ?_
            refine j_cVI (As := [.int 19]) (st := [.int r7, .ref v0]) C (X9_held_ok κ.2.1 G D8 v0 19 _ hw) ho_v0 rfl k_1052 mv_X9_held ⟨by decide, by decide⟩ ⟨rfl, rfl⟩ rfl rfl (Nat.le_of_ble_eq_true rfl) ⟨Nat.zero_le _, Nat.zero_le _⟩ dX9_at_61 (fun r9 D10 hw => ?_)
            refine j_cVI (As := [.int r7, .int r9]) (st := []) C (X9_tells_ok κ.2.1 G D10 v0 r7 r9 _ hw) ho_v0 rfl k_1056 mv_X9_tells ⟨by decide, by decide⟩ ⟨rfl, rfl⟩ rfl rfl (Nat.le_of_ble_eq_true rfl) ⟨Nat.zero_le _, Nat.zero_le _⟩ dX9_at_64 (fun r11 D12 hw => ?_)
            exact K _ _ _ _ dX9_at_67 rfl hw
          · have hw := hw.2 hc
            refine j_aload_n C dX9_at_43 rfl 0 rfl ?_
            refine j_bipush (v := 6) C dX9_at_44 (by decide) ?_
            refine j_cVI (As := [.int 6]) (st := []) C (X9_refuse_ok κ.2.1 G D6 v0 6 _ hw) ho_v0 rfl k_897 mv_X9_refuse ⟨by decide, by decide⟩ ⟨rfl, rfl⟩ rfl rfl (Nat.le_of_ble_eq_true rfl) ⟨Nat.zero_le _, Nat.zero_le _⟩ dX9_at_46 (fun r13 D14 hw => ?_)
            exact K _ _ _ _ dX9_at_49 rfl hw
        · have hw := hw.2 hc
          exact J.sub (X9_at_j29_ok C K ho_v0 D4 hw) [0] rfl
    · have hw := hw.2 hc
      exact J.sub (X9_at_j14_ok C K ho_v0 D4 hw) [0] rfl
/-! X9_feastBy -/
def X9_feastBy_j64 (G : Shp) (post : Int32 → Dat → Prop) (v0 : Nat) (v1 : Int32) (v2 : Int32) (g1 : Nat) (g2 : Nat) (g3 : Nat) (s0 : Int32) (s1 : Nat) (s2 : Nat) (D : Dat) : Prop := (vp_in v1 (G.2.2.1 g3) ∧ isO G s1 9 ∧ X9_held_wp G D s1 ((s0 + (D.1 g3 v1.toNatClampNeg)) + v2) (fun r3 D4 => X9_held_wp G D4 v0 19 (fun r5 D6 => (isO G s2 9 ∧ X9_tells_wp G D6 s2 r3 r5 (fun r8 D9 => post r8 D9)))))
set_option maxRecDepth 100000 in
set_option maxHeartbeats 4000000 in
theorem X9_feastBy_j64_ok {κ : Ctx} {G : Shp} {post : Int32 → Dat → Prop} {v0 : Nat} {v1 : Int32} {v2 : Int32} {g1 : Nat} {g2 : Nat} {g3 : Nat} (C : Cx κ cX9_feastBy RX9 (rmN 6) 3) (K : RtI κ cX9_feastBy .int G post) (ho_v0 : isO G v0 9) (hr_g1 : G.2.2.2 v0 14 = some g1) (ho_g1 : isO G g1 11) (hr_g2 : G.2.2.2 v0 17 = some g2) (ho_g2 : isO G g2 13) (hr_g3 : G.2.2.2 v0 12 = some g3) (ho_g3 : isO G g3 11) (s0 : Int32) (s1 : Nat) (s2 : Nat) (D : Dat) (hw : X9_feastBy_j64 G post v0 v1 v2 g1 g2 g3 s0 s1 s2 D) : J κ 0 0 G D 64 [(0, .ref v0), (1, .int v1), (2, .int v2)] [.int s0, .ref s1, .ref s2] := by
  unfold X9_feastBy_j64 at hw
  refine j_aload_n C dX9_feastBy_64 rfl 0 rfl ?_
  refine gf_9_12 C ho_v0 hr_g3 k_776 dX9_feastBy_65 ?_
  refine j_iload_n C dX9_feastBy_68 rfl 1 rfl ?_
  obtain ⟨hi1, hw⟩ := hw
  refine j_iald C ho_g3 hi1 dX9_feastBy_69 ?_
  refine j_iadd C dX9_feastBy_70 ?_
  refine j_iload_n C dX9_feastBy_71 rfl 2 rfl ?_
  refine j_iadd C dX9_feastBy_72 ?_
  obtain ⟨ho2, hw⟩ := hw
  refine j_cVI (As := [.int ((s0 + (D.1 g3 v1.toNatClampNeg)) + v2)]) (st := [.ref s2]) C (X9_held_ok κ.2.1 G D s1 ((s0 + (D.1 g3 v1.toNatClampNeg)) + v2) _ hw) ho2 rfl k_1052 mv_X9_held ⟨by decide, by decide⟩ ⟨rfl, rfl⟩ rfl rfl (Nat.le_of_ble_eq_true rfl) ⟨Nat.zero_le _, Nat.zero_le _⟩ dX9_feastBy_73 (fun r3 D4 hw => ?_)
  refine j_aload_n C dX9_feastBy_76 rfl 0 rfl ?_
  refine j_bipush (v := 19) C dX9_feastBy_77 (by decide) ?_
  refine j_cVI (As := [.int 19]) (st := [.int r3, .ref s2]) C (X9_held_ok κ.2.1 G D4 v0 19 _ hw) ho_v0 rfl k_1052 mv_X9_held ⟨by decide, by decide⟩ ⟨rfl, rfl⟩ rfl rfl (Nat.le_of_ble_eq_true rfl) ⟨Nat.zero_le _, Nat.zero_le _⟩ dX9_feastBy_79 (fun r5 D6 hw => ?_)
  obtain ⟨ho7, hw⟩ := hw
  refine j_cVI (As := [.int r3, .int r5]) (st := []) C (X9_tells_ok κ.2.1 G D6 s2 r3 r5 _ hw) ho7 rfl k_1056 mv_X9_tells ⟨by decide, by decide⟩ ⟨rfl, rfl⟩ rfl rfl (Nat.le_of_ble_eq_true rfl) ⟨Nat.zero_le _, Nat.zero_le _⟩ dX9_feastBy_82 (fun r8 D9 hw => ?_)
  exact K _ _ _ _ dX9_feastBy_85 rfl hw
def X9_feastBy_j27 (G : Shp) (post : Int32 → Dat → Prop) (v0 : Nat) (v1 : Int32) (v2 : Int32) (g1 : Nat) (g2 : Nat) (g3 : Nat) (D : Dat) : Prop := X9_refuse_wp G D v0 5 (fun r1 D2 => post r1 D2)
set_option maxRecDepth 100000 in
set_option maxHeartbeats 4000000 in
theorem X9_feastBy_j27_ok {κ : Ctx} {G : Shp} {post : Int32 → Dat → Prop} {v0 : Nat} {v1 : Int32} {v2 : Int32} {g1 : Nat} {g2 : Nat} {g3 : Nat} (C : Cx κ cX9_feastBy RX9 (rmN 6) 3) (K : RtI κ cX9_feastBy .int G post) (ho_v0 : isO G v0 9) (hr_g1 : G.2.2.2 v0 14 = some g1) (ho_g1 : isO G g1 11) (hr_g2 : G.2.2.2 v0 17 = some g2) (ho_g2 : isO G g2 13) (hr_g3 : G.2.2.2 v0 12 = some g3) (ho_g3 : isO G g3 11) (D : Dat) (hw : X9_feastBy_j27 G post v0 v1 v2 g1 g2 g3 D) : J κ 0 0 G D 27 [(0, .ref v0)] [] := by
  unfold X9_feastBy_j27 at hw
  refine j_aload_n C dX9_feastBy_27 rfl 0 rfl ?_
  refine j_iconst (v := 5) C dX9_feastBy_28 (by decide) ?_
  refine j_cVI (As := [.int 5]) (st := []) C (X9_refuse_ok κ.2.1 G D v0 5 _ hw) ho_v0 rfl k_897 mv_X9_refuse ⟨by decide, by decide⟩ ⟨rfl, rfl⟩ rfl rfl (Nat.le_of_ble_eq_true rfl) ⟨Nat.zero_le _, Nat.zero_le _⟩ dX9_feastBy_29 (fun r1 D2 hw => ?_)
  exact K _ _ _ _ dX9_feastBy_32 rfl hw
def X9_feastBy_wp (G : Shp) (D : Dat) (v0 : Nat) (v1 : Int32) (v2 : Int32) (post : Int32 → Dat → Prop) : Prop := isO G v0 9 ∧ ∃ g1, G.2.2.2 v0 14 = some g1 ∧ isO G g1 11 ∧ ∃ g2, G.2.2.2 v0 17 = some g2 ∧ isO G g2 13 ∧ ∃ g3, G.2.2.2 v0 12 = some g3 ∧ isO G g3 11 ∧ X9_isRow_wp G D v1 (fun r1 D2 => ((¬ r1 = 0 → ((v2 < 0 → X9_feastBy_j27 G post v0 v1 v2 g1 g2 g3 D2) ∧ (¬ (v2 < 0) → (vp_in v1 (G.2.2.1 g1) ∧ ((v2 < (D2.1 g1 v1.toNatClampNeg) → X9_solve_wp G D2 v0 v1 (fun r4 D5 => ((¬ r4 = 0 → (vp_in v1 (G.2.2.1 g2) ∧ (((D5.1 g2 v1.toNatClampNeg) = 0 → X9_feastBy_j64 G post v0 v1 v2 g1 g2 g3 1 v0 v0 D5) ∧ (¬ ((D5.1 g2 v1.toNatClampNeg) = 0) → X9_feastBy_j64 G post v0 v1 v2 g1 g2 g3 2 v0 v0 D5)))) ∧ (r4 = 0 → X9_refuse_wp G D5 v0 6 (fun r7 D8 => post r7 D8))))) ∧ (¬ (v2 < (D2.1 g1 v1.toNatClampNeg)) → X9_feastBy_j27 G post v0 v1 v2 g1 g2 g3 D2)))))) ∧ (r1 = 0 → X9_refuse_wp G D2 v0 1 (fun r9 D10 => post r9 D10))))
set_option maxRecDepth 100000 in
set_option maxHeartbeats 4000000 in
theorem X9_feastBy_ok (l : Launch) (G : Shp) (D : Dat) (v0 : Nat) (v1 : Int32) (v2 : Int32) (post : Int32 → Dat → Prop) (hw : X9_feastBy_wp G D v0 v1 v2 post) : CtI l yX9_feastBy cX9_feastBy 3 .int (rmN 6) [.ref v0, .int v1, .int v2] G D post := by
  obtain ⟨ho_v0, g1, hr_g1, ho_g1, g2, hr_g2, ho_g2, g3, hr_g3, ho_g3, hw⟩ := hw
  refine ctI_of (by decide) rfl (Nat.le_of_ble_eq_true rfl) ?_
  intro κ hκ C K
  subst hκ
  have C : Cx κ cX9_feastBy RX9 (rmN 6) 3 := C
  refine j_iload_n C dX9_feastBy_0 rfl 1 rfl ?_
  refine j_cSI (As := [.int v1]) (st := []) C (X9_isRow_ok κ.2.1 G D v1 _ hw) k_867 ms_X9_isRow ⟨by decide, by decide⟩ ⟨rfl, rfl⟩ rfl rfl (Nat.le_of_ble_eq_true rfl) ⟨Nat.zero_le _, Nat.zero_le _⟩ dX9_feastBy_1 (fun r1 D2 hw => ?_)
  refine j_if_ne (tgt := 13) C dX9_feastBy_4 (by decide) (fun hc => ?_) (fun hc => ?_)
  · have hw := hw.1 hc
    refine j_iload_n C dX9_feastBy_13 rfl 2 rfl ?_
    refine j_if_lt (tgt := 27) C dX9_feastBy_14 (by decide) (fun hc => ?_) (fun hc => ?_)
    · have hw := hw.1 hc
      exact J.sub (X9_feastBy_j27_ok C K ho_v0 hr_g1 ho_g1 hr_g2 ho_g2 hr_g3 ho_g3 D2 hw) [0] rfl
    · have hw := hw.2 hc
      refine j_iload_n C dX9_feastBy_17 rfl 2 rfl ?_
      refine j_aload_n C dX9_feastBy_18 rfl 0 rfl ?_
      refine gf_9_14 C ho_v0 hr_g1 k_778 dX9_feastBy_19 ?_
      refine j_iload_n C dX9_feastBy_22 rfl 1 rfl ?_
      obtain ⟨hi3, hw⟩ := hw
      refine j_iald C ho_g1 hi3 dX9_feastBy_23 ?_
      refine j_icmp_lt (tgt := 33) C dX9_feastBy_24 (by decide) (fun hc => ?_) (fun hc => ?_)
      · have hw := hw.1 hc
        refine j_aload_n C dX9_feastBy_33 rfl 0 rfl ?_
        refine j_iload_n C dX9_feastBy_34 rfl 1 rfl ?_
        refine j_cVI (As := [.int v1]) (st := []) C (X9_solve_ok κ.2.1 G D2 v0 v1 _ hw) ho_v0 rfl k_957 mv_X9_solve ⟨by decide, by decide⟩ ⟨rfl, rfl⟩ rfl rfl (Nat.le_of_ble_eq_true rfl) ⟨Nat.zero_le _, Nat.zero_le _⟩ dX9_feastBy_35 (fun r4 D5 hw => ?_)
        refine j_if_ne (tgt := 48) C dX9_feastBy_38 (by decide) (fun hc => ?_) (fun hc => ?_)
        · have hw := hw.1 hc
          refine j_aload_n C dX9_feastBy_48 rfl 0 rfl ?_
          refine j_aload_n C dX9_feastBy_49 rfl 0 rfl ?_
          refine j_aload_n C dX9_feastBy_50 rfl 0 rfl ?_
          refine gf_9_17 C ho_v0 hr_g2 k_781 dX9_feastBy_51 ?_
          refine j_iload_n C dX9_feastBy_54 rfl 1 rfl ?_
          obtain ⟨hi6, hw⟩ := hw
          refine j_zald C ho_g2 hi6 dX9_feastBy_55 ?_
          refine j_if_eq (tgt := 63) C dX9_feastBy_56 (by decide) (fun hc => ?_) (fun hc => ?_)
          · have hw := hw.1 hc
            refine j_iconst (v := 1) C dX9_feastBy_63 (by decide) ?_
            exact J.sub (X9_feastBy_j64_ok C K ho_v0 hr_g1 ho_g1 hr_g2 ho_g2 hr_g3 ho_g3 1 v0 v0 D5 hw) [0, 1, 2] rfl
          · have hw := hw.2 hc
            refine j_iconst (v := 2) C dX9_feastBy_59 (by decide) ?_
            refine j_goto (tgt := 64) C dX9_feastBy_60 (by decide) ?_
            exact J.sub (X9_feastBy_j64_ok C K ho_v0 hr_g1 ho_g1 hr_g2 ho_g2 hr_g3 ho_g3 2 v0 v0 D5 hw) [0, 1, 2] rfl
        · have hw := hw.2 hc
          refine j_aload_n C dX9_feastBy_41 rfl 0 rfl ?_
          refine j_bipush (v := 6) C dX9_feastBy_42 (by decide) ?_
          refine j_cVI (As := [.int 6]) (st := []) C (X9_refuse_ok κ.2.1 G D5 v0 6 _ hw) ho_v0 rfl k_897 mv_X9_refuse ⟨by decide, by decide⟩ ⟨rfl, rfl⟩ rfl rfl (Nat.le_of_ble_eq_true rfl) ⟨Nat.zero_le _, Nat.zero_le _⟩ dX9_feastBy_44 (fun r7 D8 hw => ?_)
          exact K _ _ _ _ dX9_feastBy_47 rfl hw
      · have hw := hw.2 hc
        exact J.sub (X9_feastBy_j27_ok C K ho_v0 hr_g1 ho_g1 hr_g2 ho_g2 hr_g3 ho_g3 D2 hw) [0] rfl
  · have hw := hw.2 hc
    refine j_aload_n C dX9_feastBy_7 rfl 0 rfl ?_
    refine j_iconst (v := 1) C dX9_feastBy_8 (by decide) ?_
    refine j_cVI (As := [.int 1]) (st := []) C (X9_refuse_ok κ.2.1 G D2 v0 1 _ hw) ho_v0 rfl k_897 mv_X9_refuse ⟨by decide, by decide⟩ ⟨rfl, rfl⟩ rfl rfl (Nat.le_of_ble_eq_true rfl) ⟨Nat.zero_le _, Nat.zero_le _⟩ dX9_feastBy_9 (fun r9 D10 hw => ?_)
    exact K _ _ _ _ dX9_feastBy_12 rfl hw
/-! X9_part -/
def X9_part_j109 (G : Shp) (post : Int32 → Dat → Prop) (v0 : Nat) (v1 : Int32) (v2 : Int32) (g1 : Nat) (s0 : Int32) (D : Dat) : Prop := post s0 D
set_option maxRecDepth 100000 in
set_option maxHeartbeats 4000000 in
theorem X9_part_j109_ok {κ : Ctx} {G : Shp} {post : Int32 → Dat → Prop} {v0 : Nat} {v1 : Int32} {v2 : Int32} {g1 : Nat} (C : Cx κ cX9_part RX9 (rmN 6) 3) (K : RtI κ cX9_part .int G post) (ho_v0 : isO G v0 9) (hr_g1 : G.2.2.2 v0 17 = some g1) (ho_g1 : isO G g1 13) (s0 : Int32) (D : Dat) (hw : X9_part_j109 G post v0 v1 v2 g1 s0 D) : J κ 0 0 G D 109 [] [.int s0] := by
  unfold X9_part_j109 at hw
  exact K _ _ _ _ dX9_part_109 rfl hw
def X9_part_j94 (G : Shp) (post : Int32 → Dat → Prop) (v0 : Nat) (v1 : Int32) (v2 : Int32) (g1 : Nat) (D : Dat) : Prop := X9_held_wp G D v0 v2 (fun r1 D2 => X9_held_wp G D2 v0 19 (fun r3 D4 => X9_tells_wp G D4 v0 r1 r3 (fun r5 D6 => X9_part_j109 G post v0 v1 v2 g1 r5 D6)))
set_option maxRecDepth 100000 in
set_option maxHeartbeats 4000000 in
theorem X9_part_j94_ok {κ : Ctx} {G : Shp} {post : Int32 → Dat → Prop} {v0 : Nat} {v1 : Int32} {v2 : Int32} {g1 : Nat} (C : Cx κ cX9_part RX9 (rmN 6) 3) (K : RtI κ cX9_part .int G post) (ho_v0 : isO G v0 9) (hr_g1 : G.2.2.2 v0 17 = some g1) (ho_g1 : isO G g1 13) (D : Dat) (hw : X9_part_j94 G post v0 v1 v2 g1 D) : J κ 0 0 G D 94 [(0, .ref v0), (2, .int v2)] [] := by
  unfold X9_part_j94 at hw
  refine j_aload_n C dX9_part_94 rfl 0 rfl ?_
  refine j_aload_n C dX9_part_95 rfl 0 rfl ?_
  refine j_iload_n C dX9_part_96 rfl 1 rfl ?_
  refine j_cVI (As := [.int v2]) (st := [.ref v0]) C (X9_held_ok κ.2.1 G D v0 v2 _ hw) ho_v0 rfl k_1052 mv_X9_held ⟨by decide, by decide⟩ ⟨rfl, rfl⟩ rfl rfl (Nat.le_of_ble_eq_true rfl) ⟨Nat.zero_le _, Nat.zero_le _⟩ dX9_part_97 (fun r1 D2 hw => ?_)
  refine j_aload_n C dX9_part_100 rfl 0 rfl ?_
  refine j_bipush (v := 19) C dX9_part_101 (by decide) ?_
  refine j_cVI (As := [.int 19]) (st := [.int r1, .ref v0]) C (X9_held_ok κ.2.1 G D2 v0 19 _ hw) ho_v0 rfl k_1052 mv_X9_held ⟨by decide, by decide⟩ ⟨rfl, rfl⟩ rfl rfl (Nat.le_of_ble_eq_true rfl) ⟨Nat.zero_le _, Nat.zero_le _⟩ dX9_part_103 (fun r3 D4 hw => ?_)
  refine j_cVI (As := [.int r1, .int r3]) (st := []) C (X9_tells_ok κ.2.1 G D4 v0 r1 r3 _ hw) ho_v0 rfl k_1056 mv_X9_tells ⟨by decide, by decide⟩ ⟨rfl, rfl⟩ rfl rfl (Nat.le_of_ble_eq_true rfl) ⟨Nat.zero_le _, Nat.zero_le _⟩ dX9_part_106 (fun r5 D6 hw => ?_)
  exact J.sub (X9_part_j109_ok C K ho_v0 hr_g1 ho_g1 r5 D6 hw) [] rfl
def X9_part_j22 (G : Shp) (post : Int32 → Dat → Prop) (v0 : Nat) (v1 : Int32) (v2 : Int32) (g1 : Nat) (D : Dat) : Prop := X9_refuse_wp G D v0 2 (fun r1 D2 => post r1 D2)
set_option maxRecDepth 100000 in
set_option maxHeartbeats 4000000 in
theorem X9_part_j22_ok {κ : Ctx} {G : Shp} {post : Int32 → Dat → Prop} {v0 : Nat} {v1 : Int32} {v2 : Int32} {g1 : Nat} (C : Cx κ cX9_part RX9 (rmN 6) 3) (K : RtI κ cX9_part .int G post) (ho_v0 : isO G v0 9) (hr_g1 : G.2.2.2 v0 17 = some g1) (ho_g1 : isO G g1 13) (D : Dat) (hw : X9_part_j22 G post v0 v1 v2 g1 D) : J κ 0 0 G D 22 [(0, .ref v0)] [] := by
  unfold X9_part_j22 at hw
  refine j_aload_n C dX9_part_22 rfl 0 rfl ?_
  refine j_iconst (v := 2) C dX9_part_23 (by decide) ?_
  refine j_cVI (As := [.int 2]) (st := []) C (X9_refuse_ok κ.2.1 G D v0 2 _ hw) ho_v0 rfl k_897 mv_X9_refuse ⟨by decide, by decide⟩ ⟨rfl, rfl⟩ rfl rfl (Nat.le_of_ble_eq_true rfl) ⟨Nat.zero_le _, Nat.zero_le _⟩ dX9_part_24 (fun r1 D2 hw => ?_)
  exact K _ _ _ _ dX9_part_27 rfl hw
def X9_part_wp (G : Shp) (D : Dat) (v0 : Nat) (v1 : Int32) (v2 : Int32) (post : Int32 → Dat → Prop) : Prop := isO G v0 9 ∧ ∃ g1, G.2.2.2 v0 17 = some g1 ∧ isO G g1 13 ∧ X9_isRow_wp G D v1 (fun r1 D2 => ((¬ r1 = 0 → ((v2 < 0 → X9_part_j22 G post v0 v1 v2 g1 D2) ∧ (¬ (v2 < 0) → ((v2 ≤ 2 → X9_solve_wp G D2 v0 v1 (fun r3 D4 => ((¬ r3 = 0 → ((¬ v2 = 2 → ((¬ v2 = 1 → X9_part_j94 G post v0 v1 v2 g1 D4) ∧ (v2 = 1 → (vp_in v1 (G.2.2.1 g1) ∧ ((¬ (D4.1 g1 v1.toNatClampNeg) = 0 → X9_part_j94 G post v0 v1 v2 g1 D4) ∧ ((D4.1 g1 v1.toNatClampNeg) = 0 → X9_whole_wp G D4 v0 0 (fun r6 D7 => X9_whole_wp G D7 v0 1 (fun r8 D9 => X9_tells_wp G D9 v0 r6 r8 (fun r10 D11 => X9_part_j109 G post v0 v1 v2 g1 r10 D11))))))))) ∧ (v2 = 2 → X9_cost_wp G D4 v0 (fun r12 D13 => X9_held_wp G D13 v0 19 (fun r14 D15 => X9_tells_wp G D15 v0 r12 r14 (fun r16 D17 => post r16 D17)))))) ∧ (r3 = 0 → X9_refuse_wp G D4 v0 6 (fun r18 D19 => post r18 D19))))) ∧ (¬ (v2 ≤ 2) → X9_part_j22 G post v0 v1 v2 g1 D2))))) ∧ (r1 = 0 → X9_refuse_wp G D2 v0 1 (fun r20 D21 => post r20 D21))))
set_option maxRecDepth 100000 in
set_option maxHeartbeats 4000000 in
theorem X9_part_ok (l : Launch) (G : Shp) (D : Dat) (v0 : Nat) (v1 : Int32) (v2 : Int32) (post : Int32 → Dat → Prop) (hw : X9_part_wp G D v0 v1 v2 post) : CtI l yX9_part cX9_part 3 .int (rmN 6) [.ref v0, .int v1, .int v2] G D post := by
  obtain ⟨ho_v0, g1, hr_g1, ho_g1, hw⟩ := hw
  refine ctI_of (by decide) rfl (Nat.le_of_ble_eq_true rfl) ?_
  intro κ hκ C K
  subst hκ
  have C : Cx κ cX9_part RX9 (rmN 6) 3 := C
  refine j_iload_n C dX9_part_0 rfl 1 rfl ?_
  refine j_cSI (As := [.int v1]) (st := []) C (X9_isRow_ok κ.2.1 G D v1 _ hw) k_867 ms_X9_isRow ⟨by decide, by decide⟩ ⟨rfl, rfl⟩ rfl rfl (Nat.le_of_ble_eq_true rfl) ⟨Nat.zero_le _, Nat.zero_le _⟩ dX9_part_1 (fun r1 D2 hw => ?_)
  refine j_if_ne (tgt := 13) C dX9_part_4 (by decide) (fun hc => ?_) (fun hc => ?_)
  · have hw := hw.1 hc
    refine j_iload_n C dX9_part_13 rfl 2 rfl ?_
    refine j_if_lt (tgt := 22) C dX9_part_14 (by decide) (fun hc => ?_) (fun hc => ?_)
    · have hw := hw.1 hc
      exact J.sub (X9_part_j22_ok C K ho_v0 hr_g1 ho_g1 D2 hw) [0] rfl
    · have hw := hw.2 hc
      refine j_iload_n C dX9_part_17 rfl 2 rfl ?_
      refine j_iconst (v := 2) C dX9_part_18 (by decide) ?_
      refine j_icmp_le (tgt := 28) C dX9_part_19 (by decide) (fun hc => ?_) (fun hc => ?_)
      · have hw := hw.1 hc
        refine j_aload_n C dX9_part_28 rfl 0 rfl ?_
        refine j_iload_n C dX9_part_29 rfl 1 rfl ?_
        refine j_cVI (As := [.int v1]) (st := []) C (X9_solve_ok κ.2.1 G D2 v0 v1 _ hw) ho_v0 rfl k_957 mv_X9_solve ⟨by decide, by decide⟩ ⟨rfl, rfl⟩ rfl rfl (Nat.le_of_ble_eq_true rfl) ⟨Nat.zero_le _, Nat.zero_le _⟩ dX9_part_30 (fun r3 D4 hw => ?_)
        refine j_if_ne (tgt := 43) C dX9_part_33 (by decide) (fun hc => ?_) (fun hc => ?_)
        · have hw := hw.1 hc
          refine j_iload_n C dX9_part_43 rfl 2 rfl ?_
          refine j_iconst (v := 2) C dX9_part_44 (by decide) ?_
          refine j_icmp_ne (tgt := 63) C dX9_part_45 (by decide) (fun hc => ?_) (fun hc => ?_)
          · have hw := hw.1 hc
            refine j_iload_n C dX9_part_63 rfl 2 rfl ?_
            refine j_iconst (v := 1) C dX9_part_64 (by decide) ?_
            refine j_icmp_ne (tgt := 94) C dX9_part_65 (by decide) (fun hc => ?_) (fun hc => ?_)
            · have hw := hw.1 hc
              exact J.sub (X9_part_j94_ok C K ho_v0 hr_g1 ho_g1 D4 hw) [0, 2] rfl
            · have hw := hw.2 hc
              refine j_aload_n C dX9_part_68 rfl 0 rfl ?_
              refine gf_9_17 C ho_v0 hr_g1 k_781 dX9_part_69 ?_
              refine j_iload_n C dX9_part_72 rfl 1 rfl ?_
              obtain ⟨hi5, hw⟩ := hw
              refine j_zald C ho_g1 hi5 dX9_part_73 ?_
              refine j_if_ne (tgt := 94) C dX9_part_74 (by decide) (fun hc => ?_) (fun hc => ?_)
              · have hw := hw.1 hc
                exact J.sub (X9_part_j94_ok C K ho_v0 hr_g1 ho_g1 D4 hw) [0, 2] rfl
              · have hw := hw.2 hc
                refine j_aload_n C dX9_part_77 rfl 0 rfl ?_
                refine j_aload_n C dX9_part_78 rfl 0 rfl ?_
                refine j_lconst (v := 0) C dX9_part_79 (by decide) ?_
                refine j_cVI (As := [.long 0]) (st := [.ref v0]) C (X9_whole_ok κ.2.1 G D4 v0 0 _ hw) ho_v0 rfl k_977 mv_X9_whole ⟨by decide, by decide⟩ ⟨rfl, rfl⟩ rfl rfl (Nat.le_of_ble_eq_true rfl) ⟨Nat.zero_le _, Nat.zero_le _⟩ dX9_part_80 (fun r6 D7 hw => ?_)
                refine j_aload_n C dX9_part_83 rfl 0 rfl ?_
                refine j_lconst (v := 1) C dX9_part_84 (by decide) ?_
                refine j_cVI (As := [.long 1]) (st := [.int r6, .ref v0]) C (X9_whole_ok κ.2.1 G D7 v0 1 _ hw) ho_v0 rfl k_977 mv_X9_whole ⟨by decide, by decide⟩ ⟨rfl, rfl⟩ rfl rfl (Nat.le_of_ble_eq_true rfl) ⟨Nat.zero_le _, Nat.zero_le _⟩ dX9_part_85 (fun r8 D9 hw => ?_)
                refine j_cVI (As := [.int r6, .int r8]) (st := []) C (X9_tells_ok κ.2.1 G D9 v0 r6 r8 _ hw) ho_v0 rfl k_1056 mv_X9_tells ⟨by decide, by decide⟩ ⟨rfl, rfl⟩ rfl rfl (Nat.le_of_ble_eq_true rfl) ⟨Nat.zero_le _, Nat.zero_le _⟩ dX9_part_88 (fun r10 D11 hw => ?_)
                refine j_goto (tgt := 109) C dX9_part_91 (by decide) ?_
                exact J.sub (X9_part_j109_ok C K ho_v0 hr_g1 ho_g1 r10 D11 hw) [] rfl
          · have hw := hw.2 hc
            refine j_aload_n C dX9_part_48 rfl 0 rfl ?_
            refine j_aload_n C dX9_part_49 rfl 0 rfl ?_
            refine j_cVI (As := []) (st := [.ref v0]) C (X9_cost_ok κ.2.1 G D4 v0 _ hw) ho_v0 rfl k_1048 mv_X9_cost ⟨by decide, by decide⟩ ⟨rfl, rfl⟩ rfl rfl (Nat.le_of_ble_eq_true rfl) ⟨Nat.zero_le _, Nat.zero_le _⟩ dX9_part_50 (fun r12 D13 hw => ?_)
            refine j_aload_n C dX9_part_53 rfl 0 rfl ?_
            refine j_bipush (v := 19) C dX9_part_54 (by decide) ?_
            refine j_cVI (As := [.int 19]) (st := [.int r12, .ref v0]) C (X9_held_ok κ.2.1 G D13 v0 19 _ hw) ho_v0 rfl k_1052 mv_X9_held ⟨by decide, by decide⟩ ⟨rfl, rfl⟩ rfl rfl (Nat.le_of_ble_eq_true rfl) ⟨Nat.zero_le _, Nat.zero_le _⟩ dX9_part_56 (fun r14 D15 hw => ?_)
            refine j_cVI (As := [.int r12, .int r14]) (st := []) C (X9_tells_ok κ.2.1 G D15 v0 r12 r14 _ hw) ho_v0 rfl k_1056 mv_X9_tells ⟨by decide, by decide⟩ ⟨rfl, rfl⟩ rfl rfl (Nat.le_of_ble_eq_true rfl) ⟨Nat.zero_le _, Nat.zero_le _⟩ dX9_part_59 (fun r16 D17 hw => ?_)
            exact K _ _ _ _ dX9_part_62 rfl hw
        · have hw := hw.2 hc
          refine j_aload_n C dX9_part_36 rfl 0 rfl ?_
          refine j_bipush (v := 6) C dX9_part_37 (by decide) ?_
          refine j_cVI (As := [.int 6]) (st := []) C (X9_refuse_ok κ.2.1 G D4 v0 6 _ hw) ho_v0 rfl k_897 mv_X9_refuse ⟨by decide, by decide⟩ ⟨rfl, rfl⟩ rfl rfl (Nat.le_of_ble_eq_true rfl) ⟨Nat.zero_le _, Nat.zero_le _⟩ dX9_part_39 (fun r18 D19 hw => ?_)
          exact K _ _ _ _ dX9_part_42 rfl hw
      · have hw := hw.2 hc
        exact J.sub (X9_part_j22_ok C K ho_v0 hr_g1 ho_g1 D2 hw) [0] rfl
  · have hw := hw.2 hc
    refine j_aload_n C dX9_part_7 rfl 0 rfl ?_
    refine j_iconst (v := 1) C dX9_part_8 (by decide) ?_
    refine j_cVI (As := [.int 1]) (st := []) C (X9_refuse_ok κ.2.1 G D2 v0 1 _ hw) ho_v0 rfl k_897 mv_X9_refuse ⟨by decide, by decide⟩ ⟨rfl, rfl⟩ rfl rfl (Nat.le_of_ble_eq_true rfl) ⟨Nat.zero_le _, Nat.zero_le _⟩ dX9_part_9 (fun r20 D21 hw => ?_)
    exact K _ _ _ _ dX9_part_12 rfl hw
/-! X9_rest -/
def X9_rest_j14 (G : Shp) (post : Int32 → Dat → Prop) (v0 : Nat) (v1 : Int32) (v2 : Int32) (g1 : Nat) (D : Dat) : Prop := X9_refuse_wp G D v0 1 (fun r1 D2 => post r1 D2)
set_option maxRecDepth 100000 in
set_option maxHeartbeats 4000000 in
theorem X9_rest_j14_ok {κ : Ctx} {G : Shp} {post : Int32 → Dat → Prop} {v0 : Nat} {v1 : Int32} {v2 : Int32} {g1 : Nat} (C : Cx κ cX9_rest RX9 (rmN 6) 3) (K : RtI κ cX9_rest .int G post) (ho_v0 : isO G v0 9) (hr_g1 : G.2.2.2 v0 15 = some g1) (ho_g1 : isO G g1 13) (D : Dat) (hw : X9_rest_j14 G post v0 v1 v2 g1 D) : J κ 0 0 G D 14 [(0, .ref v0)] [] := by
  unfold X9_rest_j14 at hw
  refine j_aload_n C dX9_rest_14 rfl 0 rfl ?_
  refine j_iconst (v := 1) C dX9_rest_15 (by decide) ?_
  refine j_cVI (As := [.int 1]) (st := []) C (X9_refuse_ok κ.2.1 G D v0 1 _ hw) ho_v0 rfl k_897 mv_X9_refuse ⟨by decide, by decide⟩ ⟨rfl, rfl⟩ rfl rfl (Nat.le_of_ble_eq_true rfl) ⟨Nat.zero_le _, Nat.zero_le _⟩ dX9_rest_16 (fun r1 D2 hw => ?_)
  exact K _ _ _ _ dX9_rest_19 rfl hw
def X9_rest_wp (G : Shp) (D : Dat) (v0 : Nat) (v1 : Int32) (v2 : Int32) (post : Int32 → Dat → Prop) : Prop := isO G v0 9 ∧ ∃ g1, G.2.2.2 v0 15 = some g1 ∧ isO G g1 13 ∧ X9_isRow_wp G D v1 (fun r1 D2 => ((r1 = 0 → X9_rest_j14 G post v0 v1 v2 g1 D2) ∧ (¬ (r1 = 0) → X9_isTick_wp G D2 v2 (fun r3 D4 => ((¬ r3 = 0 → X9_spot_wp G D4 v1 v2 (fun r5 D6 => (vp_in r5 (G.2.2.1 g1) ∧ ((¬ (D6.1 g1 r5.toNatClampNeg) = 0 → X9_solve_wp G D6 v0 v1 (fun r8 D9 => ((¬ r8 = 0 → X9_restOf_wp G D9 v0 v1 v2 (fun r10 D11 => X9_held_wp G D11 v0 19 (fun r12 D13 => X9_tells_wp G D13 v0 r10 r12 (fun r14 D15 => post r14 D15)))) ∧ (r8 = 0 → X9_refuse_wp G D9 v0 6 (fun r16 D17 => post r16 D17))))) ∧ ((D6.1 g1 r5.toNatClampNeg) = 0 → X9_refuse_wp G D6 v0 7 (fun r18 D19 => post r18 D19)))))) ∧ (r3 = 0 → X9_rest_j14 G post v0 v1 v2 g1 D4))))))
set_option maxRecDepth 100000 in
set_option maxHeartbeats 4000000 in
theorem X9_rest_ok (l : Launch) (G : Shp) (D : Dat) (v0 : Nat) (v1 : Int32) (v2 : Int32) (post : Int32 → Dat → Prop) (hw : X9_rest_wp G D v0 v1 v2 post) : CtI l yX9_rest cX9_rest 3 .int (rmN 6) [.ref v0, .int v1, .int v2] G D post := by
  obtain ⟨ho_v0, g1, hr_g1, ho_g1, hw⟩ := hw
  refine ctI_of (by decide) rfl (Nat.le_of_ble_eq_true rfl) ?_
  intro κ hκ C K
  subst hκ
  have C : Cx κ cX9_rest RX9 (rmN 6) 3 := C
  refine j_iload_n C dX9_rest_0 rfl 1 rfl ?_
  refine j_cSI (As := [.int v1]) (st := []) C (X9_isRow_ok κ.2.1 G D v1 _ hw) k_867 ms_X9_isRow ⟨by decide, by decide⟩ ⟨rfl, rfl⟩ rfl rfl (Nat.le_of_ble_eq_true rfl) ⟨Nat.zero_le _, Nat.zero_le _⟩ dX9_rest_1 (fun r1 D2 hw => ?_)
  refine j_if_eq (tgt := 14) C dX9_rest_4 (by decide) (fun hc => ?_) (fun hc => ?_)
  · have hw := hw.1 hc
    exact J.sub (X9_rest_j14_ok C K ho_v0 hr_g1 ho_g1 D2 hw) [0] rfl
  · have hw := hw.2 hc
    refine j_iload_n C dX9_rest_7 rfl 2 rfl ?_
    refine j_cSI (As := [.int v2]) (st := []) C (X9_isTick_ok κ.2.1 G D2 v2 _ hw) k_870 ms_X9_isTick ⟨by decide, by decide⟩ ⟨rfl, rfl⟩ rfl rfl (Nat.le_of_ble_eq_true rfl) ⟨Nat.zero_le _, Nat.zero_le _⟩ dX9_rest_8 (fun r3 D4 hw => ?_)
    refine j_if_ne (tgt := 20) C dX9_rest_11 (by decide) (fun hc => ?_) (fun hc => ?_)
    · have hw := hw.1 hc
      refine j_aload_n C dX9_rest_20 rfl 0 rfl ?_
      refine gf_9_15 C ho_v0 hr_g1 k_779 dX9_rest_21 ?_
      refine j_iload_n C dX9_rest_24 rfl 1 rfl ?_
      refine j_iload_n C dX9_rest_25 rfl 2 rfl ?_
      refine j_cSI (As := [.int v1, .int v2]) (st := [.ref g1]) C (X9_spot_ok κ.2.1 G D4 v1 v2 _ hw) k_882 ms_X9_spot ⟨by decide, by decide⟩ ⟨rfl, rfl⟩ rfl rfl (Nat.le_of_ble_eq_true rfl) ⟨Nat.zero_le _, Nat.zero_le _⟩ dX9_rest_26 (fun r5 D6 hw => ?_)
      obtain ⟨hi7, hw⟩ := hw
      refine j_zald C ho_g1 hi7 dX9_rest_29 ?_
      refine j_if_ne (tgt := 40) C dX9_rest_30 (by decide) (fun hc => ?_) (fun hc => ?_)
      · have hw := hw.1 hc
        refine j_aload_n C dX9_rest_40 rfl 0 rfl ?_
        refine j_iload_n C dX9_rest_41 rfl 1 rfl ?_
        refine j_cVI (As := [.int v1]) (st := []) C (X9_solve_ok κ.2.1 G D6 v0 v1 _ hw) ho_v0 rfl k_957 mv_X9_solve ⟨by decide, by decide⟩ ⟨rfl, rfl⟩ rfl rfl (Nat.le_of_ble_eq_true rfl) ⟨Nat.zero_le _, Nat.zero_le _⟩ dX9_rest_42 (fun r8 D9 hw => ?_)
        refine j_if_ne (tgt := 55) C dX9_rest_45 (by decide) (fun hc => ?_) (fun hc => ?_)
        · have hw := hw.1 hc
          refine j_aload_n C dX9_rest_55 rfl 0 rfl ?_
          refine j_aload_n C dX9_rest_56 rfl 0 rfl ?_
          refine j_iload_n C dX9_rest_57 rfl 1 rfl ?_
          refine j_iload_n C dX9_rest_58 rfl 2 rfl ?_
          refine j_cVI (As := [.int v1, .int v2]) (st := [.ref v0]) C (X9_restOf_ok κ.2.1 G D9 v0 v1 v2 _ hw) ho_v0 rfl k_1104 mv_X9_restOf ⟨by decide, by decide⟩ ⟨rfl, rfl⟩ rfl rfl (Nat.le_of_ble_eq_true rfl) ⟨Nat.zero_le _, Nat.zero_le _⟩ dX9_rest_59 (fun r10 D11 hw => ?_)
          refine j_aload_n C dX9_rest_62 rfl 0 rfl ?_
          refine j_bipush (v := 19) C dX9_rest_63 (by decide) ?_
          refine j_cVI (As := [.int 19]) (st := [.int r10, .ref v0]) C (X9_held_ok κ.2.1 G D11 v0 19 _ hw) ho_v0 rfl k_1052 mv_X9_held ⟨by decide, by decide⟩ ⟨rfl, rfl⟩ rfl rfl (Nat.le_of_ble_eq_true rfl) ⟨Nat.zero_le _, Nat.zero_le _⟩ dX9_rest_65 (fun r12 D13 hw => ?_)
          refine j_cVI (As := [.int r10, .int r12]) (st := []) C (X9_tells_ok κ.2.1 G D13 v0 r10 r12 _ hw) ho_v0 rfl k_1056 mv_X9_tells ⟨by decide, by decide⟩ ⟨rfl, rfl⟩ rfl rfl (Nat.le_of_ble_eq_true rfl) ⟨Nat.zero_le _, Nat.zero_le _⟩ dX9_rest_68 (fun r14 D15 hw => ?_)
          exact K _ _ _ _ dX9_rest_71 rfl hw
        · have hw := hw.2 hc
          refine j_aload_n C dX9_rest_48 rfl 0 rfl ?_
          refine j_bipush (v := 6) C dX9_rest_49 (by decide) ?_
          refine j_cVI (As := [.int 6]) (st := []) C (X9_refuse_ok κ.2.1 G D9 v0 6 _ hw) ho_v0 rfl k_897 mv_X9_refuse ⟨by decide, by decide⟩ ⟨rfl, rfl⟩ rfl rfl (Nat.le_of_ble_eq_true rfl) ⟨Nat.zero_le _, Nat.zero_le _⟩ dX9_rest_51 (fun r16 D17 hw => ?_)
          exact K _ _ _ _ dX9_rest_54 rfl hw
      · have hw := hw.2 hc
        refine j_aload_n C dX9_rest_33 rfl 0 rfl ?_
        refine j_bipush (v := 7) C dX9_rest_34 (by decide) ?_
        refine j_cVI (As := [.int 7]) (st := []) C (X9_refuse_ok κ.2.1 G D6 v0 7 _ hw) ho_v0 rfl k_897 mv_X9_refuse ⟨by decide, by decide⟩ ⟨rfl, rfl⟩ rfl rfl (Nat.le_of_ble_eq_true rfl) ⟨Nat.zero_le _, Nat.zero_le _⟩ dX9_rest_36 (fun r18 D19 hw => ?_)
        exact K _ _ _ _ dX9_rest_39 rfl hw
    · have hw := hw.2 hc
      exact J.sub (X9_rest_j14_ok C K ho_v0 hr_g1 ho_g1 D4 hw) [0] rfl
/-! X9_right -/
def X9_right_l295_b (G : Shp) (post : Int32 → Dat → Prop) (v0 : Nat) (v1 : Int32) (v2 : Int32) (v3 : Int32) (v4 : Int32) (v5 : Int32) (v6 : Int32) (rec : Int32 → Int32 → Int32 → Int32 → Dat → Prop) (v9 : Int32) (v10 : Int32) (v11 : Int32) (v12 : Int32) (D : Dat) : Prop := ((v9 ≤ v12 → X9_held_wp G D v0 (22 + (2 * v5)) (fun r1 D2 => X9_held_wp G D2 v0 ((22 + (2 * v5)) + 1) (fun r3 D4 => X9_whole_wp G D4 v0 v9.toInt64 (fun r5 D6 => X9_times_wp G D6 v0 v11 r5 (fun r7 D8 => X9_times_wp G D8 v0 r1 r7 (fun r9 D10 => X9_times_wp G D10 v0 v10 r3 (fun r11 D12 => X9_sum_wp G D12 v0 r9 r11 (fun r13 D14 => X9_times_wp G D14 v0 r3 r7 (fun r15 D16 => X9_tells_wp G D16 v0 r13 r15 (fun r17 D18 => post r17 D18)))))))))) ∧ (¬ (v9 ≤ v12) → X9_held_wp G D v0 (22 + (2 * v12)) (fun r19 D20 => X9_held_wp G D20 v0 ((22 + (2 * v12)) + 1) (fun r21 D22 => X9_times_wp G D22 v0 v10 r21 (fun r23 D24 => X9_times_wp G D24 v0 r19 v11 (fun r25 D26 => X9_less_wp G D26 v0 r23 r25 (fun r27 D28 => X9_times_wp G D28 v0 v11 r21 (fun r29 D30 => rec v9 r27 r29 (v12 + 1) D30))))))))
def X9_right_l295 (G : Shp) (post : Int32 → Dat → Prop) (v0 : Nat) (v1 : Int32) (v2 : Int32) (v3 : Int32) (v4 : Int32) (v5 : Int32) (v6 : Int32) : Nat → Int32 → Int32 → Int32 → Int32 → Dat → Prop
  | 0 => fun _ _ _ _ _ => False
  | n + 1 => X9_right_l295_b G post v0 v1 v2 v3 v4 v5 v6 (X9_right_l295 G post v0 v1 v2 v3 v4 v5 v6 n)
set_option maxRecDepth 100000 in
set_option maxHeartbeats 4000000 in
theorem X9_right_l295_ok {κ : Ctx} {G : Shp} {post : Int32 → Dat → Prop} {v0 : Nat} {v1 : Int32} {v2 : Int32} {v3 : Int32} {v4 : Int32} {v5 : Int32} {v6 : Int32} (C : Cx κ cX9_right RX9 (rmN 6) 15) (K : RtI κ cX9_right .int G post) (ho_v0 : isO G v0 9) : ∀ (n : Nat) (v9 : Int32) (v10 : Int32) (v11 : Int32) (v12 : Int32) (D : Dat), X9_right_l295 G post v0 v1 v2 v3 v4 v5 v6 n v9 v10 v11 v12 D → J κ 0 0 G D 295 [(0, .ref v0), (5, .int v5), (9, .int v9), (10, .int v10), (11, .int v11), (12, .int v12)] [] := by
  intro n
  induction n with
  | zero => intro v9 v10 v11 v12 D hw; exact hw.elim
  | succ n ih =>
    intro v9 v10 v11 v12 D hw
    have hw : X9_right_l295_b G post v0 v1 v2 v3 v4 v5 v6 (X9_right_l295 G post v0 v1 v2 v3 v4 v5 v6 n) v9 v10 v11 v12 D := hw
    unfold X9_right_l295_b at hw
    refine j_iload C dX9_right_295 5 rfl ?_
    refine j_iload C dX9_right_297 2 rfl ?_
    refine j_icmp_ge (tgt := 368) C dX9_right_299 (by decide) (fun hc => ?_) (fun hc => ?_)
    · have hw := hw.1 hc
      refine j_aload_n C dX9_right_368 rfl 0 rfl ?_
      refine j_bipush (v := 22) C dX9_right_369 (by decide) ?_
      refine j_iconst (v := 2) C dX9_right_371 (by decide) ?_
      refine j_iload C dX9_right_372 1 rfl ?_
      refine j_imul C dX9_right_374 ?_
      refine j_iadd C dX9_right_375 ?_
      refine j_cVI (As := [.int (22 + (2 * v5))]) (st := []) C (X9_held_ok κ.2.1 G D v0 (22 + (2 * v5)) _ hw) ho_v0 rfl k_1052 mv_X9_held ⟨by decide, by decide⟩ ⟨rfl, rfl⟩ rfl rfl (Nat.le_of_ble_eq_true rfl) ⟨Nat.zero_le _, Nat.zero_le _⟩ dX9_right_376 (fun r1 D2 hw => ?_)
      refine j_istore C dX9_right_379 (by decide) rfl ?_
      refine j_aload_n C dX9_right_381 rfl 1 rfl ?_
      refine j_bipush (v := 22) C dX9_right_382 (by decide) ?_
      refine j_iconst (v := 2) C dX9_right_384 (by decide) ?_
      refine j_iload C dX9_right_385 2 rfl ?_
      refine j_imul C dX9_right_387 ?_
      refine j_iadd C dX9_right_388 ?_
      refine j_iconst (v := 1) C dX9_right_389 (by decide) ?_
      refine j_iadd C dX9_right_390 ?_
      refine j_cVI (As := [.int ((22 + (2 * v5)) + 1)]) (st := []) C (X9_held_ok κ.2.1 G D2 v0 ((22 + (2 * v5)) + 1) _ hw) ho_v0 rfl k_1052 mv_X9_held ⟨by decide, by decide⟩ ⟨rfl, rfl⟩ rfl rfl (Nat.le_of_ble_eq_true rfl) ⟨Nat.zero_le _, Nat.zero_le _⟩ dX9_right_391 (fun r3 D4 hw => ?_)
      refine j_istore C dX9_right_394 (by decide) rfl ?_
      refine j_aload_n C dX9_right_396 rfl 2 rfl ?_
      refine j_iload C dX9_right_397 6 rfl ?_
      refine j_aload_n C dX9_right_399 rfl 2 rfl ?_
      refine j_iload C dX9_right_400 4 rfl ?_
      refine j_i2l C dX9_right_402 ?_
      refine j_cVI (As := [.long v9.toInt64]) (st := [.int v11, .ref v0]) C (X9_whole_ok κ.2.1 G D4 v0 v9.toInt64 _ hw) ho_v0 rfl k_977 mv_X9_whole ⟨by decide, by decide⟩ ⟨rfl, rfl⟩ rfl rfl (Nat.le_of_ble_eq_true rfl) ⟨Nat.zero_le _, Nat.zero_le _⟩ dX9_right_403 (fun r5 D6 hw => ?_)
      refine j_cVI (As := [.int v11, .int r5]) (st := []) C (X9_times_ok κ.2.1 G D6 v0 v11 r5 _ hw) ho_v0 rfl k_994 mv_X9_times ⟨by decide, by decide⟩ ⟨rfl, rfl⟩ rfl rfl (Nat.le_of_ble_eq_true rfl) ⟨Nat.zero_le _, Nat.zero_le _⟩ dX9_right_406 (fun r7 D8 hw => ?_)
      refine j_istore C dX9_right_409 (by decide) rfl ?_
      refine j_aload_n C dX9_right_411 rfl 3 rfl ?_
      refine j_aload_n C dX9_right_412 rfl 3 rfl ?_
      refine j_aload_n C dX9_right_413 rfl 3 rfl ?_
      refine j_iload C dX9_right_414 2 rfl ?_
      refine j_iload C dX9_right_416 0 rfl ?_
      refine j_cVI (As := [.int r1, .int r7]) (st := [.ref v0, .ref v0]) C (X9_times_ok κ.2.1 G D8 v0 r1 r7 _ hw) ho_v0 rfl k_994 mv_X9_times ⟨by decide, by decide⟩ ⟨rfl, rfl⟩ rfl rfl (Nat.le_of_ble_eq_true rfl) ⟨Nat.zero_le _, Nat.zero_le _⟩ dX9_right_418 (fun r9 D10 hw => ?_)
      refine j_aload_n C dX9_right_421 rfl 3 rfl ?_
      refine j_iload C dX9_right_422 6 rfl ?_
      refine j_iload C dX9_right_424 1 rfl ?_
      refine j_cVI (As := [.int v10, .int r3]) (st := [.int r9, .ref v0, .ref v0]) C (X9_times_ok κ.2.1 G D10 v0 v10 r3 _ hw) ho_v0 rfl k_994 mv_X9_times ⟨by decide, by decide⟩ ⟨rfl, rfl⟩ rfl rfl (Nat.le_of_ble_eq_true rfl) ⟨Nat.zero_le _, Nat.zero_le _⟩ dX9_right_426 (fun r11 D12 hw => ?_)
      refine j_cVI (As := [.int r9, .int r11]) (st := [.ref v0]) C (X9_sum_ok κ.2.1 G D12 v0 r9 r11 _ hw) ho_v0 rfl k_1014 mv_X9_sum ⟨by decide, by decide⟩ ⟨rfl, rfl⟩ rfl rfl (Nat.le_of_ble_eq_true rfl) ⟨Nat.zero_le _, Nat.zero_le _⟩ dX9_right_429 (fun r13 D14 hw => ?_)
      refine j_aload_n C dX9_right_432 rfl 3 rfl ?_
      refine j_iload C dX9_right_433 1 rfl ?_
      refine j_iload C dX9_right_435 0 rfl ?_
      refine j_cVI (As := [.int r3, .int r7]) (st := [.int r13, .ref v0]) C (X9_times_ok κ.2.1 G D14 v0 r3 r7 _ hw) ho_v0 rfl k_994 mv_X9_times ⟨by decide, by decide⟩ ⟨rfl, rfl⟩ rfl rfl (Nat.le_of_ble_eq_true rfl) ⟨Nat.zero_le _, Nat.zero_le _⟩ dX9_right_437 (fun r15 D16 hw => ?_)
      refine j_cVI (As := [.int r13, .int r15]) (st := []) C (X9_tells_ok κ.2.1 G D16 v0 r13 r15 _ hw) ho_v0 rfl k_1056 mv_X9_tells ⟨by decide, by decide⟩ ⟨rfl, rfl⟩ rfl rfl (Nat.le_of_ble_eq_true rfl) ⟨Nat.zero_le _, Nat.zero_le _⟩ dX9_right_440 (fun r17 D18 hw => ?_)
      exact K _ _ _ _ dX9_right_443 rfl hw
    · have hw := hw.2 hc
      refine j_aload_n C dX9_right_302 rfl 0 rfl ?_
      refine j_bipush (v := 22) C dX9_right_303 (by decide) ?_
      refine j_iconst (v := 2) C dX9_right_305 (by decide) ?_
      refine j_iload C dX9_right_306 5 rfl ?_
      refine j_imul C dX9_right_308 ?_
      refine j_iadd C dX9_right_309 ?_
      refine j_cVI (As := [.int (22 + (2 * v12))]) (st := []) C (X9_held_ok κ.2.1 G D v0 (22 + (2 * v12)) _ hw) ho_v0 rfl k_1052 mv_X9_held ⟨by decide, by decide⟩ ⟨rfl, rfl⟩ rfl rfl (Nat.le_of_ble_eq_true rfl) ⟨Nat.zero_le _, Nat.zero_le _⟩ dX9_right_310 (fun r19 D20 hw => ?_)
      refine j_istore C dX9_right_313 (by decide) rfl ?_
      refine j_aload_n C dX9_right_315 rfl 1 rfl ?_
      refine j_bipush (v := 22) C dX9_right_316 (by decide) ?_
      refine j_iconst (v := 2) C dX9_right_318 (by decide) ?_
      refine j_iload C dX9_right_319 6 rfl ?_
      refine j_imul C dX9_right_321 ?_
      refine j_iadd C dX9_right_322 ?_
      refine j_iconst (v := 1) C dX9_right_323 (by decide) ?_
      refine j_iadd C dX9_right_324 ?_
      refine j_cVI (As := [.int ((22 + (2 * v12)) + 1)]) (st := []) C (X9_held_ok κ.2.1 G D20 v0 ((22 + (2 * v12)) + 1) _ hw) ho_v0 rfl k_1052 mv_X9_held ⟨by decide, by decide⟩ ⟨rfl, rfl⟩ rfl rfl (Nat.le_of_ble_eq_true rfl) ⟨Nat.zero_le _, Nat.zero_le _⟩ dX9_right_325 (fun r21 D22 hw => ?_)
      refine j_istore C dX9_right_328 (by decide) rfl ?_
      refine j_aload_n C dX9_right_330 rfl 2 rfl ?_
      refine j_aload_n C dX9_right_331 rfl 2 rfl ?_
      refine j_iload C dX9_right_332 5 rfl ?_
      refine j_iload C dX9_right_334 0 rfl ?_
      refine j_cVI (As := [.int v10, .int r21]) (st := [.ref v0]) C (X9_times_ok κ.2.1 G D22 v0 v10 r21 _ hw) ho_v0 rfl k_994 mv_X9_times ⟨by decide, by decide⟩ ⟨rfl, rfl⟩ rfl rfl (Nat.le_of_ble_eq_true rfl) ⟨Nat.zero_le _, Nat.zero_le _⟩ dX9_right_336 (fun r23 D24 hw => ?_)
      refine j_aload_n C dX9_right_339 rfl 2 rfl ?_
      refine j_iload C dX9_right_340 1 rfl ?_
      refine j_iload C dX9_right_342 6 rfl ?_
      refine j_cVI (As := [.int r19, .int v11]) (st := [.int r23, .ref v0]) C (X9_times_ok κ.2.1 G D24 v0 r19 v11 _ hw) ho_v0 rfl k_994 mv_X9_times ⟨by decide, by decide⟩ ⟨rfl, rfl⟩ rfl rfl (Nat.le_of_ble_eq_true rfl) ⟨Nat.zero_le _, Nat.zero_le _⟩ dX9_right_344 (fun r25 D26 hw => ?_)
      refine j_cVI (As := [.int r23, .int r25]) (st := []) C (X9_less_ok κ.2.1 G D26 v0 r23 r25 _ hw) ho_v0 rfl k_1002 mv_X9_less ⟨by decide, by decide⟩ ⟨rfl, rfl⟩ rfl rfl (Nat.le_of_ble_eq_true rfl) ⟨Nat.zero_le _, Nat.zero_le _⟩ dX9_right_347 (fun r27 D28 hw => ?_)
      refine j_istore C dX9_right_350 (by decide) rfl ?_
      refine j_aload_n C dX9_right_352 rfl 3 rfl ?_
      refine j_iload C dX9_right_353 6 rfl ?_
      refine j_iload C dX9_right_355 1 rfl ?_
      refine j_cVI (As := [.int v11, .int r21]) (st := []) C (X9_times_ok κ.2.1 G D28 v0 v11 r21 _ hw) ho_v0 rfl k_994 mv_X9_times ⟨by decide, by decide⟩ ⟨rfl, rfl⟩ rfl rfl (Nat.le_of_ble_eq_true rfl) ⟨Nat.zero_le _, Nat.zero_le _⟩ dX9_right_357 (fun r29 D30 hw => ?_)
      refine j_istore C dX9_right_360 (by decide) rfl ?_
      refine j_iinc (v := v12 + 1) C dX9_right_362 7 rfl rfl (by decide) rfl ?_
      refine j_goto (tgt := 295) C dX9_right_365 (by decide) ?_
      exact J.sub (ih v9 r27 r29 (v12 + 1) D30 hw) [5, 6, 7, 2, 1, 0] rfl
def X9_right_j196 (G : Shp) (post : Int32 → Dat → Prop) (v0 : Nat) (v1 : Int32) (v2 : Int32) (v3 : Int32) (v4 : Int32) (v5 : Int32) (v6 : Int32) (k157 : Int32 → Int32 → Dat → Prop) (v9 : Int32) (v10 : Int32) (s0 : Int32) (D : Dat) : Prop := X9_solve_wp G D v0 s0 (fun r1 D2 => ((¬ r1 = 0 → X9_given_wp G D2 v0 s0 v6 3 (fun r3 D4 => X9_keep_wp G D4 v0 (22 + (2 * v10)) r3 (fun D6 => X9_held_wp G D6 v0 19 (fun r7 D8 => X9_keep_wp G D8 v0 ((22 + (2 * v10)) + 1) r7 (fun D10 => k157 v9 (v10 + 1) D10))))) ∧ (r1 = 0 → X9_refuse_wp G D2 v0 6 (fun r11 D12 => post r11 D12))))
set_option maxRecDepth 100000 in
set_option maxHeartbeats 4000000 in
theorem X9_right_j196_ok {κ : Ctx} {G : Shp} {post : Int32 → Dat → Prop} {v0 : Nat} {v1 : Int32} {v2 : Int32} {v3 : Int32} {v4 : Int32} {v5 : Int32} {v6 : Int32} (C : Cx κ cX9_right RX9 (rmN 6) 15) (K : RtI κ cX9_right .int G post) (ho_v0 : isO G v0 9) {k157 : Int32 → Int32 → Dat → Prop} (hk157 : ∀ (v9 : Int32) (v10 : Int32) (D : Dat), k157 v9 v10 D → J κ 0 0 G D 157 [(0, .ref v0), (1, .int v1), (2, .int v2), (3, .int v3), (4, .int v4), (5, .int v5), (6, .int v6), (9, .int v9), (10, .int v10)] []) (v9 : Int32) (v10 : Int32) (s0 : Int32) (D : Dat) (hw : X9_right_j196 G post v0 v1 v2 v3 v4 v5 v6 k157 v9 v10 s0 D) : J κ 0 0 G D 196 [(0, .ref v0), (1, .int v1), (2, .int v2), (3, .int v3), (4, .int v4), (5, .int v5), (6, .int v6), (9, .int v9), (10, .int v10)] [.int s0] := by
  unfold X9_right_j196 at hw
  refine j_istore C dX9_right_196 (by decide) rfl ?_
  refine j_aload_n C dX9_right_198 rfl 1 rfl ?_
  refine j_iload C dX9_right_199 0 rfl ?_
  refine j_cVI (As := [.int s0]) (st := []) C (X9_solve_ok κ.2.1 G D v0 s0 _ hw) ho_v0 rfl k_957 mv_X9_solve ⟨by decide, by decide⟩ ⟨rfl, rfl⟩ rfl rfl (Nat.le_of_ble_eq_true rfl) ⟨Nat.zero_le _, Nat.zero_le _⟩ dX9_right_201 (fun r1 D2 hw => ?_)
  refine j_if_ne (tgt := 214) C dX9_right_204 (by decide) (fun hc => ?_) (fun hc => ?_)
  · have hw := hw.1 hc
    refine j_aload_n C dX9_right_214 rfl 1 rfl ?_
    refine j_bipush (v := 22) C dX9_right_215 (by decide) ?_
    refine j_iconst (v := 2) C dX9_right_217 (by decide) ?_
    refine j_iload C dX9_right_218 9 rfl ?_
    refine j_imul C dX9_right_220 ?_
    refine j_iadd C dX9_right_221 ?_
    refine j_aload_n C dX9_right_222 rfl 1 rfl ?_
    refine j_iload C dX9_right_223 0 rfl ?_
    refine j_iload C dX9_right_225 7 rfl ?_
    refine j_iconst (v := 3) C dX9_right_227 (by decide) ?_
    refine j_cVI (As := [.int s0, .int v6, .int 3]) (st := [.int (22 + (2 * v10)), .ref v0]) C (X9_given_ok κ.2.1 G D2 v0 s0 v6 3 _ hw) ho_v0 rfl k_1089 mv_X9_given ⟨by decide, by decide⟩ ⟨rfl, rfl⟩ rfl rfl (Nat.le_of_ble_eq_true rfl) ⟨Nat.zero_le _, Nat.zero_le _⟩ dX9_right_228 (fun r3 D4 hw => ?_)
    refine j_cVV (As := [.int (22 + (2 * v10)), .int r3]) (st := []) C (X9_keep_ok κ.2.1 G D4 v0 (22 + (2 * v10)) r3 _ hw) ho_v0 rfl k_1044 mv_X9_keep ⟨by decide, by decide⟩ ⟨rfl, rfl⟩ rfl rfl (Nat.le_of_ble_eq_true rfl) ⟨Nat.zero_le _, Nat.zero_le _⟩ dX9_right_231 (fun D6 hw => ?_)
    refine j_aload_n C dX9_right_234 rfl 1 rfl ?_
    refine j_bipush (v := 22) C dX9_right_235 (by decide) ?_
    refine j_iconst (v := 2) C dX9_right_237 (by decide) ?_
    refine j_iload C dX9_right_238 9 rfl ?_
    refine j_imul C dX9_right_240 ?_
    refine j_iadd C dX9_right_241 ?_
    refine j_iconst (v := 1) C dX9_right_242 (by decide) ?_
    refine j_iadd C dX9_right_243 ?_
    refine j_aload_n C dX9_right_244 rfl 1 rfl ?_
    refine j_bipush (v := 19) C dX9_right_245 (by decide) ?_
    refine j_cVI (As := [.int 19]) (st := [.int ((22 + (2 * v10)) + 1), .ref v0]) C (X9_held_ok κ.2.1 G D6 v0 19 _ hw) ho_v0 rfl k_1052 mv_X9_held ⟨by decide, by decide⟩ ⟨rfl, rfl⟩ rfl rfl (Nat.le_of_ble_eq_true rfl) ⟨Nat.zero_le _, Nat.zero_le _⟩ dX9_right_247 (fun r7 D8 hw => ?_)
    refine j_cVV (As := [.int ((22 + (2 * v10)) + 1), .int r7]) (st := []) C (X9_keep_ok κ.2.1 G D8 v0 ((22 + (2 * v10)) + 1) r7 _ hw) ho_v0 rfl k_1044 mv_X9_keep ⟨by decide, by decide⟩ ⟨rfl, rfl⟩ rfl rfl (Nat.le_of_ble_eq_true rfl) ⟨Nat.zero_le _, Nat.zero_le _⟩ dX9_right_250 (fun D10 hw => ?_)
    refine j_iinc (v := v10 + 1) C dX9_right_253 9 rfl rfl (by decide) rfl ?_
    refine j_goto (tgt := 157) C dX9_right_256 (by decide) ?_
    exact J.sub (hk157 v9 (v10 + 1) D10 hw) [2, 3, 4, 5, 6, 7, 8, 9, 0] rfl
  · have hw := hw.2 hc
    refine j_aload_n C dX9_right_207 rfl 1 rfl ?_
    refine j_bipush (v := 6) C dX9_right_208 (by decide) ?_
    refine j_cVI (As := [.int 6]) (st := []) C (X9_refuse_ok κ.2.1 G D2 v0 6 _ hw) ho_v0 rfl k_897 mv_X9_refuse ⟨by decide, by decide⟩ ⟨rfl, rfl⟩ rfl rfl (Nat.le_of_ble_eq_true rfl) ⟨Nat.zero_le _, Nat.zero_le _⟩ dX9_right_210 (fun r11 D12 hw => ?_)
    exact K _ _ _ _ dX9_right_213 rfl hw
def X9_right_l157_b (G : Shp) (post : Int32 → Dat → Prop) (v0 : Nat) (v1 : Int32) (v2 : Int32) (v3 : Int32) (v4 : Int32) (v5 : Int32) (v6 : Int32) (rec : Int32 → Int32 → Dat → Prop) (v9 : Int32) (v10 : Int32) (D : Dat) : Prop := ((v9 < v10 → X9_held_wp G (dI D v0 2 0) v0 (22 + (2 * v9)) (fun r1 D2 => X9_held_wp G D2 v0 ((22 + (2 * v9)) + 1) (fun r3 D4 => ∃ n, X9_right_l295 G post v0 v1 v2 v3 v4 v5 v6 n v9 r1 r3 0 D4))) ∧ (¬ (v9 < v10) → ((¬ v10 = v9 → ((¬ v10 = 0 → ((¬ v10 = 1 → X9_right_j196 G post v0 v1 v2 v3 v4 v5 v6 rec v9 v10 v3 D) ∧ (v10 = 1 → X9_right_j196 G post v0 v1 v2 v3 v4 v5 v6 rec v9 v10 v2 D))) ∧ (v10 = 0 → X9_right_j196 G post v0 v1 v2 v3 v4 v5 v6 rec v9 v10 v1 D))) ∧ (v10 = v9 → X9_right_j196 G post v0 v1 v2 v3 v4 v5 v6 rec v9 v10 v4 D))))
def X9_right_l157 (G : Shp) (post : Int32 → Dat → Prop) (v0 : Nat) (v1 : Int32) (v2 : Int32) (v3 : Int32) (v4 : Int32) (v5 : Int32) (v6 : Int32) : Nat → Int32 → Int32 → Dat → Prop
  | 0 => fun _ _ _ => False
  | n + 1 => X9_right_l157_b G post v0 v1 v2 v3 v4 v5 v6 (X9_right_l157 G post v0 v1 v2 v3 v4 v5 v6 n)
set_option maxRecDepth 100000 in
set_option maxHeartbeats 4000000 in
theorem X9_right_l157_ok {κ : Ctx} {G : Shp} {post : Int32 → Dat → Prop} {v0 : Nat} {v1 : Int32} {v2 : Int32} {v3 : Int32} {v4 : Int32} {v5 : Int32} {v6 : Int32} (C : Cx κ cX9_right RX9 (rmN 6) 15) (K : RtI κ cX9_right .int G post) (ho_v0 : isO G v0 9) : ∀ (n : Nat) (v9 : Int32) (v10 : Int32) (D : Dat), X9_right_l157 G post v0 v1 v2 v3 v4 v5 v6 n v9 v10 D → J κ 0 0 G D 157 [(0, .ref v0), (1, .int v1), (2, .int v2), (3, .int v3), (4, .int v4), (5, .int v5), (6, .int v6), (9, .int v9), (10, .int v10)] [] := by
  intro n
  induction n with
  | zero => intro v9 v10 D hw; exact hw.elim
  | succ n ih =>
    intro v9 v10 D hw
    have hw : X9_right_l157_b G post v0 v1 v2 v3 v4 v5 v6 (X9_right_l157 G post v0 v1 v2 v3 v4 v5 v6 n) v9 v10 D := hw
    unfold X9_right_l157_b at hw
    refine j_iload C dX9_right_157 8 rfl ?_
    refine j_iload C dX9_right_159 7 rfl ?_
    refine j_icmp_gt (tgt := 259) C dX9_right_161 (by decide) (fun hc => ?_) (fun hc => ?_)
    · have hw := hw.1 hc
      refine j_aload_n C dX9_right_259 rfl 0 rfl ?_
      refine j_iconst (v := 0) C dX9_right_260 (by decide) ?_
      refine pf_9_2 C ho_v0 k_766 dX9_right_261 ?_
      refine j_aload_n C dX9_right_264 rfl 0 rfl ?_
      refine j_bipush (v := 22) C dX9_right_265 (by decide) ?_
      refine j_iconst (v := 2) C dX9_right_267 (by decide) ?_
      refine j_iload C dX9_right_268 7 rfl ?_
      refine j_imul C dX9_right_270 ?_
      refine j_iadd C dX9_right_271 ?_
      refine j_cVI (As := [.int (22 + (2 * v9))]) (st := []) C (X9_held_ok κ.2.1 G (dI D v0 2 0) v0 (22 + (2 * v9)) _ hw) ho_v0 rfl k_1052 mv_X9_held ⟨by decide, by decide⟩ ⟨rfl, rfl⟩ rfl rfl (Nat.le_of_ble_eq_true rfl) ⟨Nat.zero_le _, Nat.zero_le _⟩ dX9_right_272 (fun r1 D2 hw => ?_)
      refine j_istore C dX9_right_275 (by decide) rfl ?_
      refine j_aload_n C dX9_right_277 rfl 1 rfl ?_
      refine j_bipush (v := 22) C dX9_right_278 (by decide) ?_
      refine j_iconst (v := 2) C dX9_right_280 (by decide) ?_
      refine j_iload C dX9_right_281 8 rfl ?_
      refine j_imul C dX9_right_283 ?_
      refine j_iadd C dX9_right_284 ?_
      refine j_iconst (v := 1) C dX9_right_285 (by decide) ?_
      refine j_iadd C dX9_right_286 ?_
      refine j_cVI (As := [.int ((22 + (2 * v9)) + 1)]) (st := []) C (X9_held_ok κ.2.1 G D2 v0 ((22 + (2 * v9)) + 1) _ hw) ho_v0 rfl k_1052 mv_X9_held ⟨by decide, by decide⟩ ⟨rfl, rfl⟩ rfl rfl (Nat.le_of_ble_eq_true rfl) ⟨Nat.zero_le _, Nat.zero_le _⟩ dX9_right_287 (fun r3 D4 hw => ?_)
      refine j_istore C dX9_right_290 (by decide) rfl ?_
      refine j_iconst (v := 0) C dX9_right_292 (by decide) ?_
      refine j_istore C dX9_right_293 (by decide) rfl ?_
      obtain ⟨n, hw⟩ := hw
      exact J.sub (X9_right_l295_ok C K ho_v0 n v9 r1 r3 0 D4 hw) [3, 8, 10, 2, 1, 0] rfl
    · have hw := hw.2 hc
      refine j_iload C dX9_right_164 8 rfl ?_
      refine j_iload C dX9_right_166 7 rfl ?_
      refine j_icmp_ne (tgt := 176) C dX9_right_168 (by decide) (fun hc => ?_) (fun hc => ?_)
      · have hw := hw.1 hc
        refine j_iload C dX9_right_176 8 rfl ?_
        refine j_if_ne (tgt := 185) C dX9_right_178 (by decide) (fun hc => ?_) (fun hc => ?_)
        · have hw := hw.1 hc
          refine j_iload C dX9_right_185 8 rfl ?_
          refine j_iconst (v := 1) C dX9_right_187 (by decide) ?_
          refine j_icmp_ne (tgt := 195) C dX9_right_188 (by decide) (fun hc => ?_) (fun hc => ?_)
          · have hw := hw.1 hc
            refine j_iload_n C dX9_right_195 rfl 3 rfl ?_
            exact J.sub (X9_right_j196_ok C K ho_v0 ih v9 v10 v3 D hw) [0, 1, 2, 3, 4, 5, 6, 7, 8] rfl
          · have hw := hw.2 hc
            refine j_iload_n C dX9_right_191 rfl 2 rfl ?_
            refine j_goto (tgt := 196) C dX9_right_192 (by decide) ?_
            exact J.sub (X9_right_j196_ok C K ho_v0 ih v9 v10 v2 D hw) [0, 1, 2, 3, 4, 5, 6, 7, 8] rfl
        · have hw := hw.2 hc
          refine j_iload_n C dX9_right_181 rfl 1 rfl ?_
          refine j_goto (tgt := 196) C dX9_right_182 (by decide) ?_
          exact J.sub (X9_right_j196_ok C K ho_v0 ih v9 v10 v1 D hw) [0, 1, 2, 3, 4, 5, 6, 7, 8] rfl
      · have hw := hw.2 hc
        refine j_iload C dX9_right_171 4 rfl ?_
        refine j_goto (tgt := 196) C dX9_right_173 (by decide) ?_
        exact J.sub (X9_right_j196_ok C K ho_v0 ih v9 v10 v4 D hw) [0, 1, 2, 3, 4, 5, 6, 7, 8] rfl
def X9_right_j152 (G : Shp) (post : Int32 → Dat → Prop) (v0 : Nat) (v1 : Int32) (v2 : Int32) (v3 : Int32) (v4 : Int32) (v5 : Int32) (v6 : Int32) (s0 : Int32) (D : Dat) : Prop := ∃ n, X9_right_l157 G post v0 v1 v2 v3 v4 v5 v6 n s0 0 D
set_option maxRecDepth 100000 in
set_option maxHeartbeats 4000000 in
theorem X9_right_j152_ok {κ : Ctx} {G : Shp} {post : Int32 → Dat → Prop} {v0 : Nat} {v1 : Int32} {v2 : Int32} {v3 : Int32} {v4 : Int32} {v5 : Int32} {v6 : Int32} (C : Cx κ cX9_right RX9 (rmN 6) 15) (K : RtI κ cX9_right .int G post) (ho_v0 : isO G v0 9) (s0 : Int32) (D : Dat) (hw : X9_right_j152 G post v0 v1 v2 v3 v4 v5 v6 s0 D) : J κ 0 0 G D 152 [(0, .ref v0), (1, .int v1), (2, .int v2), (3, .int v3), (4, .int v4), (5, .int v5), (6, .int v6)] [.int s0] := by
  unfold X9_right_j152 at hw
  refine j_istore C dX9_right_152 (by decide) rfl ?_
  refine j_iconst (v := 0) C dX9_right_154 (by decide) ?_
  refine j_istore C dX9_right_155 (by decide) rfl ?_
  obtain ⟨n, hw⟩ := hw
  exact J.sub (X9_right_l157_ok C K ho_v0 n s0 0 D hw) [2, 3, 4, 5, 6, 7, 8, 1, 0] rfl
def X9_right_j129 (G : Shp) (post : Int32 → Dat → Prop) (v0 : Nat) (v1 : Int32) (v2 : Int32) (v3 : Int32) (v4 : Int32) (v5 : Int32) (v6 : Int32) (v7 : Int32) (s0 : Int32) (D : Dat) : Prop := ((¬ s0 = 0 → ((v7 = 0 → X9_right_j152 G post v0 v1 v2 v3 v4 v5 v6 2 D) ∧ (¬ (v7 = 0) → X9_right_j152 G post v0 v1 v2 v3 v4 v5 v6 3 D))) ∧ (s0 = 0 → X9_refuse_wp G D v0 1 (fun r1 D2 => post r1 D2)))
set_option maxRecDepth 100000 in
set_option maxHeartbeats 4000000 in
theorem X9_right_j129_ok {κ : Ctx} {G : Shp} {post : Int32 → Dat → Prop} {v0 : Nat} {v1 : Int32} {v2 : Int32} {v3 : Int32} {v4 : Int32} {v5 : Int32} {v6 : Int32} (C : Cx κ cX9_right RX9 (rmN 6) 15) (K : RtI κ cX9_right .int G post) (ho_v0 : isO G v0 9) (v7 : Int32) (s0 : Int32) (D : Dat) (hw : X9_right_j129 G post v0 v1 v2 v3 v4 v5 v6 v7 s0 D) : J κ 0 0 G D 129 [(0, .ref v0), (1, .int v1), (2, .int v2), (3, .int v3), (4, .int v4), (5, .int v5), (6, .int v6), (7, .int v7)] [.int s0] := by
  unfold X9_right_j129 at hw
  refine j_istore C dX9_right_129 (by decide) rfl ?_
  refine j_iload C dX9_right_131 0 rfl ?_
  refine j_if_ne (tgt := 142) C dX9_right_133 (by decide) (fun hc => ?_) (fun hc => ?_)
  · have hw := hw.1 hc
    refine j_iload C dX9_right_142 8 rfl ?_
    refine j_if_eq (tgt := 151) C dX9_right_144 (by decide) (fun hc => ?_) (fun hc => ?_)
    · have hw := hw.1 hc
      refine j_iconst (v := 2) C dX9_right_151 (by decide) ?_
      exact J.sub (X9_right_j152_ok C K ho_v0 2 D hw) [1, 2, 3, 4, 5, 6, 7] rfl
    · have hw := hw.2 hc
      refine j_iconst (v := 3) C dX9_right_147 (by decide) ?_
      refine j_goto (tgt := 152) C dX9_right_148 (by decide) ?_
      exact J.sub (X9_right_j152_ok C K ho_v0 3 D hw) [1, 2, 3, 4, 5, 6, 7] rfl
  · have hw := hw.2 hc
    refine j_aload_n C dX9_right_136 rfl 1 rfl ?_
    refine j_iconst (v := 1) C dX9_right_137 (by decide) ?_
    refine j_cVI (As := [.int 1]) (st := []) C (X9_refuse_ok κ.2.1 G D v0 1 _ hw) ho_v0 rfl k_897 mv_X9_refuse ⟨by decide, by decide⟩ ⟨rfl, rfl⟩ rfl rfl (Nat.le_of_ble_eq_true rfl) ⟨Nat.zero_le _, Nat.zero_le _⟩ dX9_right_138 (fun r1 D2 hw => ?_)
    exact K _ _ _ _ dX9_right_141 rfl hw
def X9_right_j128 (G : Shp) (post : Int32 → Dat → Prop) (v0 : Nat) (v1 : Int32) (v2 : Int32) (v3 : Int32) (v4 : Int32) (v5 : Int32) (v6 : Int32) (v7 : Int32) (D : Dat) : Prop := X9_right_j129 G post v0 v1 v2 v3 v4 v5 v6 v7 0 D
set_option maxRecDepth 100000 in
set_option maxHeartbeats 4000000 in
theorem X9_right_j128_ok {κ : Ctx} {G : Shp} {post : Int32 → Dat → Prop} {v0 : Nat} {v1 : Int32} {v2 : Int32} {v3 : Int32} {v4 : Int32} {v5 : Int32} {v6 : Int32} (C : Cx κ cX9_right RX9 (rmN 6) 15) (K : RtI κ cX9_right .int G post) (ho_v0 : isO G v0 9) (v7 : Int32) (D : Dat) (hw : X9_right_j128 G post v0 v1 v2 v3 v4 v5 v6 v7 D) : J κ 0 0 G D 128 [(0, .ref v0), (1, .int v1), (2, .int v2), (3, .int v3), (4, .int v4), (5, .int v5), (6, .int v6), (7, .int v7)] [] := by
  unfold X9_right_j128 at hw
  refine j_iconst (v := 0) C dX9_right_128 (by decide) ?_
  exact J.sub (X9_right_j129_ok C K ho_v0 v7 0 D hw) [0, 1, 2, 3, 4, 5, 6, 7] rfl
def X9_right_j124 (G : Shp) (post : Int32 → Dat → Prop) (v0 : Nat) (v1 : Int32) (v2 : Int32) (v3 : Int32) (v4 : Int32) (v5 : Int32) (v6 : Int32) (v7 : Int32) (D : Dat) : Prop := X9_right_j129 G post v0 v1 v2 v3 v4 v5 v6 v7 1 D
set_option maxRecDepth 100000 in
set_option maxHeartbeats 4000000 in
theorem X9_right_j124_ok {κ : Ctx} {G : Shp} {post : Int32 → Dat → Prop} {v0 : Nat} {v1 : Int32} {v2 : Int32} {v3 : Int32} {v4 : Int32} {v5 : Int32} {v6 : Int32} (C : Cx κ cX9_right RX9 (rmN 6) 15) (K : RtI κ cX9_right .int G post) (ho_v0 : isO G v0 9) (v7 : Int32) (D : Dat) (hw : X9_right_j124 G post v0 v1 v2 v3 v4 v5 v6 v7 D) : J κ 0 0 G D 124 [(0, .ref v0), (1, .int v1), (2, .int v2), (3, .int v3), (4, .int v4), (5, .int v5), (6, .int v6), (7, .int v7)] [] := by
  unfold X9_right_j124 at hw
  refine j_iconst (v := 1) C dX9_right_124 (by decide) ?_
  refine j_goto (tgt := 129) C dX9_right_125 (by decide) ?_
  exact J.sub (X9_right_j129_ok C K ho_v0 v7 1 D hw) [0, 1, 2, 3, 4, 5, 6, 7] rfl
def X9_right_j79 (G : Shp) (post : Int32 → Dat → Prop) (v0 : Nat) (v1 : Int32) (v2 : Int32) (v3 : Int32) (v4 : Int32) (v5 : Int32) (v6 : Int32) (v7 : Int32) (s0 : Int32) (D : Dat) : Prop := ((s0 = 0 → X9_right_j128 G post v0 v1 v2 v3 v4 v5 v6 v7 D) ∧ (¬ (s0 = 0) → ((v1 = v2 → X9_right_j128 G post v0 v1 v2 v3 v4 v5 v6 v7 D) ∧ (¬ (v1 = v2) → ((v1 = v4 → X9_right_j128 G post v0 v1 v2 v3 v4 v5 v6 v7 D) ∧ (¬ (v1 = v4) → ((v2 = v4 → X9_right_j128 G post v0 v1 v2 v3 v4 v5 v6 v7 D) ∧ (¬ (v2 = v4) → ((v7 = 0 → X9_right_j124 G post v0 v1 v2 v3 v4 v5 v6 v7 D) ∧ (¬ (v7 = 0) → ((v3 = v1 → X9_right_j128 G post v0 v1 v2 v3 v4 v5 v6 v7 D) ∧ (¬ (v3 = v1) → ((v3 = v2 → X9_right_j128 G post v0 v1 v2 v3 v4 v5 v6 v7 D) ∧ (¬ (v3 = v2) → ((v3 = v4 → X9_right_j128 G post v0 v1 v2 v3 v4 v5 v6 v7 D) ∧ (¬ (v3 = v4) → X9_right_j124 G post v0 v1 v2 v3 v4 v5 v6 v7 D))))))))))))))))
set_option maxRecDepth 100000 in
set_option maxHeartbeats 4000000 in
theorem X9_right_j79_ok {κ : Ctx} {G : Shp} {post : Int32 → Dat → Prop} {v0 : Nat} {v1 : Int32} {v2 : Int32} {v3 : Int32} {v4 : Int32} {v5 : Int32} {v6 : Int32} (C : Cx κ cX9_right RX9 (rmN 6) 15) (K : RtI κ cX9_right .int G post) (ho_v0 : isO G v0 9) (v7 : Int32) (s0 : Int32) (D : Dat) (hw : X9_right_j79 G post v0 v1 v2 v3 v4 v5 v6 v7 s0 D) : J κ 0 0 G D 79 [(0, .ref v0), (1, .int v1), (2, .int v2), (3, .int v3), (4, .int v4), (5, .int v5), (6, .int v6), (7, .int v7)] [.int s0] := by
  unfold X9_right_j79 at hw
  refine j_istore C dX9_right_79 (by decide) rfl ?_
  refine j_iload C dX9_right_81 0 rfl ?_
  refine j_if_eq (tgt := 128) C dX9_right_83 (by decide) (fun hc => ?_) (fun hc => ?_)
  · have hw := hw.1 hc
    exact J.sub (X9_right_j128_ok C K ho_v0 v7 D hw) [1, 2, 3, 4, 5, 6, 7, 8] rfl
  · have hw := hw.2 hc
    refine j_iload_n C dX9_right_86 rfl 2 rfl ?_
    refine j_iload_n C dX9_right_87 rfl 3 rfl ?_
    refine j_icmp_eq (tgt := 128) C dX9_right_88 (by decide) (fun hc => ?_) (fun hc => ?_)
    · have hw := hw.1 hc
      exact J.sub (X9_right_j128_ok C K ho_v0 v7 D hw) [1, 2, 3, 4, 5, 6, 7, 8] rfl
    · have hw := hw.2 hc
      refine j_iload_n C dX9_right_91 rfl 2 rfl ?_
      refine j_iload C dX9_right_92 5 rfl ?_
      refine j_icmp_eq (tgt := 128) C dX9_right_94 (by decide) (fun hc => ?_) (fun hc => ?_)
      · have hw := hw.1 hc
        exact J.sub (X9_right_j128_ok C K ho_v0 v7 D hw) [1, 2, 3, 4, 5, 6, 7, 8] rfl
      · have hw := hw.2 hc
        refine j_iload_n C dX9_right_97 rfl 3 rfl ?_
        refine j_iload C dX9_right_98 5 rfl ?_
        refine j_icmp_eq (tgt := 128) C dX9_right_100 (by decide) (fun hc => ?_) (fun hc => ?_)
        · have hw := hw.1 hc
          exact J.sub (X9_right_j128_ok C K ho_v0 v7 D hw) [1, 2, 3, 4, 5, 6, 7, 8] rfl
        · have hw := hw.2 hc
          refine j_iload C dX9_right_103 8 rfl ?_
          refine j_if_eq (tgt := 124) C dX9_right_105 (by decide) (fun hc => ?_) (fun hc => ?_)
          · have hw := hw.1 hc
            exact J.sub (X9_right_j124_ok C K ho_v0 v7 D hw) [1, 2, 3, 4, 5, 6, 7, 8] rfl
          · have hw := hw.2 hc
            refine j_iload_n C dX9_right_108 rfl 4 rfl ?_
            refine j_iload_n C dX9_right_109 rfl 2 rfl ?_
            refine j_icmp_eq (tgt := 128) C dX9_right_110 (by decide) (fun hc => ?_) (fun hc => ?_)
            · have hw := hw.1 hc
              exact J.sub (X9_right_j128_ok C K ho_v0 v7 D hw) [1, 2, 3, 4, 5, 6, 7, 8] rfl
            · have hw := hw.2 hc
              refine j_iload_n C dX9_right_113 rfl 4 rfl ?_
              refine j_iload_n C dX9_right_114 rfl 3 rfl ?_
              refine j_icmp_eq (tgt := 128) C dX9_right_115 (by decide) (fun hc => ?_) (fun hc => ?_)
              · have hw := hw.1 hc
                exact J.sub (X9_right_j128_ok C K ho_v0 v7 D hw) [1, 2, 3, 4, 5, 6, 7, 8] rfl
              · have hw := hw.2 hc
                refine j_iload_n C dX9_right_118 rfl 4 rfl ?_
                refine j_iload C dX9_right_119 5 rfl ?_
                refine j_icmp_eq (tgt := 128) C dX9_right_121 (by decide) (fun hc => ?_) (fun hc => ?_)
                · have hw := hw.1 hc
                  exact J.sub (X9_right_j128_ok C K ho_v0 v7 D hw) [1, 2, 3, 4, 5, 6, 7, 8] rfl
                · have hw := hw.2 hc
                  exact J.sub (X9_right_j124_ok C K ho_v0 v7 D hw) [1, 2, 3, 4, 5, 6, 7, 8] rfl
def X9_right_j78 (G : Shp) (post : Int32 → Dat → Prop) (v0 : Nat) (v1 : Int32) (v2 : Int32) (v3 : Int32) (v4 : Int32) (v5 : Int32) (v6 : Int32) (v7 : Int32) (D : Dat) : Prop := X9_right_j79 G post v0 v1 v2 v3 v4 v5 v6 v7 0 D
set_option maxRecDepth 100000 in
set_option maxHeartbeats 4000000 in
theorem X9_right_j78_ok {κ : Ctx} {G : Shp} {post : Int32 → Dat → Prop} {v0 : Nat} {v1 : Int32} {v2 : Int32} {v3 : Int32} {v4 : Int32} {v5 : Int32} {v6 : Int32} (C : Cx κ cX9_right RX9 (rmN 6) 15) (K : RtI κ cX9_right .int G post) (ho_v0 : isO G v0 9) (v7 : Int32) (D : Dat) (hw : X9_right_j78 G post v0 v1 v2 v3 v4 v5 v6 v7 D) : J κ 0 0 G D 78 [(0, .ref v0), (1, .int v1), (2, .int v2), (3, .int v3), (4, .int v4), (5, .int v5), (6, .int v6), (7, .int v7)] [] := by
  unfold X9_right_j78 at hw
  refine j_iconst (v := 0) C dX9_right_78 (by decide) ?_
  exact J.sub (X9_right_j79_ok C K ho_v0 v7 0 D hw) [0, 1, 2, 3, 4, 5, 6, 7] rfl
def X9_right_j71 (G : Shp) (post : Int32 → Dat → Prop) (v0 : Nat) (v1 : Int32) (v2 : Int32) (v3 : Int32) (v4 : Int32) (v5 : Int32) (v6 : Int32) (v7 : Int32) (s0 : Int32) (s1 : Int32) (D : Dat) : Prop := ((s0 ≤ s1 → X9_right_j78 G post v0 v1 v2 v3 v4 v5 v6 v7 D) ∧ (¬ (s0 ≤ s1) → X9_right_j79 G post v0 v1 v2 v3 v4 v5 v6 v7 1 D))
set_option maxRecDepth 100000 in
set_option maxHeartbeats 4000000 in
theorem X9_right_j71_ok {κ : Ctx} {G : Shp} {post : Int32 → Dat → Prop} {v0 : Nat} {v1 : Int32} {v2 : Int32} {v3 : Int32} {v4 : Int32} {v5 : Int32} {v6 : Int32} (C : Cx κ cX9_right RX9 (rmN 6) 15) (K : RtI κ cX9_right .int G post) (ho_v0 : isO G v0 9) (v7 : Int32) (s0 : Int32) (s1 : Int32) (D : Dat) (hw : X9_right_j71 G post v0 v1 v2 v3 v4 v5 v6 v7 s0 s1 D) : J κ 0 0 G D 71 [(0, .ref v0), (1, .int v1), (2, .int v2), (3, .int v3), (4, .int v4), (5, .int v5), (6, .int v6), (7, .int v7)] [.int s0, .int s1] := by
  unfold X9_right_j71 at hw
  refine j_icmp_ge (tgt := 78) C dX9_right_71 (by decide) (fun hc => ?_) (fun hc => ?_)
  · have hw := hw.1 hc
    exact J.sub (X9_right_j78_ok C K ho_v0 v7 D hw) [0, 1, 2, 3, 4, 5, 6, 7] rfl
  · have hw := hw.2 hc
    refine j_iconst (v := 1) C dX9_right_74 (by decide) ?_
    refine j_goto (tgt := 79) C dX9_right_75 (by decide) ?_
    exact J.sub (X9_right_j79_ok C K ho_v0 v7 1 D hw) [0, 1, 2, 3, 4, 5, 6, 7] rfl
def X9_right_j38 (G : Shp) (post : Int32 → Dat → Prop) (v0 : Nat) (v1 : Int32) (v2 : Int32) (v3 : Int32) (v4 : Int32) (v5 : Int32) (v6 : Int32) (v7 : Int32) (D : Dat) : Prop := X9_isRow_wp G D v4 (fun r1 D2 => ((r1 = 0 → X9_right_j78 G post v0 v1 v2 v3 v4 v5 v6 v7 D2) ∧ (¬ (r1 = 0) → X9_isFar_wp G D2 v6 (fun r3 D4 => ((r3 = 0 → X9_right_j78 G post v0 v1 v2 v3 v4 v5 v6 v7 D4) ∧ (¬ (r3 = 0) → ((v5 < 0 → X9_right_j78 G post v0 v1 v2 v3 v4 v5 v6 v7 D4) ∧ (¬ (v5 < 0) → ((v7 = 0 → X9_right_j71 G post v0 v1 v2 v3 v4 v5 v6 v7 2 v5 D4) ∧ (¬ (v7 = 0) → X9_right_j71 G post v0 v1 v2 v3 v4 v5 v6 v7 3 v5 D4))))))))))
set_option maxRecDepth 100000 in
set_option maxHeartbeats 4000000 in
theorem X9_right_j38_ok {κ : Ctx} {G : Shp} {post : Int32 → Dat → Prop} {v0 : Nat} {v1 : Int32} {v2 : Int32} {v3 : Int32} {v4 : Int32} {v5 : Int32} {v6 : Int32} (C : Cx κ cX9_right RX9 (rmN 6) 15) (K : RtI κ cX9_right .int G post) (ho_v0 : isO G v0 9) (v7 : Int32) (D : Dat) (hw : X9_right_j38 G post v0 v1 v2 v3 v4 v5 v6 v7 D) : J κ 0 0 G D 38 [(0, .ref v0), (1, .int v1), (2, .int v2), (3, .int v3), (4, .int v4), (5, .int v5), (6, .int v6), (7, .int v7)] [] := by
  unfold X9_right_j38 at hw
  refine j_iload C dX9_right_38 4 rfl ?_
  refine j_cSI (As := [.int v4]) (st := []) C (X9_isRow_ok κ.2.1 G D v4 _ hw) k_867 ms_X9_isRow ⟨by decide, by decide⟩ ⟨rfl, rfl⟩ rfl rfl (Nat.le_of_ble_eq_true rfl) ⟨Nat.zero_le _, Nat.zero_le _⟩ dX9_right_40 (fun r1 D2 hw => ?_)
  refine j_if_eq (tgt := 78) C dX9_right_43 (by decide) (fun hc => ?_) (fun hc => ?_)
  · have hw := hw.1 hc
    exact J.sub (X9_right_j78_ok C K ho_v0 v7 D2 hw) [0, 1, 2, 3, 4, 5, 6, 7] rfl
  · have hw := hw.2 hc
    refine j_iload C dX9_right_46 6 rfl ?_
    refine j_cSI (As := [.int v6]) (st := []) C (X9_isFar_ok κ.2.1 G D2 v6 _ hw) k_1097 ms_X9_isFar ⟨by decide, by decide⟩ ⟨rfl, rfl⟩ rfl rfl (Nat.le_of_ble_eq_true rfl) ⟨Nat.zero_le _, Nat.zero_le _⟩ dX9_right_48 (fun r3 D4 hw => ?_)
    refine j_if_eq (tgt := 78) C dX9_right_51 (by decide) (fun hc => ?_) (fun hc => ?_)
    · have hw := hw.1 hc
      exact J.sub (X9_right_j78_ok C K ho_v0 v7 D4 hw) [0, 1, 2, 3, 4, 5, 6, 7] rfl
    · have hw := hw.2 hc
      refine j_iload C dX9_right_54 5 rfl ?_
      refine j_if_lt (tgt := 78) C dX9_right_56 (by decide) (fun hc => ?_) (fun hc => ?_)
      · have hw := hw.1 hc
        exact J.sub (X9_right_j78_ok C K ho_v0 v7 D4 hw) [0, 1, 2, 3, 4, 5, 6, 7] rfl
      · have hw := hw.2 hc
        refine j_iload C dX9_right_59 5 rfl ?_
        refine j_iload C dX9_right_61 7 rfl ?_
        refine j_if_eq (tgt := 70) C dX9_right_63 (by decide) (fun hc => ?_) (fun hc => ?_)
        · have hw := hw.1 hc
          refine j_iconst (v := 2) C dX9_right_70 (by decide) ?_
          exact J.sub (X9_right_j71_ok C K ho_v0 v7 2 v5 D4 hw) [0, 1, 2, 3, 4, 5, 6, 7] rfl
        · have hw := hw.2 hc
          refine j_iconst (v := 3) C dX9_right_66 (by decide) ?_
          refine j_goto (tgt := 71) C dX9_right_67 (by decide) ?_
          exact J.sub (X9_right_j71_ok C K ho_v0 v7 3 v5 D4 hw) [0, 1, 2, 3, 4, 5, 6, 7] rfl
def X9_right_j10 (G : Shp) (post : Int32 → Dat → Prop) (v0 : Nat) (v1 : Int32) (v2 : Int32) (v3 : Int32) (v4 : Int32) (v5 : Int32) (v6 : Int32) (s0 : Int32) (D : Dat) : Prop := X9_isRow_wp G D v1 (fun r1 D2 => ((r1 = 0 → X9_right_j78 G post v0 v1 v2 v3 v4 v5 v6 s0 D2) ∧ (¬ (r1 = 0) → X9_isRow_wp G D2 v2 (fun r3 D4 => ((r3 = 0 → X9_right_j78 G post v0 v1 v2 v3 v4 v5 v6 s0 D4) ∧ (¬ (r3 = 0) → ((s0 = 0 → X9_right_j38 G post v0 v1 v2 v3 v4 v5 v6 s0 D4) ∧ (¬ (s0 = 0) → X9_isRow_wp G D4 v3 (fun r5 D6 => ((r5 = 0 → X9_right_j78 G post v0 v1 v2 v3 v4 v5 v6 s0 D6) ∧ (¬ (r5 = 0) → X9_right_j38 G post v0 v1 v2 v3 v4 v5 v6 s0 D6)))))))))))
set_option maxRecDepth 100000 in
set_option maxHeartbeats 4000000 in
theorem X9_right_j10_ok {κ : Ctx} {G : Shp} {post : Int32 → Dat → Prop} {v0 : Nat} {v1 : Int32} {v2 : Int32} {v3 : Int32} {v4 : Int32} {v5 : Int32} {v6 : Int32} (C : Cx κ cX9_right RX9 (rmN 6) 15) (K : RtI κ cX9_right .int G post) (ho_v0 : isO G v0 9) (s0 : Int32) (D : Dat) (hw : X9_right_j10 G post v0 v1 v2 v3 v4 v5 v6 s0 D) : J κ 0 0 G D 10 [(0, .ref v0), (1, .int v1), (2, .int v2), (3, .int v3), (4, .int v4), (5, .int v5), (6, .int v6)] [.int s0] := by
  unfold X9_right_j10 at hw
  refine j_istore C dX9_right_10 (by decide) rfl ?_
  refine j_iload_n C dX9_right_12 rfl 2 rfl ?_
  refine j_cSI (As := [.int v1]) (st := []) C (X9_isRow_ok κ.2.1 G D v1 _ hw) k_867 ms_X9_isRow ⟨by decide, by decide⟩ ⟨rfl, rfl⟩ rfl rfl (Nat.le_of_ble_eq_true rfl) ⟨Nat.zero_le _, Nat.zero_le _⟩ dX9_right_13 (fun r1 D2 hw => ?_)
  refine j_if_eq (tgt := 78) C dX9_right_16 (by decide) (fun hc => ?_) (fun hc => ?_)
  · have hw := hw.1 hc
    exact J.sub (X9_right_j78_ok C K ho_v0 s0 D2 hw) [1, 2, 3, 4, 5, 6, 7, 0] rfl
  · have hw := hw.2 hc
    refine j_iload_n C dX9_right_19 rfl 3 rfl ?_
    refine j_cSI (As := [.int v2]) (st := []) C (X9_isRow_ok κ.2.1 G D2 v2 _ hw) k_867 ms_X9_isRow ⟨by decide, by decide⟩ ⟨rfl, rfl⟩ rfl rfl (Nat.le_of_ble_eq_true rfl) ⟨Nat.zero_le _, Nat.zero_le _⟩ dX9_right_20 (fun r3 D4 hw => ?_)
    refine j_if_eq (tgt := 78) C dX9_right_23 (by decide) (fun hc => ?_) (fun hc => ?_)
    · have hw := hw.1 hc
      exact J.sub (X9_right_j78_ok C K ho_v0 s0 D4 hw) [1, 2, 3, 4, 5, 6, 7, 0] rfl
    · have hw := hw.2 hc
      refine j_iload C dX9_right_26 0 rfl ?_
      refine j_if_eq (tgt := 38) C dX9_right_28 (by decide) (fun hc => ?_) (fun hc => ?_)
      · have hw := hw.1 hc
        exact J.sub (X9_right_j38_ok C K ho_v0 s0 D4 hw) [1, 2, 3, 4, 5, 6, 7, 0] rfl
      · have hw := hw.2 hc
        refine j_iload_n C dX9_right_31 rfl 4 rfl ?_
        refine j_cSI (As := [.int v3]) (st := []) C (X9_isRow_ok κ.2.1 G D4 v3 _ hw) k_867 ms_X9_isRow ⟨by decide, by decide⟩ ⟨rfl, rfl⟩ rfl rfl (Nat.le_of_ble_eq_true rfl) ⟨Nat.zero_le _, Nat.zero_le _⟩ dX9_right_32 (fun r5 D6 hw => ?_)
        refine j_if_eq (tgt := 78) C dX9_right_35 (by decide) (fun hc => ?_) (fun hc => ?_)
        · have hw := hw.1 hc
          exact J.sub (X9_right_j78_ok C K ho_v0 s0 D6 hw) [1, 2, 3, 4, 5, 6, 7, 0] rfl
        · have hw := hw.2 hc
          exact J.sub (X9_right_j38_ok C K ho_v0 s0 D6 hw) [1, 2, 3, 4, 5, 6, 7, 0] rfl
def X9_right_wp (G : Shp) (D : Dat) (v0 : Nat) (v1 : Int32) (v2 : Int32) (v3 : Int32) (v4 : Int32) (v5 : Int32) (v6 : Int32) (post : Int32 → Dat → Prop) : Prop := isO G v0 9 ∧ ((v3 = (-1) → X9_right_j10 G post v0 v1 v2 v3 v4 v5 v6 0 D) ∧ (¬ (v3 = (-1)) → X9_right_j10 G post v0 v1 v2 v3 v4 v5 v6 1 D))
set_option maxRecDepth 100000 in
set_option maxHeartbeats 4000000 in
theorem X9_right_ok (l : Launch) (G : Shp) (D : Dat) (v0 : Nat) (v1 : Int32) (v2 : Int32) (v3 : Int32) (v4 : Int32) (v5 : Int32) (v6 : Int32) (post : Int32 → Dat → Prop) (hw : X9_right_wp G D v0 v1 v2 v3 v4 v5 v6 post) : CtI l yX9_right cX9_right 15 .int (rmN 6) [.ref v0, .int v1, .int v2, .int v3, .int v4, .int v5, .int v6] G D post := by
  obtain ⟨ho_v0, hw⟩ := hw
  refine ctI_of (by decide) rfl (Nat.le_of_ble_eq_true rfl) ?_
  intro κ hκ C K
  subst hκ
  have C : Cx κ cX9_right RX9 (rmN 6) 15 := C
  refine j_iload_n C dX9_right_0 rfl 3 rfl ?_
  refine j_iconst (v := (-1)) C dX9_right_1 (by decide) ?_
  refine j_icmp_eq (tgt := 9) C dX9_right_2 (by decide) (fun hc => ?_) (fun hc => ?_)
  · have hw := hw.1 hc
    refine j_iconst (v := 0) C dX9_right_9 (by decide) ?_
    exact J.sub (X9_right_j10_ok C K ho_v0 0 D hw) [0, 1, 2, 3, 4, 5, 6] rfl
  · have hw := hw.2 hc
    refine j_iconst (v := 1) C dX9_right_5 (by decide) ?_
    refine j_goto (tgt := 10) C dX9_right_6 (by decide) ?_
    exact J.sub (X9_right_j10_ok C K ho_v0 1 D hw) [0, 1, 2, 3, 4, 5, 6] rfl
/-! X9_round -/
def X9_round_j142 (G : Shp) (post : Int32 → Dat → Prop) (v0 : Nat) (v1 : Int32) (v2 : Int32) (v3 : Int32) (g1 : Nat) (g2 : Nat) (g3 : Nat) (k113 : Int32 → Int32 → Dat → Prop) (v5 : Int32) (v6 : Int32) (D : Dat) : Prop := k113 v5 (v6 + 1) D
set_option maxRecDepth 100000 in
set_option maxHeartbeats 4000000 in
theorem X9_round_j142_ok {κ : Ctx} {G : Shp} {post : Int32 → Dat → Prop} {v0 : Nat} {v1 : Int32} {v2 : Int32} {v3 : Int32} {g1 : Nat} {g2 : Nat} {g3 : Nat} (C : Cx κ cX9_round RX9 (rmN 6) 7) (K : RtI κ cX9_round .boolean G post) (ho_v0 : isO G v0 9) (hr_g1 : G.2.2.2 v0 28 = some g1) (ho_g1 : isO G g1 13) (hr_g2 : G.2.2.2 v0 29 = some g2) (ho_g2 : isO G g2 11) (hr_g3 : G.2.2.2 v0 16 = some g3) (ho_g3 : isO G g3 13) {k113 : Int32 → Int32 → Dat → Prop} (hk113 : ∀ (v5 : Int32) (v6 : Int32) (D : Dat), k113 v5 v6 D → J κ 0 0 G D 113 [(0, .ref v0), (1, .int v1), (5, .int v5), (6, .int v6)] []) (v5 : Int32) (v6 : Int32) (D : Dat) (hw : X9_round_j142 G post v0 v1 v2 v3 g1 g2 g3 k113 v5 v6 D) : J κ 0 0 G D 142 [(0, .ref v0), (1, .int v1), (5, .int v5), (6, .int v6)] [] := by
  unfold X9_round_j142 at hw
  refine j_iinc (v := v6 + 1) C dX9_round_142 3 rfl rfl (by decide) rfl ?_
  refine j_goto (tgt := 113) C dX9_round_145 (by decide) ?_
  exact J.sub (hk113 v5 (v6 + 1) D hw) [1, 2, 3, 0] rfl
def X9_round_l113_b (G : Shp) (post : Int32 → Dat → Prop) (v0 : Nat) (v1 : Int32) (v2 : Int32) (v3 : Int32) (g1 : Nat) (g2 : Nat) (g3 : Nat) (rec : Int32 → Int32 → Dat → Prop) (v5 : Int32) (v6 : Int32) (D : Dat) : Prop := ((40 ≤ v6 → (isB v5 ∧ post v5 D)) ∧ (¬ (40 ≤ v6) → (vp_in v6 (G.2.2.1 g1) ∧ (((D.1 g1 v6.toNatClampNeg) = 0 → X9_round_j142 G post v0 v1 v2 v3 g1 g2 g3 rec v5 v6 D) ∧ (¬ ((D.1 g1 v6.toNatClampNeg) = 0) → X9_spot_wp G D v1 v6 (fun r3 D4 => (vp_in r3 (G.2.2.1 g3) ∧ X9_round_j142 G post v0 v1 v2 v3 g1 g2 g3 rec v5 v6 (dI D4 g3 r3.toNatClampNeg (vp_nar .boolean 1)))))))))
def X9_round_l113 (G : Shp) (post : Int32 → Dat → Prop) (v0 : Nat) (v1 : Int32) (v2 : Int32) (v3 : Int32) (g1 : Nat) (g2 : Nat) (g3 : Nat) : Nat → Int32 → Int32 → Dat → Prop
  | 0 => fun _ _ _ => False
  | n + 1 => X9_round_l113_b G post v0 v1 v2 v3 g1 g2 g3 (X9_round_l113 G post v0 v1 v2 v3 g1 g2 g3 n)
set_option maxRecDepth 100000 in
set_option maxHeartbeats 4000000 in
theorem X9_round_l113_ok {κ : Ctx} {G : Shp} {post : Int32 → Dat → Prop} {v0 : Nat} {v1 : Int32} {v2 : Int32} {v3 : Int32} {g1 : Nat} {g2 : Nat} {g3 : Nat} (C : Cx κ cX9_round RX9 (rmN 6) 7) (K : RtI κ cX9_round .boolean G post) (ho_v0 : isO G v0 9) (hr_g1 : G.2.2.2 v0 28 = some g1) (ho_g1 : isO G g1 13) (hr_g2 : G.2.2.2 v0 29 = some g2) (ho_g2 : isO G g2 11) (hr_g3 : G.2.2.2 v0 16 = some g3) (ho_g3 : isO G g3 13) : ∀ (n : Nat) (v5 : Int32) (v6 : Int32) (D : Dat), X9_round_l113 G post v0 v1 v2 v3 g1 g2 g3 n v5 v6 D → J κ 0 0 G D 113 [(0, .ref v0), (1, .int v1), (5, .int v5), (6, .int v6)] [] := by
  intro n
  induction n with
  | zero => intro v5 v6 D hw; exact hw.elim
  | succ n ih =>
    intro v5 v6 D hw
    have hw : X9_round_l113_b G post v0 v1 v2 v3 g1 g2 g3 (X9_round_l113 G post v0 v1 v2 v3 g1 g2 g3 n) v5 v6 D := hw
    unfold X9_round_l113_b at hw
    refine j_iload C dX9_round_113 3 rfl ?_
    refine j_bipush (v := 40) C dX9_round_115 (by decide) ?_
    refine j_icmp_ge (tgt := 148) C dX9_round_117 (by decide) (fun hc => ?_) (fun hc => ?_)
    · have hw := hw.1 hc
      refine j_iload C dX9_round_148 2 rfl ?_
      obtain ⟨hb1, hw⟩ := hw
      exact K _ _ _ _ dX9_round_150 (isB_n hb1) hw
    · have hw := hw.2 hc
      refine j_aload_n C dX9_round_120 rfl 0 rfl ?_
      refine gf_9_28 C ho_v0 hr_g1 k_792 dX9_round_121 ?_
      refine j_iload C dX9_round_124 3 rfl ?_
      obtain ⟨hi2, hw⟩ := hw
      refine j_zald C ho_g1 hi2 dX9_round_126 ?_
      refine j_if_eq (tgt := 142) C dX9_round_127 (by decide) (fun hc => ?_) (fun hc => ?_)
      · have hw := hw.1 hc
        exact J.sub (X9_round_j142_ok C K ho_v0 hr_g1 ho_g1 hr_g2 ho_g2 hr_g3 ho_g3 ih v5 v6 D hw) [0, 1, 2, 3] rfl
      · have hw := hw.2 hc
        refine j_aload_n C dX9_round_130 rfl 0 rfl ?_
        refine gf_9_16 C ho_v0 hr_g3 k_780 dX9_round_131 ?_
        refine j_iload_n C dX9_round_134 rfl 1 rfl ?_
        refine j_iload C dX9_round_135 3 rfl ?_
        refine j_cSI (As := [.int v1, .int v6]) (st := [.ref g3]) C (X9_spot_ok κ.2.1 G D v1 v6 _ hw) k_882 ms_X9_spot ⟨by decide, by decide⟩ ⟨rfl, rfl⟩ rfl rfl (Nat.le_of_ble_eq_true rfl) ⟨Nat.zero_le _, Nat.zero_le _⟩ dX9_round_137 (fun r3 D4 hw => ?_)
        refine j_iconst (v := 1) C dX9_round_140 (by decide) ?_
        obtain ⟨hi5, hw⟩ := hw
        refine j_zast C ho_g3 hi5 dX9_round_141 ?_
        exact J.sub (X9_round_j142_ok C K ho_v0 hr_g1 ho_g1 hr_g2 ho_g2 hr_g3 ho_g3 ih v5 v6 (dI D4 g3 r3.toNatClampNeg (vp_nar .boolean 1)) hw) [0, 1, 2, 3] rfl
def X9_round_j102 (G : Shp) (post : Int32 → Dat → Prop) (v0 : Nat) (v1 : Int32) (v2 : Int32) (v3 : Int32) (g1 : Nat) (g2 : Nat) (g3 : Nat) (k23 : Int32 → Int32 → Int32 → Dat → Prop) (v4 : Int32) (v6 : Int32) (s0 : Int32) (D : Dat) : Prop := k23 v4 s0 (v6 + 1) D
set_option maxRecDepth 100000 in
set_option maxHeartbeats 4000000 in
theorem X9_round_j102_ok {κ : Ctx} {G : Shp} {post : Int32 → Dat → Prop} {v0 : Nat} {v1 : Int32} {v2 : Int32} {v3 : Int32} {g1 : Nat} {g2 : Nat} {g3 : Nat} (C : Cx κ cX9_round RX9 (rmN 6) 7) (K : RtI κ cX9_round .boolean G post) (ho_v0 : isO G v0 9) (hr_g1 : G.2.2.2 v0 28 = some g1) (ho_g1 : isO G g1 13) (hr_g2 : G.2.2.2 v0 29 = some g2) (ho_g2 : isO G g2 11) (hr_g3 : G.2.2.2 v0 16 = some g3) (ho_g3 : isO G g3 13) {k23 : Int32 → Int32 → Int32 → Dat → Prop} (hk23 : ∀ (v4 : Int32) (v5 : Int32) (v6 : Int32) (D : Dat), k23 v4 v5 v6 D → J κ 0 0 G D 23 [(0, .ref v0), (1, .int v1), (3, .int v3), (4, .int v4), (5, .int v5), (6, .int v6)] []) (v4 : Int32) (v6 : Int32) (s0 : Int32) (D : Dat) (hw : X9_round_j102 G post v0 v1 v2 v3 g1 g2 g3 k23 v4 v6 s0 D) : J κ 0 0 G D 102 [(0, .ref v0), (1, .int v1), (3, .int v3), (4, .int v4), (6, .int v6)] [.int s0] := by
  unfold X9_round_j102 at hw
  refine j_istore C dX9_round_102 (by decide) rfl ?_
  refine j_iinc (v := v6 + 1) C dX9_round_104 5 rfl rfl (by decide) rfl ?_
  refine j_goto (tgt := 23) C dX9_round_107 (by decide) ?_
  exact J.sub (hk23 v4 s0 (v6 + 1) D hw) [2, 3, 4, 5, 1, 0] rfl
def X9_round_j97 (G : Shp) (post : Int32 → Dat → Prop) (v0 : Nat) (v1 : Int32) (v2 : Int32) (v3 : Int32) (g1 : Nat) (g2 : Nat) (g3 : Nat) (k23 : Int32 → Int32 → Int32 → Dat → Prop) (v4 : Int32) (v6 : Int32) (D : Dat) : Prop := X9_round_j102 G post v0 v1 v2 v3 g1 g2 g3 k23 v4 v6 1 D
set_option maxRecDepth 100000 in
set_option maxHeartbeats 4000000 in
theorem X9_round_j97_ok {κ : Ctx} {G : Shp} {post : Int32 → Dat → Prop} {v0 : Nat} {v1 : Int32} {v2 : Int32} {v3 : Int32} {g1 : Nat} {g2 : Nat} {g3 : Nat} (C : Cx κ cX9_round RX9 (rmN 6) 7) (K : RtI κ cX9_round .boolean G post) (ho_v0 : isO G v0 9) (hr_g1 : G.2.2.2 v0 28 = some g1) (ho_g1 : isO G g1 13) (hr_g2 : G.2.2.2 v0 29 = some g2) (ho_g2 : isO G g2 11) (hr_g3 : G.2.2.2 v0 16 = some g3) (ho_g3 : isO G g3 13) {k23 : Int32 → Int32 → Int32 → Dat → Prop} (hk23 : ∀ (v4 : Int32) (v5 : Int32) (v6 : Int32) (D : Dat), k23 v4 v5 v6 D → J κ 0 0 G D 23 [(0, .ref v0), (1, .int v1), (3, .int v3), (4, .int v4), (5, .int v5), (6, .int v6)] []) (v4 : Int32) (v6 : Int32) (D : Dat) (hw : X9_round_j97 G post v0 v1 v2 v3 g1 g2 g3 k23 v4 v6 D) : J κ 0 0 G D 97 [(0, .ref v0), (1, .int v1), (3, .int v3), (4, .int v4), (6, .int v6)] [] := by
  unfold X9_round_j97 at hw
  refine j_iconst (v := 1) C dX9_round_97 (by decide) ?_
  refine j_goto (tgt := 102) C dX9_round_98 (by decide) ?_
  exact J.sub (X9_round_j102_ok C K ho_v0 hr_g1 ho_g1 hr_g2 ho_g2 hr_g3 ho_g3 hk23 v4 v6 1 D hw) [0, 1, 2, 3, 4] rfl
def X9_round_j81 (G : Shp) (post : Int32 → Dat → Prop) (v0 : Nat) (v1 : Int32) (v2 : Int32) (v3 : Int32) (g1 : Nat) (g2 : Nat) (g3 : Nat) (k23 : Int32 → Int32 → Int32 → Dat → Prop) (v4 : Int32) (v5 : Int32) (v6 : Int32) (s0 : Int32) (s1 : Int32) (s2 : Nat) (D : Dat) : Prop := (isO G s2 13 ∧ vp_in s1 (G.2.2.1 s2) ∧ ((¬ v5 = 0 → X9_round_j97 G post v0 v1 v2 v3 g1 g2 g3 k23 v4 v6 (dI D s2 s1.toNatClampNeg (vp_nar .boolean s0))) ∧ (v5 = 0 → (vp_in v6 (G.2.2.1 g1) ∧ ((((dI D s2 s1.toNatClampNeg (vp_nar .boolean s0)).1 g1 v6.toNatClampNeg) = 0 → X9_round_j102 G post v0 v1 v2 v3 g1 g2 g3 k23 v4 v6 0 (dI D s2 s1.toNatClampNeg (vp_nar .boolean s0))) ∧ (¬ (((dI D s2 s1.toNatClampNeg (vp_nar .boolean s0)).1 g1 v6.toNatClampNeg) = 0) → X9_round_j97 G post v0 v1 v2 v3 g1 g2 g3 k23 v4 v6 (dI D s2 s1.toNatClampNeg (vp_nar .boolean s0))))))))
set_option maxRecDepth 100000 in
set_option maxHeartbeats 4000000 in
theorem X9_round_j81_ok {κ : Ctx} {G : Shp} {post : Int32 → Dat → Prop} {v0 : Nat} {v1 : Int32} {v2 : Int32} {v3 : Int32} {g1 : Nat} {g2 : Nat} {g3 : Nat} (C : Cx κ cX9_round RX9 (rmN 6) 7) (K : RtI κ cX9_round .boolean G post) (ho_v0 : isO G v0 9) (hr_g1 : G.2.2.2 v0 28 = some g1) (ho_g1 : isO G g1 13) (hr_g2 : G.2.2.2 v0 29 = some g2) (ho_g2 : isO G g2 11) (hr_g3 : G.2.2.2 v0 16 = some g3) (ho_g3 : isO G g3 13) {k23 : Int32 → Int32 → Int32 → Dat → Prop} (hk23 : ∀ (v4 : Int32) (v5 : Int32) (v6 : Int32) (D : Dat), k23 v4 v5 v6 D → J κ 0 0 G D 23 [(0, .ref v0), (1, .int v1), (3, .int v3), (4, .int v4), (5, .int v5), (6, .int v6)] []) (v4 : Int32) (v5 : Int32) (v6 : Int32) (s0 : Int32) (s1 : Int32) (s2 : Nat) (D : Dat) (hw : X9_round_j81 G post v0 v1 v2 v3 g1 g2 g3 k23 v4 v5 v6 s0 s1 s2 D) : J κ 0 0 G D 81 [(0, .ref v0), (1, .int v1), (3, .int v3), (4, .int v4), (5, .int v5), (6, .int v6)] [.int s0, .int s1, .ref s2] := by
  unfold X9_round_j81 at hw
  obtain ⟨ho1, hw⟩ := hw
  obtain ⟨hi2, hw⟩ := hw
  refine j_zast C ho1 hi2 dX9_round_81 ?_
  refine j_iload C dX9_round_82 4 rfl ?_
  refine j_if_ne (tgt := 97) C dX9_round_84 (by decide) (fun hc => ?_) (fun hc => ?_)
  · have hw := hw.1 hc
    exact J.sub (X9_round_j97_ok C K ho_v0 hr_g1 ho_g1 hr_g2 ho_g2 hr_g3 ho_g3 hk23 v4 v6 (dI D s2 s1.toNatClampNeg (vp_nar .boolean s0)) hw) [0, 1, 2, 3, 5] rfl
  · have hw := hw.2 hc
    refine j_aload_n C dX9_round_87 rfl 0 rfl ?_
    refine gf_9_28 C ho_v0 hr_g1 k_792 dX9_round_88 ?_
    refine j_iload C dX9_round_91 5 rfl ?_
    obtain ⟨hi3, hw⟩ := hw
    refine j_zald C ho_g1 hi3 dX9_round_93 ?_
    refine j_if_eq (tgt := 101) C dX9_round_94 (by decide) (fun hc => ?_) (fun hc => ?_)
    · have hw := hw.1 hc
      refine j_iconst (v := 0) C dX9_round_101 (by decide) ?_
      exact J.sub (X9_round_j102_ok C K ho_v0 hr_g1 ho_g1 hr_g2 ho_g2 hr_g3 ho_g3 hk23 v4 v6 0 (dI D s2 s1.toNatClampNeg (vp_nar .boolean s0)) hw) [0, 1, 2, 3, 5] rfl
    · have hw := hw.2 hc
      exact J.sub (X9_round_j97_ok C K ho_v0 hr_g1 ho_g1 hr_g2 ho_g2 hr_g3 ho_g3 hk23 v4 v6 (dI D s2 s1.toNatClampNeg (vp_nar .boolean s0)) hw) [0, 1, 2, 3, 5] rfl
def X9_round_j80 (G : Shp) (post : Int32 → Dat → Prop) (v0 : Nat) (v1 : Int32) (v2 : Int32) (v3 : Int32) (g1 : Nat) (g2 : Nat) (g3 : Nat) (k23 : Int32 → Int32 → Int32 → Dat → Prop) (v4 : Int32) (v5 : Int32) (v6 : Int32) (s0 : Int32) (s1 : Nat) (D : Dat) : Prop := X9_round_j81 G post v0 v1 v2 v3 g1 g2 g3 k23 v4 v5 v6 0 s0 s1 D
set_option maxRecDepth 100000 in
set_option maxHeartbeats 4000000 in
theorem X9_round_j80_ok {κ : Ctx} {G : Shp} {post : Int32 → Dat → Prop} {v0 : Nat} {v1 : Int32} {v2 : Int32} {v3 : Int32} {g1 : Nat} {g2 : Nat} {g3 : Nat} (C : Cx κ cX9_round RX9 (rmN 6) 7) (K : RtI κ cX9_round .boolean G post) (ho_v0 : isO G v0 9) (hr_g1 : G.2.2.2 v0 28 = some g1) (ho_g1 : isO G g1 13) (hr_g2 : G.2.2.2 v0 29 = some g2) (ho_g2 : isO G g2 11) (hr_g3 : G.2.2.2 v0 16 = some g3) (ho_g3 : isO G g3 13) {k23 : Int32 → Int32 → Int32 → Dat → Prop} (hk23 : ∀ (v4 : Int32) (v5 : Int32) (v6 : Int32) (D : Dat), k23 v4 v5 v6 D → J κ 0 0 G D 23 [(0, .ref v0), (1, .int v1), (3, .int v3), (4, .int v4), (5, .int v5), (6, .int v6)] []) (v4 : Int32) (v5 : Int32) (v6 : Int32) (s0 : Int32) (s1 : Nat) (D : Dat) (hw : X9_round_j80 G post v0 v1 v2 v3 g1 g2 g3 k23 v4 v5 v6 s0 s1 D) : J κ 0 0 G D 80 [(0, .ref v0), (1, .int v1), (3, .int v3), (4, .int v4), (5, .int v5), (6, .int v6)] [.int s0, .ref s1] := by
  unfold X9_round_j80 at hw
  refine j_iconst (v := 0) C dX9_round_80 (by decide) ?_
  exact J.sub (X9_round_j81_ok C K ho_v0 hr_g1 ho_g1 hr_g2 ho_g2 hr_g3 ho_g3 hk23 v4 v5 v6 0 s0 s1 D hw) [0, 1, 2, 3, 4, 5] rfl
def X9_round_l23_b (G : Shp) (post : Int32 → Dat → Prop) (v0 : Nat) (v1 : Int32) (v2 : Int32) (v3 : Int32) (g1 : Nat) (g2 : Nat) (g3 : Nat) (rec : Int32 → Int32 → Int32 → Dat → Prop) (v4 : Int32) (v5 : Int32) (v6 : Int32) (D : Dat) : Prop := ((40 ≤ v6 → ∃ n, X9_round_l113 G post v0 v1 v2 v3 g1 g2 g3 n v5 0 D) ∧ (¬ (40 ≤ v6) → X9_counts_wp G D v0 v1 v6 (fun r1 D2 => ((r1 = 0 → X9_round_j80 G post v0 v1 v2 v3 g1 g2 g3 rec v4 v5 v6 v6 g1 D2) ∧ (¬ (r1 = 0) → X9_whole_wp G D2 v0 v3.toInt64 (fun r3 D4 => (vp_in v6 (G.2.2.1 g2) ∧ X9_times_wp G D4 v0 r3 (D4.1 g2 v6.toNatClampNeg) (fun r6 D7 => X9_less_wp G D7 v0 r6 v4 (fun r8 D9 => X9_sign_wp G D9 v0 r8 (fun r10 D11 => ((r10 ≤ 0 → X9_round_j80 G post v0 v1 v2 v3 g1 g2 g3 rec v4 v5 v6 v6 g1 D11) ∧ (¬ (r10 ≤ 0) → X9_round_j81 G post v0 v1 v2 v3 g1 g2 g3 rec v4 v5 v6 1 v6 g1 D11))))))))))))
def X9_round_l23 (G : Shp) (post : Int32 → Dat → Prop) (v0 : Nat) (v1 : Int32) (v2 : Int32) (v3 : Int32) (g1 : Nat) (g2 : Nat) (g3 : Nat) : Nat → Int32 → Int32 → Int32 → Dat → Prop
  | 0 => fun _ _ _ _ => False
  | n + 1 => X9_round_l23_b G post v0 v1 v2 v3 g1 g2 g3 (X9_round_l23 G post v0 v1 v2 v3 g1 g2 g3 n)
set_option maxRecDepth 100000 in
set_option maxHeartbeats 4000000 in
theorem X9_round_l23_ok {κ : Ctx} {G : Shp} {post : Int32 → Dat → Prop} {v0 : Nat} {v1 : Int32} {v2 : Int32} {v3 : Int32} {g1 : Nat} {g2 : Nat} {g3 : Nat} (C : Cx κ cX9_round RX9 (rmN 6) 7) (K : RtI κ cX9_round .boolean G post) (ho_v0 : isO G v0 9) (hr_g1 : G.2.2.2 v0 28 = some g1) (ho_g1 : isO G g1 13) (hr_g2 : G.2.2.2 v0 29 = some g2) (ho_g2 : isO G g2 11) (hr_g3 : G.2.2.2 v0 16 = some g3) (ho_g3 : isO G g3 13) : ∀ (n : Nat) (v4 : Int32) (v5 : Int32) (v6 : Int32) (D : Dat), X9_round_l23 G post v0 v1 v2 v3 g1 g2 g3 n v4 v5 v6 D → J κ 0 0 G D 23 [(0, .ref v0), (1, .int v1), (3, .int v3), (4, .int v4), (5, .int v5), (6, .int v6)] [] := by
  intro n
  induction n with
  | zero => intro v4 v5 v6 D hw; exact hw.elim
  | succ n ih =>
    intro v4 v5 v6 D hw
    have hw : X9_round_l23_b G post v0 v1 v2 v3 g1 g2 g3 (X9_round_l23 G post v0 v1 v2 v3 g1 g2 g3 n) v4 v5 v6 D := hw
    unfold X9_round_l23_b at hw
    refine j_iload C dX9_round_23 5 rfl ?_
    refine j_bipush (v := 40) C dX9_round_25 (by decide) ?_
    refine j_icmp_ge (tgt := 110) C dX9_round_27 (by decide) (fun hc => ?_) (fun hc => ?_)
    · have hw := hw.1 hc
      refine j_iconst (v := 0) C dX9_round_110 (by decide) ?_
      refine j_istore C dX9_round_111 (by decide) rfl ?_
      obtain ⟨n, hw⟩ := hw
      exact J.sub (X9_round_l113_ok C K ho_v0 hr_g1 ho_g1 hr_g2 ho_g2 hr_g3 ho_g3 n v5 0 D hw) [1, 2, 5, 0] rfl
    · have hw := hw.2 hc
      refine j_aload_n C dX9_round_30 rfl 0 rfl ?_
      refine gf_9_28 C ho_v0 hr_g1 k_792 dX9_round_31 ?_
      refine j_iload C dX9_round_34 5 rfl ?_
      refine j_aload_n C dX9_round_36 rfl 0 rfl ?_
      refine j_iload_n C dX9_round_37 rfl 1 rfl ?_
      refine j_iload C dX9_round_38 5 rfl ?_
      refine j_cVI (As := [.int v1, .int v6]) (st := [.int v6, .ref g1]) C (X9_counts_ok κ.2.1 G D v0 v1 v6 _ hw) ho_v0 rfl k_905 mv_X9_counts ⟨by decide, by decide⟩ ⟨rfl, rfl⟩ rfl rfl (Nat.le_of_ble_eq_true rfl) ⟨Nat.zero_le _, Nat.zero_le _⟩ dX9_round_40 (fun r1 D2 hw => ?_)
      refine j_if_eq (tgt := 80) C dX9_round_43 (by decide) (fun hc => ?_) (fun hc => ?_)
      · have hw := hw.1 hc
        exact J.sub (X9_round_j80_ok C K ho_v0 hr_g1 ho_g1 hr_g2 ho_g2 hr_g3 ho_g3 ih v4 v5 v6 v6 g1 D2 hw) [0, 1, 2, 3, 4, 5] rfl
      · have hw := hw.2 hc
        refine j_aload_n C dX9_round_46 rfl 0 rfl ?_
        refine j_aload_n C dX9_round_47 rfl 0 rfl ?_
        refine j_aload_n C dX9_round_48 rfl 0 rfl ?_
        refine j_aload_n C dX9_round_49 rfl 0 rfl ?_
        refine j_iload_n C dX9_round_50 rfl 2 rfl ?_
        refine j_i2l C dX9_round_51 ?_
        refine j_cVI (As := [.long v3.toInt64]) (st := [.ref v0, .ref v0, .ref v0, .int v6, .ref g1]) C (X9_whole_ok κ.2.1 G D2 v0 v3.toInt64 _ hw) ho_v0 rfl k_977 mv_X9_whole ⟨by decide, by decide⟩ ⟨rfl, rfl⟩ rfl rfl (Nat.le_of_ble_eq_true rfl) ⟨Nat.zero_le _, Nat.zero_le _⟩ dX9_round_52 (fun r3 D4 hw => ?_)
        refine j_aload_n C dX9_round_55 rfl 0 rfl ?_
        refine gf_9_29 C ho_v0 hr_g2 k_793 dX9_round_56 ?_
        refine j_iload C dX9_round_59 5 rfl ?_
        obtain ⟨hi5, hw⟩ := hw
        refine j_iald C ho_g2 hi5 dX9_round_61 ?_
        refine j_cVI (As := [.int r3, .int (D4.1 g2 v6.toNatClampNeg)]) (st := [.ref v0, .ref v0, .int v6, .ref g1]) C (X9_times_ok κ.2.1 G D4 v0 r3 (D4.1 g2 v6.toNatClampNeg) _ hw) ho_v0 rfl k_994 mv_X9_times ⟨by decide, by decide⟩ ⟨rfl, rfl⟩ rfl rfl (Nat.le_of_ble_eq_true rfl) ⟨Nat.zero_le _, Nat.zero_le _⟩ dX9_round_62 (fun r6 D7 hw => ?_)
        refine j_iload C dX9_round_65 3 rfl ?_
        refine j_cVI (As := [.int r6, .int v4]) (st := [.ref v0, .int v6, .ref g1]) C (X9_less_ok κ.2.1 G D7 v0 r6 v4 _ hw) ho_v0 rfl k_1002 mv_X9_less ⟨by decide, by decide⟩ ⟨rfl, rfl⟩ rfl rfl (Nat.le_of_ble_eq_true rfl) ⟨Nat.zero_le _, Nat.zero_le _⟩ dX9_round_67 (fun r8 D9 hw => ?_)
        refine j_cVI (As := [.int r8]) (st := [.int v6, .ref g1]) C (X9_sign_ok κ.2.1 G D9 v0 r8 _ hw) ho_v0 rfl k_990 mv_X9_sign ⟨by decide, by decide⟩ ⟨rfl, rfl⟩ rfl rfl (Nat.le_of_ble_eq_true rfl) ⟨Nat.zero_le _, Nat.zero_le _⟩ dX9_round_70 (fun r10 D11 hw => ?_)
        refine j_if_le (tgt := 80) C dX9_round_73 (by decide) (fun hc => ?_) (fun hc => ?_)
        · have hw := hw.1 hc
          exact J.sub (X9_round_j80_ok C K ho_v0 hr_g1 ho_g1 hr_g2 ho_g2 hr_g3 ho_g3 ih v4 v5 v6 v6 g1 D11 hw) [0, 1, 2, 3, 4, 5] rfl
        · have hw := hw.2 hc
          refine j_iconst (v := 1) C dX9_round_76 (by decide) ?_
          refine j_goto (tgt := 81) C dX9_round_77 (by decide) ?_
          exact J.sub (X9_round_j81_ok C K ho_v0 hr_g1 ho_g1 hr_g2 ho_g2 hr_g3 ho_g3 ih v4 v5 v6 1 v6 g1 D11 hw) [0, 1, 2, 3, 4, 5] rfl
def X9_round_wp (G : Shp) (D : Dat) (v0 : Nat) (v1 : Int32) (v2 : Int32) (v3 : Int32) (post : Int32 → Dat → Prop) : Prop := isO G v0 9 ∧ ∃ g1, G.2.2.2 v0 28 = some g1 ∧ isO G g1 13 ∧ ∃ g2, G.2.2.2 v0 29 = some g2 ∧ isO G g2 11 ∧ ∃ g3, G.2.2.2 v0 16 = some g3 ∧ isO G g3 13 ∧ X9_whole_wp G D v0 v2.toInt64 (fun r1 D2 => X9_middle_wp G D2 v0 v1 (fun r3 D4 => X9_times_wp G D4 v0 r1 r3 (fun r5 D6 => ∃ n, X9_round_l23 G post v0 v1 v2 v3 g1 g2 g3 n r5 0 0 D6)))
set_option maxRecDepth 100000 in
set_option maxHeartbeats 4000000 in
theorem X9_round_ok (l : Launch) (G : Shp) (D : Dat) (v0 : Nat) (v1 : Int32) (v2 : Int32) (v3 : Int32) (post : Int32 → Dat → Prop) (hw : X9_round_wp G D v0 v1 v2 v3 post) : CtI l yX9_round cX9_round 7 .boolean (rmN 6) [.ref v0, .int v1, .int v2, .int v3] G D post := by
  obtain ⟨ho_v0, g1, hr_g1, ho_g1, g2, hr_g2, ho_g2, g3, hr_g3, ho_g3, hw⟩ := hw
  refine ctI_of (by decide) rfl (Nat.le_of_ble_eq_true rfl) ?_
  intro κ hκ C K
  subst hκ
  have C : Cx κ cX9_round RX9 (rmN 6) 7 := C
  refine j_aload_n C dX9_round_0 rfl 0 rfl ?_
  refine j_aload_n C dX9_round_1 rfl 0 rfl ?_
  refine j_iload_n C dX9_round_2 rfl 2 rfl ?_
  refine j_i2l C dX9_round_3 ?_
  refine j_cVI (As := [.long v2.toInt64]) (st := [.ref v0]) C (X9_whole_ok κ.2.1 G D v0 v2.toInt64 _ hw) ho_v0 rfl k_977 mv_X9_whole ⟨by decide, by decide⟩ ⟨rfl, rfl⟩ rfl rfl (Nat.le_of_ble_eq_true rfl) ⟨Nat.zero_le _, Nat.zero_le _⟩ dX9_round_4 (fun r1 D2 hw => ?_)
  refine j_aload_n C dX9_round_7 rfl 0 rfl ?_
  refine j_iload_n C dX9_round_8 rfl 1 rfl ?_
  refine j_cVI (As := [.int v1]) (st := [.int r1, .ref v0]) C (X9_middle_ok κ.2.1 G D2 v0 v1 _ hw) ho_v0 rfl k_1120 mv_X9_middle ⟨by decide, by decide⟩ ⟨rfl, rfl⟩ rfl rfl (Nat.le_of_ble_eq_true rfl) ⟨Nat.zero_le _, Nat.zero_le _⟩ dX9_round_9 (fun r3 D4 hw => ?_)
  refine j_cVI (As := [.int r1, .int r3]) (st := []) C (X9_times_ok κ.2.1 G D4 v0 r1 r3 _ hw) ho_v0 rfl k_994 mv_X9_times ⟨by decide, by decide⟩ ⟨rfl, rfl⟩ rfl rfl (Nat.le_of_ble_eq_true rfl) ⟨Nat.zero_le _, Nat.zero_le _⟩ dX9_round_12 (fun r5 D6 hw => ?_)
  refine j_istore C dX9_round_15 (by decide) rfl ?_
  refine j_iconst (v := 0) C dX9_round_17 (by decide) ?_
  refine j_istore C dX9_round_18 (by decide) rfl ?_
  refine j_iconst (v := 0) C dX9_round_20 (by decide) ?_
  refine j_istore C dX9_round_21 (by decide) rfl ?_
  obtain ⟨n, hw⟩ := hw
  exact J.sub (X9_round_l23_ok C K ho_v0 hr_g1 ho_g1 hr_g2 ho_g2 hr_g3 ho_g3 n r5 0 0 D6 hw) [3, 4, 6, 2, 1, 0] rfl
