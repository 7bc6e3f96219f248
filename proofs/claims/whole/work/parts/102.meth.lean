/-! X8_refuse -/
def X8_refuse_wp (G : Shp) (D : Dat) (v0 : Nat) (v1 : Int32) (post : Int32 → Dat → Prop) : Prop := isO G v0 8 ∧ (isB 0 ∧ post 0 (dI D v0 8 v1))
set_option maxRecDepth 100000 in
set_option maxHeartbeats 4000000 in
theorem X8_refuse_ok (l : Launch) (G : Shp) (D : Dat) (v0 : Nat) (v1 : Int32) (post : Int32 → Dat → Prop) (hw : X8_refuse_wp G D v0 v1 post) : CtI l yX8_refuse cX8_refuse 2 .boolean (rmN 0) [.ref v0, .int v1] G D post := by
  obtain ⟨ho_v0, hw⟩ := hw
  refine ctI_of (by decide) rfl (Nat.le_of_ble_eq_true rfl) ?_
  intro κ hκ C K
  subst hκ
  have C : Cx κ cX8_refuse RX8 (rmN 0) 2 := C
  refine j_aload_n C dX8_refuse_0 rfl 0 rfl ?_
  refine j_iload_n C dX8_refuse_1 rfl 1 rfl ?_
  refine pf_8_8 C ho_v0 k_259 dX8_refuse_2 ?_
  refine j_iconst (v := 0) C dX8_refuse_5 (by decide) ?_
  obtain ⟨hb1, hw⟩ := hw
  exact K _ _ _ _ dX8_refuse_6 (isB_n hb1) hw
/-! X8_rowOf -/
def X8_rowOf_j19 (G : Shp) (post : Option Nat → Dat → Prop) (v0 : Nat) (v1 : Int32) (g1 : Nat) (s0 : Option Nat) (D : Dat) : Prop := post s0 D
set_option maxRecDepth 100000 in
set_option maxHeartbeats 4000000 in
theorem X8_rowOf_j19_ok {κ : Ctx} {G : Shp} {post : Option Nat → Dat → Prop} {v0 : Nat} {v1 : Int32} {g1 : Nat} (C : Cx κ cX8_rowOf RX8 (rmN 0) 2) (K : RtQ κ cX8_rowOf G post) (ho_v0 : isO G v0 8) (hr_g1 : G.2.2.2 v0 0 = some g1) (ho_g1 : isO G g1 15) (s0 : Option Nat) (D : Dat) (hw : X8_rowOf_j19 G post v0 v1 g1 s0 D) : J κ 0 0 G D 19 [] [va_rf s0] := by
  unfold X8_rowOf_j19 at hw
  exact K _ _ s0 _ dX8_rowOf_19 hw
def X8_rowOf_j18 (G : Shp) (post : Option Nat → Dat → Prop) (v0 : Nat) (v1 : Int32) (g1 : Nat) (D : Dat) : Prop := X8_rowOf_j19 G post v0 v1 g1 none D
set_option maxRecDepth 100000 in
set_option maxHeartbeats 4000000 in
theorem X8_rowOf_j18_ok {κ : Ctx} {G : Shp} {post : Option Nat → Dat → Prop} {v0 : Nat} {v1 : Int32} {g1 : Nat} (C : Cx κ cX8_rowOf RX8 (rmN 0) 2) (K : RtQ κ cX8_rowOf G post) (ho_v0 : isO G v0 8) (hr_g1 : G.2.2.2 v0 0 = some g1) (ho_g1 : isO G g1 15) (D : Dat) (hw : X8_rowOf_j18 G post v0 v1 g1 D) : J κ 0 0 G D 18 [] [] := by
  unfold X8_rowOf_j18 at hw
  refine j_null C dX8_rowOf_18 ?_
  exact J.sub (X8_rowOf_j19_ok C K ho_v0 hr_g1 ho_g1 none D hw) [] rfl
def X8_rowOf_wp (G : Shp) (D : Dat) (v0 : Nat) (v1 : Int32) (post : Option Nat → Dat → Prop) : Prop := isO G v0 8 ∧ ∃ g1, G.2.2.2 v0 0 = some g1 ∧ isO G g1 15 ∧ ((v1 < 0 → X8_rowOf_j18 G post v0 v1 g1 D) ∧ (¬ (v1 < 0) → ((4 ≤ v1 → X8_rowOf_j18 G post v0 v1 g1 D) ∧ (¬ (4 ≤ v1) → (vp_in v1 (G.2.2.1 g1) ∧ ∃ y2, G.2.2.2 g1 v1.toNatClampNeg = some y2 ∧ isO G y2 3 ∧ X8_rowOf_j19 G post v0 v1 g1 (some y2) D)))))
set_option maxRecDepth 100000 in
set_option maxHeartbeats 4000000 in
theorem X8_rowOf_ok (l : Launch) (G : Shp) (D : Dat) (v0 : Nat) (v1 : Int32) (post : Option Nat → Dat → Prop) (hw : X8_rowOf_wp G D v0 v1 post) : CtQ l yX8_rowOf cX8_rowOf 2 (.object "SeasonRows$Row") (rmN 0) [.ref v0, .int v1] G D post := by
  obtain ⟨ho_v0, g1, hr_g1, ho_g1, hw⟩ := hw
  refine ctQ_of (by decide) rfl (Nat.le_of_ble_eq_true rfl) (Or.inl ⟨_, rfl⟩) ?_
  intro κ hκ C K
  subst hκ
  have C : Cx κ cX8_rowOf RX8 (rmN 0) 2 := C
  refine j_iload_n C dX8_rowOf_0 rfl 1 rfl ?_
  refine j_if_lt (tgt := 18) C dX8_rowOf_1 (by decide) (fun hc => ?_) (fun hc => ?_)
  · have hw := hw.1 hc
    exact J.sub (X8_rowOf_j18_ok C K ho_v0 hr_g1 ho_g1 D hw) [] rfl
  · have hw := hw.2 hc
    refine j_iload_n C dX8_rowOf_4 rfl 1 rfl ?_
    refine j_iconst (v := 4) C dX8_rowOf_5 (by decide) ?_
    refine j_icmp_ge (tgt := 18) C dX8_rowOf_6 (by decide) (fun hc => ?_) (fun hc => ?_)
    · have hw := hw.1 hc
      exact J.sub (X8_rowOf_j18_ok C K ho_v0 hr_g1 ho_g1 D hw) [] rfl
    · have hw := hw.2 hc
      refine j_aload_n C dX8_rowOf_9 rfl 0 rfl ?_
      refine gf_8_0 C ho_v0 hr_g1 k_251 dX8_rowOf_10 ?_
      refine j_iload_n C dX8_rowOf_13 rfl 1 rfl ?_
      obtain ⟨hi1, hw⟩ := hw
      obtain ⟨y2, hr3, ho4, hw⟩ := hw
      refine j_aaldRow C ho_g1 hi1 hr3 dX8_rowOf_14 ?_
      refine j_goto (tgt := 19) C dX8_rowOf_15 (by decide) ?_
      exact J.sub (X8_rowOf_j19_ok C K ho_v0 hr_g1 ho_g1 (some y2) D hw) [] rfl
/-! X8_status -/
def X8_status_wp (G : Shp) (D : Dat) (v0 : Nat) (post : Int32 → Dat → Prop) : Prop := isO G v0 8 ∧ post (D.1 v0 8) D
set_option maxRecDepth 100000 in
set_option maxHeartbeats 4000000 in
theorem X8_status_ok (l : Launch) (G : Shp) (D : Dat) (v0 : Nat) (post : Int32 → Dat → Prop) (hw : X8_status_wp G D v0 post) : CtI l yX8_status cX8_status 1 .int (rmN 0) [.ref v0] G D post := by
  obtain ⟨ho_v0, hw⟩ := hw
  refine ctI_of (by decide) rfl (Nat.le_of_ble_eq_true rfl) ?_
  intro κ hκ C K
  subst hκ
  have C : Cx κ cX8_status RX8 (rmN 0) 1 := C
  refine j_aload_n C dX8_status_0 rfl 0 rfl ?_
  refine gf_8_8 C ho_v0 k_259 dX8_status_1 ?_
  exact K _ _ _ _ dX8_status_4 rfl hw
/-! X9_addStep -/
def X9_addStep_j55 (G : Shp) (post : Dat → Prop) (v0 : Nat) (v1 : Int32) (v2 : Int32) (g1 : Nat) (g2 : Nat) (v3 : Int32) (D : Dat) : Prop := (vp_in ((3 * v1) + v3) (G.2.2.1 g2) ∧ vp_in v1 (G.2.2.1 g1) ∧ vp_in v1 (G.2.2.1 g1) ∧ post (dI (dI D g2 ((3 * v1) + v3).toNatClampNeg v2) g1 v1.toNatClampNeg (((dI D g2 ((3 * v1) + v3).toNatClampNeg v2).1 g1 v1.toNatClampNeg) + 1)))
set_option maxRecDepth 100000 in
set_option maxHeartbeats 4000000 in
theorem X9_addStep_j55_ok {κ : Ctx} {G : Shp} {post : Dat → Prop} {v0 : Nat} {v1 : Int32} {v2 : Int32} {g1 : Nat} {g2 : Nat} (C : Cx κ cX9_addStep RX9 (rmN 0) 4) (K : RtV κ cX9_addStep G post) (ho_v0 : isO G v0 9) (hr_g1 : G.2.2.2 v0 12 = some g1) (ho_g1 : isO G g1 11) (hr_g2 : G.2.2.2 v0 13 = some g2) (ho_g2 : isO G g2 11) (v3 : Int32) (D : Dat) (hw : X9_addStep_j55 G post v0 v1 v2 g1 g2 v3 D) : J κ 0 0 G D 55 [(0, .ref v0), (1, .int v1), (2, .int v2), (3, .int v3)] [] := by
  unfold X9_addStep_j55 at hw
  refine j_aload_n C dX9_addStep_55 rfl 0 rfl ?_
  refine gf_9_13 C ho_v0 hr_g2 k_777 dX9_addStep_56 ?_
  refine j_iconst (v := 3) C dX9_addStep_59 (by decide) ?_
  refine j_iload_n C dX9_addStep_60 rfl 1 rfl ?_
  refine j_imul C dX9_addStep_61 ?_
  refine j_iload_n C dX9_addStep_62 rfl 3 rfl ?_
  refine j_iadd C dX9_addStep_63 ?_
  refine j_iload_n C dX9_addStep_64 rfl 2 rfl ?_
  obtain ⟨hi1, hw⟩ := hw
  refine j_iast C ho_g2 hi1 dX9_addStep_65 ?_
  refine j_aload_n C dX9_addStep_66 rfl 0 rfl ?_
  refine gf_9_12 C ho_v0 hr_g1 k_776 dX9_addStep_67 ?_
  refine j_iload_n C dX9_addStep_70 rfl 1 rfl ?_
  refine j_dup2 C dX9_addStep_71 rfl rfl ?_
  obtain ⟨hi2, hw⟩ := hw
  refine j_iald C ho_g1 hi2 dX9_addStep_72 ?_
  refine j_iconst (v := 1) C dX9_addStep_73 (by decide) ?_
  refine j_iadd C dX9_addStep_74 ?_
  obtain ⟨hi3, hw⟩ := hw
  refine j_iast C ho_g1 hi3 dX9_addStep_75 ?_
  exact K _ _ _ dX9_addStep_76 hw
def X9_addStep_l7_b (G : Shp) (post : Dat → Prop) (v0 : Nat) (v1 : Int32) (v2 : Int32) (g1 : Nat) (g2 : Nat) (rec : Int32 → Dat → Prop) (v3 : Int32) (D : Dat) : Prop := ((v3 ≤ 0 → X9_addStep_j55 G post v0 v1 v2 g1 g2 v3 D) ∧ (¬ (v3 ≤ 0) → (vp_in (((3 * v1) + v3) - 1) (G.2.2.1 g2) ∧ (((D.1 g2 (((3 * v1) + v3) - 1).toNatClampNeg) ≤ v2 → X9_addStep_j55 G post v0 v1 v2 g1 g2 v3 D) ∧ (¬ ((D.1 g2 (((3 * v1) + v3) - 1).toNatClampNeg) ≤ v2) → (vp_in (((3 * v1) + v3) - 1) (G.2.2.1 g2) ∧ vp_in ((3 * v1) + v3) (G.2.2.1 g2) ∧ rec (v3 + (-1)) (dI D g2 ((3 * v1) + v3).toNatClampNeg (D.1 g2 (((3 * v1) + v3) - 1).toNatClampNeg))))))))
def X9_addStep_l7 (G : Shp) (post : Dat → Prop) (v0 : Nat) (v1 : Int32) (v2 : Int32) (g1 : Nat) (g2 : Nat) : Nat → Int32 → Dat → Prop
  | 0 => fun _ _ => False
  | n + 1 => X9_addStep_l7_b G post v0 v1 v2 g1 g2 (X9_addStep_l7 G post v0 v1 v2 g1 g2 n)
set_option maxRecDepth 100000 in
set_option maxHeartbeats 4000000 in
theorem X9_addStep_l7_ok {κ : Ctx} {G : Shp} {post : Dat → Prop} {v0 : Nat} {v1 : Int32} {v2 : Int32} {g1 : Nat} {g2 : Nat} (C : Cx κ cX9_addStep RX9 (rmN 0) 4) (K : RtV κ cX9_addStep G post) (ho_v0 : isO G v0 9) (hr_g1 : G.2.2.2 v0 12 = some g1) (ho_g1 : isO G g1 11) (hr_g2 : G.2.2.2 v0 13 = some g2) (ho_g2 : isO G g2 11) : ∀ (n : Nat) (v3 : Int32) (D : Dat), X9_addStep_l7 G post v0 v1 v2 g1 g2 n v3 D → J κ 0 0 G D 7 [(0, .ref v0), (1, .int v1), (2, .int v2), (3, .int v3)] [] := by
  intro n
  induction n with
  | zero => intro v3 D hw; exact hw.elim
  | succ n ih =>
    intro v3 D hw
    have hw : X9_addStep_l7_b G post v0 v1 v2 g1 g2 (X9_addStep_l7 G post v0 v1 v2 g1 g2 n) v3 D := hw
    unfold X9_addStep_l7_b at hw
    refine j_iload_n C dX9_addStep_7 rfl 3 rfl ?_
    refine j_if_le (tgt := 55) C dX9_addStep_8 (by decide) (fun hc => ?_) (fun hc => ?_)
    · have hw := hw.1 hc
      exact J.sub (X9_addStep_j55_ok C K ho_v0 hr_g1 ho_g1 hr_g2 ho_g2 v3 D hw) [0, 1, 2, 3] rfl
    · have hw := hw.2 hc
      refine j_aload_n C dX9_addStep_11 rfl 0 rfl ?_
      refine gf_9_13 C ho_v0 hr_g2 k_777 dX9_addStep_12 ?_
      refine j_iconst (v := 3) C dX9_addStep_15 (by decide) ?_
      refine j_iload_n C dX9_addStep_16 rfl 1 rfl ?_
      refine j_imul C dX9_addStep_17 ?_
      refine j_iload_n C dX9_addStep_18 rfl 3 rfl ?_
      refine j_iadd C dX9_addStep_19 ?_
      refine j_iconst (v := 1) C dX9_addStep_20 (by decide) ?_
      refine j_isub C dX9_addStep_21 ?_
      obtain ⟨hi1, hw⟩ := hw
      refine j_iald C ho_g2 hi1 dX9_addStep_22 ?_
      refine j_iload_n C dX9_addStep_23 rfl 2 rfl ?_
      refine j_icmp_le (tgt := 55) C dX9_addStep_24 (by decide) (fun hc => ?_) (fun hc => ?_)
      · have hw := hw.1 hc
        exact J.sub (X9_addStep_j55_ok C K ho_v0 hr_g1 ho_g1 hr_g2 ho_g2 v3 D hw) [0, 1, 2, 3] rfl
      · have hw := hw.2 hc
        refine j_aload_n C dX9_addStep_27 rfl 0 rfl ?_
        refine gf_9_13 C ho_v0 hr_g2 k_777 dX9_addStep_28 ?_
        refine j_iconst (v := 3) C dX9_addStep_31 (by decide) ?_
        refine j_iload_n C dX9_addStep_32 rfl 1 rfl ?_
        refine j_imul C dX9_addStep_33 ?_
        refine j_iload_n C dX9_addStep_34 rfl 3 rfl ?_
        refine j_iadd C dX9_addStep_35 ?_
        refine j_aload_n C dX9_addStep_36 rfl 0 rfl ?_
        refine gf_9_13 C ho_v0 hr_g2 k_777 dX9_addStep_37 ?_
        refine j_iconst (v := 3) C dX9_addStep_40 (by decide) ?_
        refine j_iload_n C dX9_addStep_41 rfl 1 rfl ?_
        refine j_imul C dX9_addStep_42 ?_
        refine j_iload_n C dX9_addStep_43 rfl 3 rfl ?_
        refine j_iadd C dX9_addStep_44 ?_
        refine j_iconst (v := 1) C dX9_addStep_45 (by decide) ?_
        refine j_isub C dX9_addStep_46 ?_
        obtain ⟨hi2, hw⟩ := hw
        refine j_iald C ho_g2 hi2 dX9_addStep_47 ?_
        obtain ⟨hi3, hw⟩ := hw
        refine j_iast C ho_g2 hi3 dX9_addStep_48 ?_
        refine j_iinc (v := v3 + (-1)) C dX9_addStep_49 3 rfl rfl (by decide) rfl ?_
        refine j_goto (tgt := 7) C dX9_addStep_52 (by decide) ?_
        exact J.sub (ih (v3 + (-1)) (dI D g2 ((3 * v1) + v3).toNatClampNeg (D.1 g2 (((3 * v1) + v3) - 1).toNatClampNeg)) hw) [1, 2, 3, 0] rfl
def X9_addStep_wp (G : Shp) (D : Dat) (v0 : Nat) (v1 : Int32) (v2 : Int32) (post : Dat → Prop) : Prop := isO G v0 9 ∧ ∃ g1, G.2.2.2 v0 12 = some g1 ∧ isO G g1 11 ∧ ∃ g2, G.2.2.2 v0 13 = some g2 ∧ isO G g2 11 ∧ (vp_in v1 (G.2.2.1 g1) ∧ ∃ n, X9_addStep_l7 G post v0 v1 v2 g1 g2 n (D.1 g1 v1.toNatClampNeg) D)
set_option maxRecDepth 100000 in
set_option maxHeartbeats 4000000 in
theorem X9_addStep_ok (l : Launch) (G : Shp) (D : Dat) (v0 : Nat) (v1 : Int32) (v2 : Int32) (post : Dat → Prop) (hw : X9_addStep_wp G D v0 v1 v2 post) : CtV l yX9_addStep cX9_addStep 4 (rmN 0) [.ref v0, .int v1, .int v2] G D post := by
  obtain ⟨ho_v0, g1, hr_g1, ho_g1, g2, hr_g2, ho_g2, hw⟩ := hw
  refine ctV_of (by decide) rfl (Nat.le_of_ble_eq_true rfl) ?_
  intro κ hκ C K
  subst hκ
  have C : Cx κ cX9_addStep RX9 (rmN 0) 4 := C
  refine j_aload_n C dX9_addStep_0 rfl 0 rfl ?_
  refine gf_9_12 C ho_v0 hr_g1 k_776 dX9_addStep_1 ?_
  refine j_iload_n C dX9_addStep_4 rfl 1 rfl ?_
  obtain ⟨hi1, hw⟩ := hw
  refine j_iald C ho_g1 hi1 dX9_addStep_5 ?_
  refine j_istore_n C dX9_addStep_6 rfl (by decide) rfl ?_
  obtain ⟨n, hw⟩ := hw
  exact J.sub (X9_addStep_l7_ok C K ho_v0 hr_g1 ho_g1 hr_g2 ho_g2 n (D.1 g1 v1.toNatClampNeg) D hw) [1, 2, 3, 0] rfl
