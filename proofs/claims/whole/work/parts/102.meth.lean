/-! X8_refuse -/
def X8_refuse_wp (G : Shp) (D : Dat) (v0 : Nat) (v1 : Int32) (post : Int32 → Dat → Prop) : Prop := isO G v0 8 ∧ (isB 0 ∧ post 0 (dI D v0 8 v1))
set_option maxRecDepth 100000 in
set_option maxHeartbeats 4000000 in
theorem X8_refuse_ok (l : Launch) (G : Shp) (D : Dat) (v0 : Nat) (v1 : Int32) (post : Int32 → Dat → Prop) (hw : X8_refuse_wp G D v0 v1 post) : CtI l yX8_refuse cX8_refuse 2 .boolean (rmN 0) [.ref v0, .int v1] G D post := by
  obtain ⟨ho_v0, hw⟩ := hw
  refine ctI_of (by decide) rfl (Nat.le_of_ble_eq_true rfl) ?_
  intro κ hκ C K
  subst hκ
  have C : Cx κ cX8_refuse RX8 (rmN 0) 2 := C
  refine j_aload_n C dX8_refuse_0 rfl 0 rfl ?_
  refine j_iload_n C dX8_refuse_1 rfl 1 rfl ?_
  refine pf_8_8 C ho_v0 k_259 dX8_refuse_2 ?_
  refine j_iconst (v := 0) C dX8_refuse_5 (by decide) ?_
  obtain ⟨hb1, hw⟩ := hw
  exact K _ _ _ _ dX8_refuse_6 (isB_n hb1) hw
/-! X8_rowOf -/
def X8_rowOf_j19 (G : Shp) (post : Option Nat → Dat → Prop) (v0 : Nat) (v1 : Int32) (g1 : Nat) (s0 : Option Nat) (D : Dat) : Prop := post s0 D
set_option maxRecDepth 100000 in
set_option maxHeartbeats 4000000 in
theorem X8_rowOf_j19_ok {κ : Ctx} {G : Shp} {post : Option Nat → Dat → Prop} {v0 : Nat} {v1 : Int32} {g1 : Nat} (C : Cx κ cX8_rowOf RX8 (rmN 0) 2) (K : RtQ κ cX8_rowOf G post) (ho_v0 : isO G v0 8) (hr_g1 : G.2.2.2 v0 0 = some g1) (ho_g1 : isO G g1 15) (s0 : Option Nat) (D : Dat) (hw : X8_rowOf_j19 G post v0 v1 g1 s0 D) : J κ 0 0 G D 19 [] [va_rf s0] := by
  unfold X8_rowOf_j19 at hw
  exact K _ _ s0 _ dX8_rowOf_19 hw
def X8_rowOf_j18 (G : Shp) (post : Option Nat → Dat → Prop) (v0 : Nat) (v1 : Int32) (g1 : Nat) (D : Dat) : Prop := X8_rowOf_j19 G post v0 v1 g1 none D
set_option maxRecDepth 100000 in
set_option maxHeartbeats 4000000 in
theorem X8_rowOf_j18_ok {κ : Ctx} {G : Shp} {post : Option Nat → Dat → Prop} {v0 : Nat} {v1 : Int32} {g1 : Nat} (C : Cx κ cX8_rowOf RX8 (rmN 0) 2) (K : RtQ κ cX8_rowOf G post) (ho_v0 : isO G v0 8) (hr_g1 : G.2.2.2 v0 0 = some g1) (ho_g1 : isO G g1 15) (D : Dat) (hw : X8_rowOf_j18 G post v0 v1 g1 D) : J κ 0 0 G D 18 [] [] := by
  unfold X8_rowOf_j18 at hw
  refine j_null C dX8_rowOf_18 ?_
  exact J.sub (X8_rowOf_j19_ok C K ho_v0 hr_g1 ho_g1 none D hw) [] rfl
def X8_rowOf_wp (G : Shp) (D : Dat) (v0 : Nat) (v1 : Int32) (post : Option Nat → Dat → Prop) : Prop := isO G v0 8 ∧ ∃ g1, G.2.2.2 v0 0 = some g1 ∧ isO G g1 15 ∧ ((v1 < 0 → X8_rowOf_j18 G post v0 v1 g1 D) ∧ (¬ (v1 < 0) → ((4 ≤ v1 → X8_rowOf_j18 G post v0 v1 g1 D) ∧ (¬ (4 ≤ v1) → (vp_in v1 (G.2.2.1 g1) ∧ ∃ y2, G.2.2.2 g1 v1.toNatClampNeg = some y2 ∧ isO G y2 3 ∧ X8_rowOf_j19 G post v0 v1 g1 (some y2) D)))))
set_option maxRecDepth 100000 in
set_option maxHeartbeats 4000000 in
theorem X8_rowOf_ok (l : Launch) (G : Shp) (D : Dat) (v0 : Nat) (v1 : Int32) (post : Option Nat → Dat → Prop) (hw : X8_rowOf_wp G D v0 v1 post) : CtQ l yX8_rowOf cX8_rowOf 2 (.object "SeasonRows$Row") (rmN 0) [.ref v0, .int v1] G D post := by
  obtain ⟨ho_v0, g1, hr_g1, ho_g1, hw⟩ := hw
  refine ctQ_of (by decide) rfl (Nat.le_of_ble_eq_true rfl) (Or.inl ⟨_, rfl⟩) ?_
  intro κ hκ C K
  subst hκ
  have C : Cx κ cX8_rowOf RX8 (rmN 0) 2 := C
  refine j_iload_n C dX8_rowOf_0 rfl 1 rfl ?_
  refine j_if_lt (tgt := 18) C dX8_rowOf_1 (by decide) (fun hc => ?_) (fun hc => ?_)
  · have hw := hw.1 hc
    exact J.sub (X8_rowOf_j18_ok C K ho_v0 hr_g1 ho_g1 D hw) [] rfl
  · have hw := hw.2 hc
    refine j_iload_n C dX8_rowOf_4 rfl 1 rfl ?_
    refine j_iconst (v := 4) C dX8_rowOf_5 (by decide) ?_
    refine j_icmp_ge (tgt := 18) C dX8_rowOf_6 (by decide) (fun hc => ?_) (fun hc => ?_)
    · have hw := hw.1 hc
      exact J.sub (X8_rowOf_j18_ok C K ho_v0 hr_g1 ho_g1 D hw) [] rfl
    · have hw := hw.2 hc
      refine j_aload_n C dX8_rowOf_9 rfl 0 rfl ?_
      refine gf_8_0 C ho_v0 hr_g1 k_251 dX8_rowOf_10 ?_
      refine j_iload_n C dX8_rowOf_13 rfl 1 rfl ?_
      obtain ⟨hi1, hw⟩ := hw
      obtain ⟨y2, hr3, ho4, hw⟩ := hw
      refine j_aaldRow C ho_g1 hi1 hr3 dX8_rowOf_14 ?_
      refine j_goto (tgt := 19) C dX8_rowOf_15 (by decide) ?_
      exact J.sub (X8_rowOf_j19_ok C K ho_v0 hr_g1 ho_g1 (some y2) D hw) [] rfl
/-! X8_status -/
def X8_status_wp (G : Shp) (D : Dat) (v0 : Nat) (post : Int32 → Dat → Prop) : Prop := isO G v0 8 ∧ post (D.1 v0 8) D
set_option maxRecDepth 100000 in
set_option maxHeartbeats 4000000 in
theorem X8_status_ok (l : Launch) (G : Shp) (D : Dat) (v0 : Nat) (post : Int32 → Dat → Prop) (hw : X8_status_wp G D v0 post) : CtI l yX8_status cX8_status 1 .int (rmN 0) [.ref v0] G D post := by
  obtain ⟨ho_v0, hw⟩ := hw
  refine ctI_of (by decide) rfl (Nat.le_of_ble_eq_true rfl) ?_
  intro κ hκ C K
  subst hκ
  have C : Cx κ cX8_status RX8 (rmN 0) 1 := C
  refine j_aload_n C dX8_status_0 rfl 0 rfl ?_
  refine gf_8_8 C ho_v0 k_259 dX8_status_1 ?_
  exact K _ _ _ _ dX8_status_4 rfl hw
/-! X9_addStep -/
def X9_addStep_j55 (G : Shp) (post : Dat → Prop) (v0 : Nat) (v1 : Int32) (v2 : Int32) (g1 : Nat) (g2 : Nat) (v3 : Int32) (D : Dat) : Prop := (vp_in ((3 * v1) + v3) (G.2.2.1 g2) ∧ vp_in v1 (G.2.2.1 g1) ∧ vp_in v1 (G.2.2.1 g1) ∧ post (dI (dI D g2 ((3 * v1) + v3).toNatClampNeg v2) g1 v1.toNatClampNeg (((dI D g2 ((3 * v1) + v3).toNatClampNeg v2).1 g1 v1.toNatClampNeg) + 1)))
set_option maxRecDepth 100000 in
set_option maxHeartbeats 4000000 in
theorem X9_addStep_j55_ok {κ : Ctx} {G : Shp} {post : Dat → Prop} {v0 : Nat} {v1 : Int32} {v2 : Int32} {g1 : Nat} {g2 : Nat} (C : Cx κ cX9_addStep RX9 (rmN 0) 4) (K : RtV κ cX9_addStep G post) (ho_v0 : isO G v0 9) (hr_g1 : G.2.2.2 v0 12 = some g1) (ho_g1 : isO G g1 11) (hr_g2 : G.2.2.2 v0 13 = some g2) (ho_g2 : isO G g2 11) (v3 : Int32) (D : Dat) (hw : X9_addStep_j55 G post v0 v1 v2 g1 g2 v3 D) : J κ 0 0 G D 55 [(0, .ref v0), (1, .int v1), (2, .int v2), (3, .int v3)] [] := by
  unfold X9_addStep_j55 at hw
  refine j_aload_n C dX9_addStep_55 rfl 0 rfl ?_
  refine gf_9_13 C ho_v0 hr_g2 k_777 dX9_addStep_56 ?_
  refine j_iconst (v := 3) C dX9_addStep_59 (by decide) ?_
  refine j_iload_n C dX9_addStep_60 rfl 1 rfl ?_
  refine j_imul C dX9_addStep_61 ?_
  refine j_iload_n C dX9_addStep_62 rfl 3 rfl ?_
  refine j_iadd C dX9_addStep_63 ?_
  refine j_iload_n C dX9_addStep_64 rfl 2 rfl ?_
  obtain ⟨hi1, hw⟩ := hw
  refine j_iast C ho_g2 hi1 dX9_addStep_65 ?_
  refine j_aload_n C dX9_addStep_66 rfl 0 rfl ?_
  refine gf_9_12 C ho_v0 hr_g1 k_776 dX9_addStep_67 ?_
  refine j_iload_n C dX9_addStep_70 rfl 1 rfl ?_
  refine j_dup2 C dX9_addStep_71 rfl rfl ?_
  obtain ⟨hi2, hw⟩ := hw
  refine j_iald C ho_g1 hi2 dX9_addStep_72 ?_
  refine j_iconst (v := 1) C dX9_addStep_73 (by decide) ?_
  refine j_iadd C dX9_addStep_74 ?_
  obtain ⟨hi3, hw⟩ := hw
  refine j_iast C ho_g1 hi3 dX9_addStep_75 ?_
  exact K _ _ _ dX9_addStep_76 hw
def X9_addStep_l7_b (G : Shp) (post : Dat → Prop) (v0 : Nat) (v1 : Int32) (v2 : Int32) (g1 : Nat) (g2 : Nat) (rec : Int32 → Dat → Prop) (v3 : Int32) (D : Dat) : Prop := ((v3 ≤ 0 → X9_addStep_j55 G post v0 v1 v2 g1 g2 v3 D) ∧ (¬ (v3 ≤ 0) → (vp_in (((3 * v1) + v3) - 1) (G.2.2.1 g2) ∧ (((D.1 g2 (((3 * v1) + v3) - 1).toNatClampNeg) ≤ v2 → X9_addStep_j55 G post v0 v1 v2 g1 g2 v3 D) ∧ (¬ ((D.1 g2 (((3 * v1) + v3) - 1).toNatClampNeg) ≤ v2) → (vp_in (((3 * v1) + v3) - 1) (G.2.2.1 g2) ∧ vp_in ((3 * v1) + v3) (G.2.2.1 g2) ∧ rec (v3 + (-1)) (dI D g2 ((3 * v1) + v3).toNatClampNeg (D.1 g2 (((3 * v1) + v3) - 1).toNatClampNeg))))))))
def X9_addStep_l7 (G : Shp) (post : Dat → Prop) (v0 : Nat) (v1 : Int32) (v2 : Int32) (g1 : Nat) (g2 : Nat) : Nat → Int32 → Dat → Prop
  | 0 => fun _ _ => False
  | n + 1 => X9_addStep_l7_b G post v0 v1 v2 g1 g2 (X9_addStep_l7 G post v0 v1 v2 g1 g2 n)
set_option maxRecDepth 100000 in
set_option maxHeartbeats 4000000 in
theorem X9_addStep_l7_ok {κ : Ctx} {G : Shp} {post : Dat → Prop} {v0 : Nat} {v1 : Int32} {v2 : Int32} {g1 : Nat} {g2 : Nat} (C : Cx κ cX9_addStep RX9 (rmN 0) 4) (K : RtV κ cX9_addStep G post) (ho_v0 : isO G v0 9) (hr_g1 : G.2.2.2 v0 12 = some g1) (ho_g1 : isO G g1 11) (hr_g2 : G.2.2.2 v0 13 = some g2) (ho_g2 : isO G g2 11) : ∀ (n : Nat) (v3 : Int32) (D : Dat), X9_addStep_l7 G post v0 v1 v2 g1 g2 n v3 D → J κ 0 0 G D 7 [(0, .ref v0), (1, .int v1), (2, .int v2), (3, .int v3)] [] := by
  intro n
  induction n with
  | zero => intro v3 D hw; exact hw.elim
  | succ n ih =>
    intro v3 D hw
    have hw : X9_addStep_l7_b G post v0 v1 v2 g1 g2 (X9_addStep_l7 G post v0 v1 v2 g1 g2 n) v3 D := hw
    unfold X9_addStep_l7_b at hw
    refine j_iload_n C dX9_addStep_7 rfl 3 rfl ?_
    refine j_if_le (tgt := 55) C dX9_addStep_8 (by decide) (fun hc => ?_) (fun hc => ?_)
    · have hw := hw.1 hc
      exact J.sub (X9_addStep_j55_ok C K ho_v0 hr_g1 ho_g1 hr_g2 ho_g2 v3 D hw) [0, 1, 2, 3] rfl
    · have hw := hw.2 hc
      refine j_aload_n C dX9_addStep_11 rfl 0 rfl ?_
      refine gf_9_13 C ho_v0 hr_g2 k_777 dX9_addStep_12 ?_
      refine j_iconst (v := 3) C dX9_addStep_15 (by decide) ?_
      refine j_iload_n C dX9_addStep_16 rfl 1 rfl ?_
      refine j_imul C dX9_addStep_17 ?_
      refine j_iload_n C dX9_addStep_18 rfl 3 rfl ?_
      refine j_iadd C dX9_addStep_19 ?_
      refine j_iconst (v := 1) C dX9_addStep_20 (by decide) ?_
      refine j_isub C dX9_addStep_21 ?_
      obtain ⟨hi1, hw⟩ := hw
      refine j_iald C ho_g2 hi1 dX9_addStep_22 ?_
      refine j_iload_n C dX9_addStep_23 rfl 2 rfl ?_
      refine j_icmp_le (tgt := 55) C dX9_addStep_24 (by decide) (fun hc => ?_) (fun hc => ?_)
      · have hw := hw.1 hc
        exact J.sub (X9_addStep_j55_ok C K ho_v0 hr_g1 ho_g1 hr_g2 ho_g2 v3 D hw) [0, 1, 2, 3] rfl
      · have hw := hw.2 hc
        refine j_aload_n C dX9_addStep_27 rfl 0 rfl ?_
        refine gf_9_13 C ho_v0 hr_g2 k_777 dX9_addStep_28 ?_
        refine j_iconst (v := 3) C dX9_addStep_31 (by decide) ?_
        refine j_iload_n C dX9_addStep_32 rfl 1 rfl ?_
        refine j_imul C dX9_addStep_33 ?_
        refine j_iload_n C dX9_addStep_34 rfl 3 rfl ?_
        refine j_iadd C dX9_addStep_35 ?_
        refine j_aload_n C dX9_addStep_36 rfl 0 rfl ?_
        refine gf_9_13 C ho_v0 hr_g2 k_777 dX9_addStep_37 ?_
        refine j_iconst (v := 3) C dX9_addStep_40 (by decide) ?_
        refine j_iload_n C dX9_addStep_41 rfl 1 rfl ?_
        refine j_imul C dX9_addStep_42 ?_
        refine j_iload_n C dX9_addStep_43 rfl 3 rfl ?_
        refine j_iadd C dX9_addStep_44 ?_
        refine j_iconst (v := 1) C dX9_addStep_45 (by decide) ?_
        refine j_isub C dX9_addStep_46 ?_
        obtain ⟨hi2, hw⟩ := hw
        refine j_iald C ho_g2 hi2 dX9_addStep_47 ?_
        obtain ⟨hi3, hw⟩ := hw
        refine j_iast C ho_g2 hi3 dX9_addStep_48 ?_
        refine j_iinc (v := v3 + (-1)) C dX9_addStep_49 3 rfl rfl (by decide) rfl ?_
        refine j_goto (tgt := 7) C dX9_addStep_52 (by decide) ?_
        exact J.sub (ih (v3 + (-1)) (dI D g2 ((3 * v1) + v3).toNatClampNeg (D.1 g2 (((3 * v1) + v3) - 1).toNatClampNeg)) hw) [1, 2, 3, 0] rfl
def X9_addStep_wp (G : Shp) (D : Dat) (v0 : Nat) (v1 : Int32) (v2 : Int32) (post : Dat → Prop) : Prop := isO G v0 9 ∧ ∃ g1, G.2.2.2 v0 12 = some g1 ∧ isO G g1 11 ∧ ∃ g2, G.2.2.2 v0 13 = some g2 ∧ isO G g2 11 ∧ (vp_in v1 (G.2.2.1 g1) ∧ ∃ n, X9_addStep_l7 G post v0 v1 v2 g1 g2 n (D.1 g1 v1.toNatClampNeg) D)
set_option maxRecDepth 100000 in
set_option maxHeartbeats 4000000 in
theorem X9_addStep_ok (l : Launch) (G : Shp) (D : Dat) (v0 : Nat) (v1 : Int32) (v2 : Int32) (post : Dat → Prop) (hw : X9_addStep_wp G D v0 v1 v2 post) : CtV l yX9_addStep cX9_addStep 4 (rmN 0) [.ref v0, .int v1, .int v2] G D post := by
  obtain ⟨ho_v0, g1, hr_g1, ho_g1, g2, hr_g2, ho_g2, hw⟩ := hw
  refine ctV_of (by decide) rfl (Nat.le_of_ble_eq_true rfl) ?_
  intro κ hκ C K
  subst hκ
  have C : Cx κ cX9_addStep RX9 (rmN 0) 4 := C
  refine j_aload_n C dX9_addStep_0 rfl 0 rfl ?_
  refine gf_9_12 C ho_v0 hr_g1 k_776 dX9_addStep_1 ?_
  refine j_iload_n C dX9_addStep_4 rfl 1 rfl ?_
  obtain ⟨hi1, hw⟩ := hw
  refine j_iald C ho_g1 hi1 dX9_addStep_5 ?_
  refine j_istore_n C dX9_addStep_6 rfl (by decide) rfl ?_
  obtain ⟨n, hw⟩ := hw
  exact J.sub (X9_addStep_l7_ok C K ho_v0 hr_g1 ho_g1 hr_g2 ho_g2 n (D.1 g1 v1.toNatClampNeg) D hw) [1, 2, 3, 0] rfl
/-! X9_divideShort -/
def X9_divideShort_j117 (G : Shp) (post : Dat → Prop) (v0 : Nat) (v1 : Int32) (g1 : Nat) (g2 : Nat) (s0 : Int32) (s1 : Nat) (D : Dat) : Prop := (isO G s1 9 ∧ post (dI D s1 6 s0))
set_option maxRecDepth 100000 in
set_option maxHeartbeats 4000000 in
theorem X9_divideShort_j117_ok {κ : Ctx} {G : Shp} {post : Dat → Prop} {v0 : Nat} {v1 : Int32} {g1 : Nat} {g2 : Nat} (C : Cx κ cX9_divideShort RX9 (rmN 0) 7) (K : RtV κ cX9_divideShort G post) (ho_v0 : isO G v0 9) (hr_g1 : G.2.2.2 v0 3 = some g1) (ho_g1 : isO G g1 11) (hr_g2 : G.2.2.2 v0 5 = some g2) (ho_g2 : isO G g2 11) (s0 : Int32) (s1 : Nat) (D : Dat) (hw : X9_divideShort_j117 G post v0 v1 g1 g2 s0 s1 D) : J κ 0 0 G D 117 [] [.int s0, .ref s1] := by
  unfold X9_divideShort_j117 at hw
  obtain ⟨ho1, hw⟩ := hw
  refine pf_9_6 C ho1 k_770 dX9_divideShort_117 ?_
  exact K _ _ _ dX9_divideShort_120 hw
def X9_divideShort_j97 (G : Shp) (post : Dat → Prop) (v0 : Nat) (v1 : Int32) (g1 : Nat) (g2 : Nat) (v2 : Int64) (D : Dat) : Prop := (vp_in 0 (G.2.2.1 g1) ∧ ((¬ v2 = 0 → X9_divideShort_j117 G post v0 v1 g1 g2 1 v0 (dI D g1 (0 : Int32).toNatClampNeg v2.toInt32)) ∧ (v2 = 0 → X9_divideShort_j117 G post v0 v1 g1 g2 0 v0 (dI D g1 (0 : Int32).toNatClampNeg v2.toInt32))))
set_option maxRecDepth 100000 in
set_option maxHeartbeats 4000000 in
theorem X9_divideShort_j97_ok {κ : Ctx} {G : Shp} {post : Dat → Prop} {v0 : Nat} {v1 : Int32} {g1 : Nat} {g2 : Nat} (C : Cx κ cX9_divideShort RX9 (rmN 0) 7) (K : RtV κ cX9_divideShort G post) (ho_v0 : isO G v0 9) (hr_g1 : G.2.2.2 v0 3 = some g1) (ho_g1 : isO G g1 11) (hr_g2 : G.2.2.2 v0 5 = some g2) (ho_g2 : isO G g2 11) (v2 : Int64) (D : Dat) (hw : X9_divideShort_j97 G post v0 v1 g1 g2 v2 D) : J κ 0 0 G D 97 [(0, .ref v0), (2, .long v2)] [] := by
  unfold X9_divideShort_j97 at hw
  refine j_aload_n C dX9_divideShort_97 rfl 0 rfl ?_
  refine gf_9_3 C ho_v0 hr_g1 k_767 dX9_divideShort_98 ?_
  refine j_iconst (v := 0) C dX9_divideShort_101 (by decide) ?_
  refine j_lload_n C dX9_divideShort_102 rfl 1 rfl ?_
  refine j_l2i C dX9_divideShort_103 ?_
  obtain ⟨hi1, hw⟩ := hw
  refine j_iast C ho_g1 hi1 dX9_divideShort_104 ?_
  refine j_aload_n C dX9_divideShort_105 rfl 0 rfl ?_
  refine j_lload_n C dX9_divideShort_106 rfl 1 rfl ?_
  refine j_lconst (v := 0) C dX9_divideShort_107 (by decide) ?_
  refine j_lcmp_ne (tgt := 116) C dX9_divideShort_108 dX9_divideShort_109 (by decide) (fun hc => ?_) (fun hc => ?_)
  · have hw := hw.1 hc
    refine j_iconst (v := 1) C dX9_divideShort_116 (by decide) ?_
    exact J.sub (X9_divideShort_j117_ok C K ho_v0 hr_g1 ho_g1 hr_g2 ho_g2 1 v0 (dI D g1 (0 : Int32).toNatClampNeg v2.toInt32) hw) [] rfl
  · have hw := hw.2 hc
    refine j_iconst (v := 0) C dX9_divideShort_112 (by decide) ?_
    refine j_goto (tgt := 117) C dX9_divideShort_113 (by decide) ?_
    exact J.sub (X9_divideShort_j117_ok C K ho_v0 hr_g1 ho_g1 hr_g2 ho_g2 0 v0 (dI D g1 (0 : Int32).toNatClampNeg v2.toInt32) hw) [] rfl
def X9_divideShort_l63_b (G : Shp) (post : Dat → Prop) (v0 : Nat) (v1 : Int32) (g1 : Nat) (g2 : Nat) (rec : Int64 → Dat → Prop) (v2 : Int64) (D : Dat) : Prop := (((D.1 v0 7) ≤ 0 → X9_divideShort_j97 G post v0 v1 g1 g2 v2 D) ∧ (¬ ((D.1 v0 7) ≤ 0) → (vp_in ((D.1 v0 7) - 1) (G.2.2.1 g2) ∧ ((¬ (D.1 g2 ((D.1 v0 7) - 1).toNatClampNeg) = 0 → X9_divideShort_j97 G post v0 v1 g1 g2 v2 D) ∧ ((D.1 g2 ((D.1 v0 7) - 1).toNatClampNeg) = 0 → rec v2 (dI D v0 7 ((D.1 v0 7) - 1)))))))
def X9_divideShort_l63 (G : Shp) (post : Dat → Prop) (v0 : Nat) (v1 : Int32) (g1 : Nat) (g2 : Nat) : Nat → Int64 → Dat → Prop
  | 0 => fun _ _ => False
  | n + 1 => X9_divideShort_l63_b G post v0 v1 g1 g2 (X9_divideShort_l63 G post v0 v1 g1 g2 n)
set_option maxRecDepth 100000 in
set_option maxHeartbeats 4000000 in
theorem X9_divideShort_l63_ok {κ : Ctx} {G : Shp} {post : Dat → Prop} {v0 : Nat} {v1 : Int32} {g1 : Nat} {g2 : Nat} (C : Cx κ cX9_divideShort RX9 (rmN 0) 7) (K : RtV κ cX9_divideShort G post) (ho_v0 : isO G v0 9) (hr_g1 : G.2.2.2 v0 3 = some g1) (ho_g1 : isO G g1 11) (hr_g2 : G.2.2.2 v0 5 = some g2) (ho_g2 : isO G g2 11) : ∀ (n : Nat) (v2 : Int64) (D : Dat), X9_divideShort_l63 G post v0 v1 g1 g2 n v2 D → J κ 0 0 G D 63 [(0, .ref v0), (2, .long v2)] [] := by
  intro n
  induction n with
  | zero => intro v2 D hw; exact hw.elim
  | succ n ih =>
    intro v2 D hw
    have hw : X9_divideShort_l63_b G post v0 v1 g1 g2 (X9_divideShort_l63 G post v0 v1 g1 g2 n) v2 D := hw
    unfold X9_divideShort_l63_b at hw
    refine j_aload_n C dX9_divideShort_63 rfl 0 rfl ?_
    refine gf_9_7 C ho_v0 k_771 dX9_divideShort_64 ?_
    refine j_if_le (tgt := 97) C dX9_divideShort_67 (by decide) (fun hc => ?_) (fun hc => ?_)
    · have hw := hw.1 hc
      exact J.sub (X9_divideShort_j97_ok C K ho_v0 hr_g1 ho_g1 hr_g2 ho_g2 v2 D hw) [0, 1] rfl
    · have hw := hw.2 hc
      refine j_aload_n C dX9_divideShort_70 rfl 0 rfl ?_
      refine gf_9_5 C ho_v0 hr_g2 k_769 dX9_divideShort_71 ?_
      refine j_aload_n C dX9_divideShort_74 rfl 0 rfl ?_
      refine gf_9_7 C ho_v0 k_771 dX9_divideShort_75 ?_
      refine j_iconst (v := 1) C dX9_divideShort_78 (by decide) ?_
      refine j_isub C dX9_divideShort_79 ?_
      obtain ⟨hi1, hw⟩ := hw
      refine j_iald C ho_g2 hi1 dX9_divideShort_80 ?_
      refine j_if_ne (tgt := 97) C dX9_divideShort_81 (by decide) (fun hc => ?_) (fun hc => ?_)
      · have hw := hw.1 hc
        exact J.sub (X9_divideShort_j97_ok C K ho_v0 hr_g1 ho_g1 hr_g2 ho_g2 v2 D hw) [0, 1] rfl
      · have hw := hw.2 hc
        refine j_aload_n C dX9_divideShort_84 rfl 0 rfl ?_
        refine j_dup C dX9_divideShort_85 rfl ?_
        refine gf_9_7 C ho_v0 k_771 dX9_divideShort_86 ?_
        refine j_iconst (v := 1) C dX9_divideShort_89 (by decide) ?_
        refine j_isub C dX9_divideShort_90 ?_
        refine pf_9_7 C ho_v0 k_771 dX9_divideShort_91 ?_
        refine j_goto (tgt := 63) C dX9_divideShort_94 (by decide) ?_
        exact J.sub (ih v2 (dI D v0 7 ((D.1 v0 7) - 1)) hw) [0, 1] rfl
def X9_divideShort_l10_b (G : Shp) (post : Dat → Prop) (v0 : Nat) (v1 : Int32) (g1 : Nat) (g2 : Nat) (rec : Int64 → Int32 → Dat → Prop) (v2 : Int64) (v4 : Int32) (D : Dat) : Prop := ((v4 < 0 → ∃ n, X9_divideShort_l63 G post v0 v1 g1 g2 n v2 (dI D v0 7 (D.1 v0 6))) ∧ (¬ (v4 < 0) → (vp_in v4 (G.2.2.1 g1) ∧ ¬ v1.toInt64 = 0 ∧ vp_in v4 (G.2.2.1 g2) ∧ ¬ v1.toInt64 = 0 ∧ rec (((v2 <<< ((30 : Int32).toInt64 &&& 63)) ||| ((D.1 g1 v4.toNatClampNeg).toInt64)) - ((v2 <<< ((30 : Int32).toInt64 &&& 63)) ||| ((D.1 g1 v4.toNatClampNeg).toInt64)) / v1.toInt64 * v1.toInt64) (v4 + (-1)) (dI D g2 v4.toNatClampNeg ((((v2 <<< ((30 : Int32).toInt64 &&& 63)) ||| ((D.1 g1 v4.toNatClampNeg).toInt64)) / v1.toInt64).toInt32)))))
def X9_divideShort_l10 (G : Shp) (post : Dat → Prop) (v0 : Nat) (v1 : Int32) (g1 : Nat) (g2 : Nat) : Nat → Int64 → Int32 → Dat → Prop
  | 0 => fun _ _ _ => False
  | n + 1 => X9_divideShort_l10_b G post v0 v1 g1 g2 (X9_divideShort_l10 G post v0 v1 g1 g2 n)
set_option maxRecDepth 100000 in
set_option maxHeartbeats 4000000 in
theorem X9_divideShort_l10_ok {κ : Ctx} {G : Shp} {post : Dat → Prop} {v0 : Nat} {v1 : Int32} {g1 : Nat} {g2 : Nat} (C : Cx κ cX9_divideShort RX9 (rmN 0) 7) (K : RtV κ cX9_divideShort G post) (ho_v0 : isO G v0 9) (hr_g1 : G.2.2.2 v0 3 = some g1) (ho_g1 : isO G g1 11) (hr_g2 : G.2.2.2 v0 5 = some g2) (ho_g2 : isO G g2 11) : ∀ (n : Nat) (v2 : Int64) (v4 : Int32) (D : Dat), X9_divideShort_l10 G post v0 v1 g1 g2 n v2 v4 D → J κ 0 0 G D 10 [(0, .ref v0), (1, .int v1), (2, .long v2), (4, .int v4)] [] := by
  intro n
  induction n with
  | zero => intro v2 v4 D hw; exact hw.elim
  | succ n ih =>
    intro v2 v4 D hw
    have hw : X9_divideShort_l10_b G post v0 v1 g1 g2 (X9_divideShort_l10 G post v0 v1 g1 g2 n) v2 v4 D := hw
    unfold X9_divideShort_l10_b at hw
    refine j_iload C dX9_divideShort_10 3 rfl ?_
    refine j_if_lt (tgt := 55) C dX9_divideShort_12 (by decide) (fun hc => ?_) (fun hc => ?_)
    · have hw := hw.1 hc
      refine j_aload_n C dX9_divideShort_55 rfl 0 rfl ?_
      refine j_aload_n C dX9_divideShort_56 rfl 0 rfl ?_
      refine gf_9_6 C ho_v0 k_770 dX9_divideShort_57 ?_
      refine pf_9_7 C ho_v0 k_771 dX9_divideShort_60 ?_
      obtain ⟨n, hw⟩ := hw
      exact J.sub (X9_divideShort_l63_ok C K ho_v0 hr_g1 ho_g1 hr_g2 ho_g2 n v2 (dI D v0 7 (D.1 v0 6)) hw) [0, 2] rfl
    · have hw := hw.2 hc
      refine j_lload_n C dX9_divideShort_15 rfl 2 rfl ?_
      refine j_bipush (v := 30) C dX9_divideShort_16 (by decide) ?_
      refine j_lshl C dX9_divideShort_18 ?_
      refine j_aload_n C dX9_divideShort_19 rfl 0 rfl ?_
      refine gf_9_3 C ho_v0 hr_g1 k_767 dX9_divideShort_20 ?_
      refine j_iload C dX9_divideShort_23 3 rfl ?_
      obtain ⟨hi1, hw⟩ := hw
      refine j_iald C ho_g1 hi1 dX9_divideShort_25 ?_
      refine j_i2l C dX9_divideShort_26 ?_
      refine j_lor C dX9_divideShort_27 ?_
      refine j_lstore C dX9_divideShort_28 (by decide) rfl ?_
      refine j_aload_n C dX9_divideShort_30 rfl 1 rfl ?_
      refine gf_9_5 C ho_v0 hr_g2 k_769 dX9_divideShort_31 ?_
      refine j_iload C dX9_divideShort_34 4 rfl ?_
      refine j_lload C dX9_divideShort_36 0 rfl ?_
      refine j_iload_n C dX9_divideShort_38 rfl 2 rfl ?_
      refine j_i2l C dX9_divideShort_39 ?_
      obtain ⟨hz2, hw⟩ := hw
      refine j_ldiv C dX9_divideShort_40 hz2 ?_
      refine j_l2i C dX9_divideShort_41 ?_
      obtain ⟨hi3, hw⟩ := hw
      refine j_iast C ho_g2 hi3 dX9_divideShort_42 ?_
      refine j_lload C dX9_divideShort_43 0 rfl ?_
      refine j_iload_n C dX9_divideShort_45 rfl 2 rfl ?_
      refine j_i2l C dX9_divideShort_46 ?_
      obtain ⟨hz4, hw⟩ := hw
      refine j_lrem C dX9_divideShort_47 hz4 ?_
      refine j_lstore_n C dX9_divideShort_48 rfl (by decide) rfl ?_
      refine j_iinc (v := v4 + (-1)) C dX9_divideShort_49 4 rfl rfl (by decide) rfl ?_
      refine j_goto (tgt := 10) C dX9_divideShort_52 (by decide) ?_
      exact J.sub (ih (((v2 <<< ((30 : Int32).toInt64 &&& 63)) ||| ((D.1 g1 v4.toNatClampNeg).toInt64)) - ((v2 <<< ((30 : Int32).toInt64 &&& 63)) ||| ((D.1 g1 v4.toNatClampNeg).toInt64)) / v1.toInt64 * v1.toInt64) (v4 + (-1)) (dI D g2 v4.toNatClampNeg ((((v2 <<< ((30 : Int32).toInt64 &&& 63)) ||| ((D.1 g1 v4.toNatClampNeg).toInt64)) / v1.toInt64).toInt32)) hw) [3, 4, 1, 0] rfl
def X9_divideShort_wp (G : Shp) (D : Dat) (v0 : Nat) (v1 : Int32) (post : Dat → Prop) : Prop := isO G v0 9 ∧ ∃ g1, G.2.2.2 v0 3 = some g1 ∧ isO G g1 11 ∧ ∃ g2, G.2.2.2 v0 5 = some g2 ∧ isO G g2 11 ∧ ∃ n, X9_divideShort_l10 G post v0 v1 g1 g2 n 0 ((D.1 v0 6) - 1) D
set_option maxRecDepth 100000 in
set_option maxHeartbeats 4000000 in
theorem X9_divideShort_ok (l : Launch) (G : Shp) (D : Dat) (v0 : Nat) (v1 : Int32) (post : Dat → Prop) (hw : X9_divideShort_wp G D v0 v1 post) : CtV l yX9_divideShort cX9_divideShort 7 (rmN 0) [.ref v0, .int v1] G D post := by
  obtain ⟨ho_v0, g1, hr_g1, ho_g1, g2, hr_g2, ho_g2, hw⟩ := hw
  refine ctV_of (by decide) rfl (Nat.le_of_ble_eq_true rfl) ?_
  intro κ hκ C K
  subst hκ
  have C : Cx κ cX9_divideShort RX9 (rmN 0) 7 := C
  refine j_lconst (v := 0) C dX9_divideShort_0 (by decide) ?_
  refine j_lstore_n C dX9_divideShort_1 rfl (by decide) rfl ?_
  refine j_aload_n C dX9_divideShort_2 rfl 1 rfl ?_
  refine gf_9_6 C ho_v0 k_770 dX9_divideShort_3 ?_
  refine j_iconst (v := 1) C dX9_divideShort_6 (by decide) ?_
  refine j_isub C dX9_divideShort_7 ?_
  refine j_istore C dX9_divideShort_8 (by decide) rfl ?_
  obtain ⟨n, hw⟩ := hw
  exact J.sub (X9_divideShort_l10_ok C K ho_v0 hr_g1 ho_g1 hr_g2 ho_g2 n 0 ((D.1 v0 6) - 1) D hw) [2, 3, 1, 0] rfl
/-! X9_done -/
def X9_done_j43 (G : Shp) (post : Int32 → Dat → Prop) (v0 : Nat) (v1 : Int32) (v2 : Int32) (v3 : Int32) (g1 : Nat) (v4 : Int32) (s0 : Int32) (s1 : Int32) (s2 : Nat) (D : Dat) : Prop := (isO G s2 11 ∧ vp_in s1 (G.2.2.1 s2) ∧ post v1 (dI (dI D s2 s1.toNatClampNeg s0) v0 2 ((v1 + v4) + 1)))
set_option maxRecDepth 100000 in
set_option maxHeartbeats 4000000 in
theorem X9_done_j43_ok {κ : Ctx} {G : Shp} {post : Int32 → Dat → Prop} {v0 : Nat} {v1 : Int32} {v2 : Int32} {v3 : Int32} {g1 : Nat} (C : Cx κ cX9_done RX9 (rmN 0) 5) (K : RtI κ cX9_done .int G post) (ho_v0 : isO G v0 9) (hr_g1 : G.2.2.2 v0 1 = some g1) (ho_g1 : isO G g1 11) (v4 : Int32) (s0 : Int32) (s1 : Int32) (s2 : Nat) (D : Dat) (hw : X9_done_j43 G post v0 v1 v2 v3 g1 v4 s0 s1 s2 D) : J κ 0 0 G D 43 [(0, .ref v0), (1, .int v1), (4, .int v4)] [.int s0, .int s1, .ref s2] := by
  unfold X9_done_j43 at hw
  obtain ⟨ho1, hw⟩ := hw
  obtain ⟨hi2, hw⟩ := hw
  refine j_iast C ho1 hi2 dX9_done_43 ?_
  refine j_aload_n C dX9_done_44 rfl 0 rfl ?_
  refine j_iload_n C dX9_done_45 rfl 1 rfl ?_
  refine j_iload C dX9_done_46 2 rfl ?_
  refine j_iadd C dX9_done_48 ?_
  refine j_iconst (v := 1) C dX9_done_49 (by decide) ?_
  refine j_iadd C dX9_done_50 ?_
  refine pf_9_2 C ho_v0 k_766 dX9_done_51 ?_
  refine j_iload_n C dX9_done_54 rfl 1 rfl ?_
  exact K _ _ _ _ dX9_done_55 rfl hw
def X9_done_j26 (G : Shp) (post : Int32 → Dat → Prop) (v0 : Nat) (v1 : Int32) (v2 : Int32) (v3 : Int32) (g1 : Nat) (v4 : Int32) (D : Dat) : Prop := ((v3 = 0 → X9_done_j43 G post v0 v1 v2 v3 g1 v4 v4 v1 g1 D) ∧ (¬ (v3 = 0) → X9_done_j43 G post v0 v1 v2 v3 g1 v4 (-v4) v1 g1 D))
set_option maxRecDepth 100000 in
set_option maxHeartbeats 4000000 in
theorem X9_done_j26_ok {κ : Ctx} {G : Shp} {post : Int32 → Dat → Prop} {v0 : Nat} {v1 : Int32} {v2 : Int32} {v3 : Int32} {g1 : Nat} (C : Cx κ cX9_done RX9 (rmN 0) 5) (K : RtI κ cX9_done .int G post) (ho_v0 : isO G v0 9) (hr_g1 : G.2.2.2 v0 1 = some g1) (ho_g1 : isO G g1 11) (v4 : Int32) (D : Dat) (hw : X9_done_j26 G post v0 v1 v2 v3 g1 v4 D) : J κ 0 0 G D 26 [(0, .ref v0), (1, .int v1), (3, .int v3), (4, .int v4)] [] := by
  unfold X9_done_j26 at hw
  refine j_aload_n C dX9_done_26 rfl 0 rfl ?_
  refine gf_9_1 C ho_v0 hr_g1 k_765 dX9_done_27 ?_
  refine j_iload_n C dX9_done_30 rfl 1 rfl ?_
  refine j_iload_n C dX9_done_31 rfl 2 rfl ?_
  refine j_if_eq (tgt := 41) C dX9_done_32 (by decide) (fun hc => ?_) (fun hc => ?_)
  · have hw := hw.1 hc
    refine j_iload C dX9_done_41 3 rfl ?_
    exact J.sub (X9_done_j43_ok C K ho_v0 hr_g1 ho_g1 v4 v4 v1 g1 D hw) [0, 1, 3] rfl
  · have hw := hw.2 hc
    refine j_iload C dX9_done_35 3 rfl ?_
    refine j_ineg C dX9_done_37 ?_
    refine j_goto (tgt := 43) C dX9_done_38 (by decide) ?_
    exact J.sub (X9_done_j43_ok C K ho_v0 hr_g1 ho_g1 v4 (-v4) v1 g1 D hw) [0, 1, 3] rfl
def X9_done_l3_b (G : Shp) (post : Int32 → Dat → Prop) (v0 : Nat) (v1 : Int32) (v2 : Int32) (v3 : Int32) (g1 : Nat) (rec : Int32 → Dat → Prop) (v4 : Int32) (D : Dat) : Prop := ((v4 ≤ 0 → X9_done_j26 G post v0 v1 v2 v3 g1 v4 D) ∧ (¬ (v4 ≤ 0) → (vp_in (v1 + v4) (G.2.2.1 g1) ∧ ((¬ (D.1 g1 (v1 + v4).toNatClampNeg) = 0 → X9_done_j26 G post v0 v1 v2 v3 g1 v4 D) ∧ ((D.1 g1 (v1 + v4).toNatClampNeg) = 0 → rec (v4 + (-1)) D)))))
def X9_done_l3 (G : Shp) (post : Int32 → Dat → Prop) (v0 : Nat) (v1 : Int32) (v2 : Int32) (v3 : Int32) (g1 : Nat) : Nat → Int32 → Dat → Prop
  | 0 => fun _ _ => False
  | n + 1 => X9_done_l3_b G post v0 v1 v2 v3 g1 (X9_done_l3 G post v0 v1 v2 v3 g1 n)
set_option maxRecDepth 100000 in
set_option maxHeartbeats 4000000 in
theorem X9_done_l3_ok {κ : Ctx} {G : Shp} {post : Int32 → Dat → Prop} {v0 : Nat} {v1 : Int32} {v2 : Int32} {v3 : Int32} {g1 : Nat} (C : Cx κ cX9_done RX9 (rmN 0) 5) (K : RtI κ cX9_done .int G post) (ho_v0 : isO G v0 9) (hr_g1 : G.2.2.2 v0 1 = some g1) (ho_g1 : isO G g1 11) : ∀ (n : Nat) (v4 : Int32) (D : Dat), X9_done_l3 G post v0 v1 v2 v3 g1 n v4 D → J κ 0 0 G D 3 [(0, .ref v0), (1, .int v1), (3, .int v3), (4, .int v4)] [] := by
  intro n
  induction n with
  | zero => intro v4 D hw; exact hw.elim
  | succ n ih =>
    intro v4 D hw
    have hw : X9_done_l3_b G post v0 v1 v2 v3 g1 (X9_done_l3 G post v0 v1 v2 v3 g1 n) v4 D := hw
    unfold X9_done_l3_b at hw
    refine j_iload C dX9_done_3 3 rfl ?_
    refine j_if_le (tgt := 26) C dX9_done_5 (by decide) (fun hc => ?_) (fun hc => ?_)
    · have hw := hw.1 hc
      exact J.sub (X9_done_j26_ok C K ho_v0 hr_g1 ho_g1 v4 D hw) [0, 1, 2, 3] rfl
    · have hw := hw.2 hc
      refine j_aload_n C dX9_done_8 rfl 0 rfl ?_
      refine gf_9_1 C ho_v0 hr_g1 k_765 dX9_done_9 ?_
      refine j_iload_n C dX9_done_12 rfl 1 rfl ?_
      refine j_iload C dX9_done_13 3 rfl ?_
      refine j_iadd C dX9_done_15 ?_
      obtain ⟨hi1, hw⟩ := hw
      refine j_iald C ho_g1 hi1 dX9_done_16 ?_
      refine j_if_ne (tgt := 26) C dX9_done_17 (by decide) (fun hc => ?_) (fun hc => ?_)
      · have hw := hw.1 hc
        exact J.sub (X9_done_j26_ok C K ho_v0 hr_g1 ho_g1 v4 D hw) [0, 1, 2, 3] rfl
      · have hw := hw.2 hc
        refine j_iinc (v := v4 + (-1)) C dX9_done_20 3 rfl rfl (by decide) rfl ?_
        refine j_goto (tgt := 3) C dX9_done_23 (by decide) ?_
        exact J.sub (ih (v4 + (-1)) D hw) [1, 2, 3, 0] rfl
def X9_done_wp (G : Shp) (D : Dat) (v0 : Nat) (v1 : Int32) (v2 : Int32) (v3 : Int32) (post : Int32 → Dat → Prop) : Prop := isO G v0 9 ∧ ∃ g1, G.2.2.2 v0 1 = some g1 ∧ isO G g1 11 ∧ ∃ n, X9_done_l3 G post v0 v1 v2 v3 g1 n v2 D
set_option maxRecDepth 100000 in
set_option maxHeartbeats 4000000 in
theorem X9_done_ok (l : Launch) (G : Shp) (D : Dat) (v0 : Nat) (v1 : Int32) (v2 : Int32) (v3 : Int32) (post : Int32 → Dat → Prop) (hw : X9_done_wp G D v0 v1 v2 v3 post) : CtI l yX9_done cX9_done 5 .int (rmN 0) [.ref v0, .int v1, .int v2, .int v3] G D post := by
  obtain ⟨ho_v0, g1, hr_g1, ho_g1, hw⟩ := hw
  refine ctI_of (by decide) rfl (Nat.le_of_ble_eq_true rfl) ?_
  intro κ hκ C K
  subst hκ
  have C : Cx κ cX9_done RX9 (rmN 0) 5 := C
  refine j_iload_n C dX9_done_0 rfl 2 rfl ?_
  refine j_istore C dX9_done_1 (by decide) rfl ?_
  obtain ⟨n, hw⟩ := hw
  exact J.sub (X9_done_l3_ok C K ho_v0 hr_g1 ho_g1 n v2 D hw) [1, 2, 4, 0] rfl
/-! X9_findStep -/
def X9_findStep_l2_b (G : Shp) (post : Int32 → Dat → Prop) (v0 : Nat) (v1 : Int32) (v2 : Int32) (g1 : Nat) (g2 : Nat) (rec : Int32 → Dat → Prop) (v3 : Int32) (D : Dat) : Prop := (vp_in v1 (G.2.2.1 g1) ∧ (((D.1 g1 v1.toNatClampNeg) ≤ v3 → post (-1) D) ∧ (¬ ((D.1 g1 v1.toNatClampNeg) ≤ v3) → (vp_in ((3 * v1) + v3) (G.2.2.1 g2) ∧ ((¬ (D.1 g2 ((3 * v1) + v3).toNatClampNeg) = v2 → rec (v3 + 1) D) ∧ ((D.1 g2 ((3 * v1) + v3).toNatClampNeg) = v2 → post v3 D))))))
def X9_findStep_l2 (G : Shp) (post : Int32 → Dat → Prop) (v0 : Nat) (v1 : Int32) (v2 : Int32) (g1 : Nat) (g2 : Nat) : Nat → Int32 → Dat → Prop
  | 0 => fun _ _ => False
  | n + 1 => X9_findStep_l2_b G post v0 v1 v2 g1 g2 (X9_findStep_l2 G post v0 v1 v2 g1 g2 n)
set_option maxRecDepth 100000 in
set_option maxHeartbeats 4000000 in
theorem X9_findStep_l2_ok {κ : Ctx} {G : Shp} {post : Int32 → Dat → Prop} {v0 : Nat} {v1 : Int32} {v2 : Int32} {g1 : Nat} {g2 : Nat} (C : Cx κ cX9_findStep RX9 (rmN 0) 4) (K : RtI κ cX9_findStep .int G post) (ho_v0 : isO G v0 9) (hr_g1 : G.2.2.2 v0 12 = some g1) (ho_g1 : isO G g1 11) (hr_g2 : G.2.2.2 v0 13 = some g2) (ho_g2 : isO G g2 11) : ∀ (n : Nat) (v3 : Int32) (D : Dat), X9_findStep_l2 G post v0 v1 v2 g1 g2 n v3 D → J κ 0 0 G D 2 [(0, .ref v0), (1, .int v1), (2, .int v2), (3, .int v3)] [] := by
  intro n
  induction n with
  | zero => intro v3 D hw; exact hw.elim
  | succ n ih =>
    intro v3 D hw
    have hw : X9_findStep_l2_b G post v0 v1 v2 g1 g2 (X9_findStep_l2 G post v0 v1 v2 g1 g2 n) v3 D := hw
    unfold X9_findStep_l2_b at hw
    refine j_iload_n C dX9_findStep_2 rfl 3 rfl ?_
    refine j_aload_n C dX9_findStep_3 rfl 0 rfl ?_
    refine gf_9_12 C ho_v0 hr_g1 k_776 dX9_findStep_4 ?_
    refine j_iload_n C dX9_findStep_7 rfl 1 rfl ?_
    obtain ⟨hi1, hw⟩ := hw
    refine j_iald C ho_g1 hi1 dX9_findStep_8 ?_
    refine j_icmp_ge (tgt := 34) C dX9_findStep_9 (by decide) (fun hc => ?_) (fun hc => ?_)
    · have hw := hw.1 hc
      refine j_iconst (v := (-1)) C dX9_findStep_34 (by decide) ?_
      exact K _ _ _ _ dX9_findStep_35 rfl hw
    · have hw := hw.2 hc
      refine j_aload_n C dX9_findStep_12 rfl 0 rfl ?_
      refine gf_9_13 C ho_v0 hr_g2 k_777 dX9_findStep_13 ?_
      refine j_iconst (v := 3) C dX9_findStep_16 (by decide) ?_
      refine j_iload_n C dX9_findStep_17 rfl 1 rfl ?_
      refine j_imul C dX9_findStep_18 ?_
      refine j_iload_n C dX9_findStep_19 rfl 3 rfl ?_
      refine j_iadd C dX9_findStep_20 ?_
      obtain ⟨hi2, hw⟩ := hw
      refine j_iald C ho_g2 hi2 dX9_findStep_21 ?_
      refine j_iload_n C dX9_findStep_22 rfl 2 rfl ?_
      refine j_icmp_ne (tgt := 28) C dX9_findStep_23 (by decide) (fun hc => ?_) (fun hc => ?_)
      · have hw := hw.1 hc
        refine j_iinc (v := v3 + 1) C dX9_findStep_28 3 rfl rfl (by decide) rfl ?_
        refine j_goto (tgt := 2) C dX9_findStep_31 (by decide) ?_
        exact J.sub (ih (v3 + 1) D hw) [1, 2, 3, 0] rfl
      · have hw := hw.2 hc
        refine j_iload_n C dX9_findStep_26 rfl 3 rfl ?_
        exact K _ _ _ _ dX9_findStep_27 rfl hw
def X9_findStep_wp (G : Shp) (D : Dat) (v0 : Nat) (v1 : Int32) (v2 : Int32) (post : Int32 → Dat → Prop) : Prop := isO G v0 9 ∧ ∃ g1, G.2.2.2 v0 12 = some g1 ∧ isO G g1 11 ∧ ∃ g2, G.2.2.2 v0 13 = some g2 ∧ isO G g2 11 ∧ ∃ n, X9_findStep_l2 G post v0 v1 v2 g1 g2 n 0 D
set_option maxRecDepth 100000 in
set_option maxHeartbeats 4000000 in
theorem X9_findStep_ok (l : Launch) (G : Shp) (D : Dat) (v0 : Nat) (v1 : Int32) (v2 : Int32) (post : Int32 → Dat → Prop) (hw : X9_findStep_wp G D v0 v1 v2 post) : CtI l yX9_findStep cX9_findStep 4 .int (rmN 0) [.ref v0, .int v1, .int v2] G D post := by
  obtain ⟨ho_v0, g1, hr_g1, ho_g1, g2, hr_g2, ho_g2, hw⟩ := hw
  refine ctI_of (by decide) rfl (Nat.le_of_ble_eq_true rfl) ?_
  intro κ hκ C K
  subst hκ
  have C : Cx κ cX9_findStep RX9 (rmN 0) 4 := C
  refine j_iconst (v := 0) C dX9_findStep_0 (by decide) ?_
  refine j_istore_n C dX9_findStep_1 rfl (by decide) rfl ?_
  obtain ⟨n, hw⟩ := hw
  exact J.sub (X9_findStep_l2_ok C K ho_v0 hr_g1 ho_g1 hr_g2 ho_g2 n 0 D hw) [1, 2, 3, 0] rfl
/-! X9_is -/
def X9_is_j14 (G : Shp) (post : Int32 → Dat → Prop) (v0 : Nat) (v1 : Int32) (s0 : Int32) (D : Dat) : Prop := (isB s0 ∧ post s0 D)
set_option maxRecDepth 100000 in
set_option maxHeartbeats 4000000 in
theorem X9_is_j14_ok {κ : Ctx} {G : Shp} {post : Int32 → Dat → Prop} {v0 : Nat} {v1 : Int32} (C : Cx κ cX9_is RX9 (rmN 0) 2) (K : RtI κ cX9_is .boolean G post) (ho_v0 : isO G v0 9) (s0 : Int32) (D : Dat) (hw : X9_is_j14 G post v0 v1 s0 D) : J κ 0 0 G D 14 [] [.int s0] := by
  unfold X9_is_j14 at hw
  obtain ⟨hb1, hw⟩ := hw
  exact K _ _ _ _ dX9_is_14 (isB_n hb1) hw
def X9_is_wp (G : Shp) (D : Dat) (v0 : Nat) (v1 : Int32) (post : Int32 → Dat → Prop) : Prop := isO G v0 9 ∧ ((¬ v1 = 0 → X9_is_j14 G post v0 v1 0 (dI D v0 0 v1)) ∧ (v1 = 0 → X9_is_j14 G post v0 v1 1 (dI D v0 0 v1)))
set_option maxRecDepth 100000 in
set_option maxHeartbeats 4000000 in
theorem X9_is_ok (l : Launch) (G : Shp) (D : Dat) (v0 : Nat) (v1 : Int32) (post : Int32 → Dat → Prop) (hw : X9_is_wp G D v0 v1 post) : CtI l yX9_is cX9_is 2 .boolean (rmN 0) [.ref v0, .int v1] G D post := by
  obtain ⟨ho_v0, hw⟩ := hw
  refine ctI_of (by decide) rfl (Nat.le_of_ble_eq_true rfl) ?_
  intro κ hκ C K
  subst hκ
  have C : Cx κ cX9_is RX9 (rmN 0) 2 := C
  refine j_aload_n C dX9_is_0 rfl 0 rfl ?_
  refine j_iload_n C dX9_is_1 rfl 1 rfl ?_
  refine pf_9_0 C ho_v0 k_764 dX9_is_2 ?_
  refine j_iload_n C dX9_is_5 rfl 1 rfl ?_
  refine j_if_ne (tgt := 13) C dX9_is_6 (by decide) (fun hc => ?_) (fun hc => ?_)
  · have hw := hw.1 hc
    refine j_iconst (v := 0) C dX9_is_13 (by decide) ?_
    exact J.sub (X9_is_j14_ok C K ho_v0 0 (dI D v0 0 v1) hw) [] rfl
  · have hw := hw.2 hc
    refine j_iconst (v := 1) C dX9_is_9 (by decide) ?_
    refine j_goto (tgt := 14) C dX9_is_10 (by decide) ?_
    exact J.sub (X9_is_j14_ok C K ho_v0 1 (dI D v0 0 v1) hw) [] rfl
/-! X9_isFar -/
def X9_isFar_j15 (G : Shp) (post : Int32 → Dat → Prop) (v0 : Int32) (s0 : Int32) (D : Dat) : Prop := (isB s0 ∧ post s0 D)
set_option maxRecDepth 100000 in
set_option maxHeartbeats 4000000 in
theorem X9_isFar_j15_ok {κ : Ctx} {G : Shp} {post : Int32 → Dat → Prop} {v0 : Int32} (C : Cx κ cX9_isFar RX9 (rmN 0) 1) (K : RtI κ cX9_isFar .boolean G post) (s0 : Int32) (D : Dat) (hw : X9_isFar_j15 G post v0 s0 D) : J κ 0 0 G D 15 [] [.int s0] := by
  unfold X9_isFar_j15 at hw
  obtain ⟨hb1, hw⟩ := hw
  exact K _ _ _ _ dX9_isFar_15 (isB_n hb1) hw
def X9_isFar_j14 (G : Shp) (post : Int32 → Dat → Prop) (v0 : Int32) (D : Dat) : Prop := X9_isFar_j15 G post v0 0 D
set_option maxRecDepth 100000 in
set_option maxHeartbeats 4000000 in
theorem X9_isFar_j14_ok {κ : Ctx} {G : Shp} {post : Int32 → Dat → Prop} {v0 : Int32} (C : Cx κ cX9_isFar RX9 (rmN 0) 1) (K : RtI κ cX9_isFar .boolean G post) (D : Dat) (hw : X9_isFar_j14 G post v0 D) : J κ 0 0 G D 14 [] [] := by
  unfold X9_isFar_j14 at hw
  refine j_iconst (v := 0) C dX9_isFar_14 (by decide) ?_
  exact J.sub (X9_isFar_j15_ok C K 0 D hw) [] rfl
def X9_isFar_wp (G : Shp) (D : Dat) (v0 : Int32) (post : Int32 → Dat → Prop) : Prop := ((v0 < 0 → X9_isFar_j14 G post v0 D) ∧ (¬ (v0 < 0) → ((79 < v0 → X9_isFar_j14 G post v0 D) ∧ (¬ (79 < v0) → X9_isFar_j15 G post v0 1 D))))
set_option maxRecDepth 100000 in
set_option maxHeartbeats 4000000 in
theorem X9_isFar_ok (l : Launch) (G : Shp) (D : Dat) (v0 : Int32) (post : Int32 → Dat → Prop) (hw : X9_isFar_wp G D v0 post) : CtI l yX9_isFar cX9_isFar 1 .boolean (rmN 0) [.int v0] G D post := by
  unfold X9_isFar_wp at hw
  refine ctI_of (by decide) rfl (Nat.le_of_ble_eq_true rfl) ?_
  intro κ hκ C K
  subst hκ
  have C : Cx κ cX9_isFar RX9 (rmN 0) 1 := C
  refine j_iload_n C dX9_isFar_0 rfl 0 rfl ?_
  refine j_if_lt (tgt := 14) C dX9_isFar_1 (by decide) (fun hc => ?_) (fun hc => ?_)
  · have hw := hw.1 hc
    exact J.sub (X9_isFar_j14_ok C K D hw) [] rfl
  · have hw := hw.2 hc
    refine j_iload_n C dX9_isFar_4 rfl 0 rfl ?_
    refine j_bipush (v := 79) C dX9_isFar_5 (by decide) ?_
    refine j_icmp_gt (tgt := 14) C dX9_isFar_7 (by decide) (fun hc => ?_) (fun hc => ?_)
    · have hw := hw.1 hc
      exact J.sub (X9_isFar_j14_ok C K D hw) [] rfl
    · have hw := hw.2 hc
      refine j_iconst (v := 1) C dX9_isFar_10 (by decide) ?_
      refine j_goto (tgt := 15) C dX9_isFar_11 (by decide) ?_
      exact J.sub (X9_isFar_j15_ok C K 1 D hw) [] rfl
/-! X9_isNumber -/
def X9_isNumber_j21 (G : Shp) (post : Int32 → Dat → Prop) (v0 : Int64) (s0 : Int32) (D : Dat) : Prop := (isB s0 ∧ post s0 D)
set_option maxRecDepth 100000 in
set_option maxHeartbeats 4000000 in
theorem X9_isNumber_j21_ok {κ : Ctx} {G : Shp} {post : Int32 → Dat → Prop} {v0 : Int64} (C : Cx κ cX9_isNumber RX9 (rmN 0) 2) (K : RtI κ cX9_isNumber .boolean G post) (s0 : Int32) (D : Dat) (hw : X9_isNumber_j21 G post v0 s0 D) : J κ 0 0 G D 21 [] [.int s0] := by
  unfold X9_isNumber_j21 at hw
  obtain ⟨hb1, hw⟩ := hw
  exact K _ _ _ _ dX9_isNumber_21 (isB_n hb1) hw
def X9_isNumber_j20 (G : Shp) (post : Int32 → Dat → Prop) (v0 : Int64) (D : Dat) : Prop := X9_isNumber_j21 G post v0 0 D
set_option maxRecDepth 100000 in
set_option maxHeartbeats 4000000 in
theorem X9_isNumber_j20_ok {κ : Ctx} {G : Shp} {post : Int32 → Dat → Prop} {v0 : Int64} (C : Cx κ cX9_isNumber RX9 (rmN 0) 2) (K : RtI κ cX9_isNumber .boolean G post) (D : Dat) (hw : X9_isNumber_j20 G post v0 D) : J κ 0 0 G D 20 [] [] := by
  unfold X9_isNumber_j20 at hw
  refine j_iconst (v := 0) C dX9_isNumber_20 (by decide) ?_
  exact J.sub (X9_isNumber_j21_ok C K 0 D hw) [] rfl
def X9_isNumber_wp (G : Shp) (D : Dat) (v0 : Int64) (post : Int32 → Dat → Prop) : Prop := ((v0 < (-10000) → X9_isNumber_j20 G post v0 D) ∧ (¬ (v0 < (-10000)) → ((10000 < v0 → X9_isNumber_j20 G post v0 D) ∧ (¬ (10000 < v0) → X9_isNumber_j21 G post v0 1 D))))
set_option maxRecDepth 100000 in
set_option maxHeartbeats 4000000 in
theorem X9_isNumber_ok (l : Launch) (G : Shp) (D : Dat) (v0 : Int64) (post : Int32 → Dat → Prop) (hw : X9_isNumber_wp G D v0 post) : CtI l yX9_isNumber cX9_isNumber 2 .boolean (rmN 0) [.long v0] G D post := by
  unfold X9_isNumber_wp at hw
  refine ctI_of (by decide) rfl (Nat.le_of_ble_eq_true rfl) ?_
  intro κ hκ C K
  subst hκ
  have C : Cx κ cX9_isNumber RX9 (rmN 0) 2 := C
  refine j_lload_n C dX9_isNumber_0 rfl 0 rfl ?_
  refine j_ldc2 (v := (-10000)) C k_880 dX9_isNumber_1 ?_
  refine j_lcmp_lt (tgt := 20) C dX9_isNumber_4 dX9_isNumber_5 (by decide) (fun hc => ?_) (fun hc => ?_)
  · have hw := hw.1 hc
    exact J.sub (X9_isNumber_j20_ok C K D hw) [] rfl
  · have hw := hw.2 hc
    refine j_lload_n C dX9_isNumber_8 rfl 0 rfl ?_
    refine j_ldc2 (v := 10000) C k_881 dX9_isNumber_9 ?_
    refine j_lcmp_gt (tgt := 20) C dX9_isNumber_12 dX9_isNumber_13 (by decide) (fun hc => ?_) (fun hc => ?_)
    · have hw := hw.1 hc
      exact J.sub (X9_isNumber_j20_ok C K D hw) [] rfl
    · have hw := hw.2 hc
      refine j_iconst (v := 1) C dX9_isNumber_16 (by decide) ?_
      refine j_goto (tgt := 21) C dX9_isNumber_17 (by decide) ?_
      exact J.sub (X9_isNumber_j21_ok C K 1 D hw) [] rfl
/-! X9_isRow -/
def X9_isRow_j14 (G : Shp) (post : Int32 → Dat → Prop) (v0 : Int32) (s0 : Int32) (D : Dat) : Prop := (isB s0 ∧ post s0 D)
set_option maxRecDepth 100000 in
set_option maxHeartbeats 4000000 in
theorem X9_isRow_j14_ok {κ : Ctx} {G : Shp} {post : Int32 → Dat → Prop} {v0 : Int32} (C : Cx κ cX9_isRow RX9 (rmN 0) 1) (K : RtI κ cX9_isRow .boolean G post) (s0 : Int32) (D : Dat) (hw : X9_isRow_j14 G post v0 s0 D) : J κ 0 0 G D 14 [] [.int s0] := by
  unfold X9_isRow_j14 at hw
  obtain ⟨hb1, hw⟩ := hw
  exact K _ _ _ _ dX9_isRow_14 (isB_n hb1) hw
def X9_isRow_j13 (G : Shp) (post : Int32 → Dat → Prop) (v0 : Int32) (D : Dat) : Prop := X9_isRow_j14 G post v0 0 D
set_option maxRecDepth 100000 in
set_option maxHeartbeats 4000000 in
theorem X9_isRow_j13_ok {κ : Ctx} {G : Shp} {post : Int32 → Dat → Prop} {v0 : Int32} (C : Cx κ cX9_isRow RX9 (rmN 0) 1) (K : RtI κ cX9_isRow .boolean G post) (D : Dat) (hw : X9_isRow_j13 G post v0 D) : J κ 0 0 G D 13 [] [] := by
  unfold X9_isRow_j13 at hw
  refine j_iconst (v := 0) C dX9_isRow_13 (by decide) ?_
  exact J.sub (X9_isRow_j14_ok C K 0 D hw) [] rfl
def X9_isRow_wp (G : Shp) (D : Dat) (v0 : Int32) (post : Int32 → Dat → Prop) : Prop := ((v0 < 0 → X9_isRow_j13 G post v0 D) ∧ (¬ (v0 < 0) → ((4 ≤ v0 → X9_isRow_j13 G post v0 D) ∧ (¬ (4 ≤ v0) → X9_isRow_j14 G post v0 1 D))))
set_option maxRecDepth 100000 in
set_option maxHeartbeats 4000000 in
theorem X9_isRow_ok (l : Launch) (G : Shp) (D : Dat) (v0 : Int32) (post : Int32 → Dat → Prop) (hw : X9_isRow_wp G D v0 post) : CtI l yX9_isRow cX9_isRow 1 .boolean (rmN 0) [.int v0] G D post := by
  unfold X9_isRow_wp at hw
  refine ctI_of (by decide) rfl (Nat.le_of_ble_eq_true rfl) ?_
  intro κ hκ C K
  subst hκ
  have C : Cx κ cX9_isRow RX9 (rmN 0) 1 := C
  refine j_iload_n C dX9_isRow_0 rfl 0 rfl ?_
  refine j_if_lt (tgt := 13) C dX9_isRow_1 (by decide) (fun hc => ?_) (fun hc => ?_)
  · have hw := hw.1 hc
    exact J.sub (X9_isRow_j13_ok C K D hw) [] rfl
  · have hw := hw.2 hc
    refine j_iload_n C dX9_isRow_4 rfl 0 rfl ?_
    refine j_iconst (v := 4) C dX9_isRow_5 (by decide) ?_
    refine j_icmp_ge (tgt := 13) C dX9_isRow_6 (by decide) (fun hc => ?_) (fun hc => ?_)
    · have hw := hw.1 hc
      exact J.sub (X9_isRow_j13_ok C K D hw) [] rfl
    · have hw := hw.2 hc
      refine j_iconst (v := 1) C dX9_isRow_9 (by decide) ?_
      refine j_goto (tgt := 14) C dX9_isRow_10 (by decide) ?_
      exact J.sub (X9_isRow_j14_ok C K 1 D hw) [] rfl
/-! X9_isTick -/
def X9_isTick_j15 (G : Shp) (post : Int32 → Dat → Prop) (v0 : Int32) (s0 : Int32) (D : Dat) : Prop := (isB s0 ∧ post s0 D)
set_option maxRecDepth 100000 in
set_option maxHeartbeats 4000000 in
theorem X9_isTick_j15_ok {κ : Ctx} {G : Shp} {post : Int32 → Dat → Prop} {v0 : Int32} (C : Cx κ cX9_isTick RX9 (rmN 0) 1) (K : RtI κ cX9_isTick .boolean G post) (s0 : Int32) (D : Dat) (hw : X9_isTick_j15 G post v0 s0 D) : J κ 0 0 G D 15 [] [.int s0] := by
  unfold X9_isTick_j15 at hw
  obtain ⟨hb1, hw⟩ := hw
  exact K _ _ _ _ dX9_isTick_15 (isB_n hb1) hw
def X9_isTick_j14 (G : Shp) (post : Int32 → Dat → Prop) (v0 : Int32) (D : Dat) : Prop := X9_isTick_j15 G post v0 0 D
set_option maxRecDepth 100000 in
set_option maxHeartbeats 4000000 in
theorem X9_isTick_j14_ok {κ : Ctx} {G : Shp} {post : Int32 → Dat → Prop} {v0 : Int32} (C : Cx κ cX9_isTick RX9 (rmN 0) 1) (K : RtI κ cX9_isTick .boolean G post) (D : Dat) (hw : X9_isTick_j14 G post v0 D) : J κ 0 0 G D 14 [] [] := by
  unfold X9_isTick_j14 at hw
  refine j_iconst (v := 0) C dX9_isTick_14 (by decide) ?_
  exact J.sub (X9_isTick_j15_ok C K 0 D hw) [] rfl
def X9_isTick_wp (G : Shp) (D : Dat) (v0 : Int32) (post : Int32 → Dat → Prop) : Prop := ((v0 < 0 → X9_isTick_j14 G post v0 D) ∧ (¬ (v0 < 0) → ((40 ≤ v0 → X9_isTick_j14 G post v0 D) ∧ (¬ (40 ≤ v0) → X9_isTick_j15 G post v0 1 D))))
set_option maxRecDepth 100000 in
set_option maxHeartbeats 4000000 in
theorem X9_isTick_ok (l : Launch) (G : Shp) (D : Dat) (v0 : Int32) (post : Int32 → Dat → Prop) (hw : X9_isTick_wp G D v0 post) : CtI l yX9_isTick cX9_isTick 1 .boolean (rmN 0) [.int v0] G D post := by
  unfold X9_isTick_wp at hw
  refine ctI_of (by decide) rfl (Nat.le_of_ble_eq_true rfl) ?_
  intro κ hκ C K
  subst hκ
  have C : Cx κ cX9_isTick RX9 (rmN 0) 1 := C
  refine j_iload_n C dX9_isTick_0 rfl 0 rfl ?_
  refine j_if_lt (tgt := 14) C dX9_isTick_1 (by decide) (fun hc => ?_) (fun hc => ?_)
  · have hw := hw.1 hc
    exact J.sub (X9_isTick_j14_ok C K D hw) [] rfl
  · have hw := hw.2 hc
    refine j_iload_n C dX9_isTick_4 rfl 0 rfl ?_
    refine j_bipush (v := 40) C dX9_isTick_5 (by decide) ?_
    refine j_icmp_ge (tgt := 14) C dX9_isTick_7 (by decide) (fun hc => ?_) (fun hc => ?_)
    · have hw := hw.1 hc
      exact J.sub (X9_isTick_j14_ok C K D hw) [] rfl
    · have hw := hw.2 hc
      refine j_iconst (v := 1) C dX9_isTick_10 (by decide) ?_
      refine j_goto (tgt := 15) C dX9_isTick_11 (by decide) ?_
      exact J.sub (X9_isTick_j15_ok C K 1 D hw) [] rfl
/-! X9_out -/
def X9_out_j22 (G : Shp) (post : Int32 → Dat → Prop) (v0 : Nat) (v1 : Int32) (g1 : Nat) (s0 : Int32) (D : Dat) : Prop := post s0 D
set_option maxRecDepth 100000 in
set_option maxHeartbeats 4000000 in
theorem X9_out_j22_ok {κ : Ctx} {G : Shp} {post : Int32 → Dat → Prop} {v0 : Nat} {v1 : Int32} {g1 : Nat} (C : Cx κ cX9_out RX9 (rmN 0) 2) (K : RtI κ cX9_out .int G post) (ho_v0 : isO G v0 9) (hr_g1 : G.2.2.2 v0 8 = some g1) (ho_g1 : isO G g1 11) (s0 : Int32) (D : Dat) (hw : X9_out_j22 G post v0 v1 g1 s0 D) : J κ 0 0 G D 22 [] [.int s0] := by
  unfold X9_out_j22 at hw
  exact K _ _ _ _ dX9_out_22 rfl hw
def X9_out_j21 (G : Shp) (post : Int32 → Dat → Prop) (v0 : Nat) (v1 : Int32) (g1 : Nat) (D : Dat) : Prop := X9_out_j22 G post v0 v1 g1 (-1) D
set_option maxRecDepth 100000 in
set_option maxHeartbeats 4000000 in
theorem X9_out_j21_ok {κ : Ctx} {G : Shp} {post : Int32 → Dat → Prop} {v0 : Nat} {v1 : Int32} {g1 : Nat} (C : Cx κ cX9_out RX9 (rmN 0) 2) (K : RtI κ cX9_out .int G post) (ho_v0 : isO G v0 9) (hr_g1 : G.2.2.2 v0 8 = some g1) (ho_g1 : isO G g1 11) (D : Dat) (hw : X9_out_j21 G post v0 v1 g1 D) : J κ 0 0 G D 21 [] [] := by
  unfold X9_out_j21 at hw
  refine j_iconst (v := (-1)) C dX9_out_21 (by decide) ?_
  exact J.sub (X9_out_j22_ok C K ho_v0 hr_g1 ho_g1 (-1) D hw) [] rfl
def X9_out_wp (G : Shp) (D : Dat) (v0 : Nat) (v1 : Int32) (post : Int32 → Dat → Prop) : Prop := isO G v0 9 ∧ ∃ g1, G.2.2.2 v0 8 = some g1 ∧ isO G g1 11 ∧ ((v1 < 0 → X9_out_j21 G post v0 v1 g1 D) ∧ (¬ (v1 < 0) → (((D.1 v0 9) ≤ v1 → X9_out_j21 G post v0 v1 g1 D) ∧ (¬ ((D.1 v0 9) ≤ v1) → (vp_in v1 (G.2.2.1 g1) ∧ X9_out_j22 G post v0 v1 g1 (D.1 g1 v1.toNatClampNeg) D)))))
set_option maxRecDepth 100000 in
set_option maxHeartbeats 4000000 in
theorem X9_out_ok (l : Launch) (G : Shp) (D : Dat) (v0 : Nat) (v1 : Int32) (post : Int32 → Dat → Prop) (hw : X9_out_wp G D v0 v1 post) : CtI l yX9_out cX9_out 2 .int (rmN 0) [.ref v0, .int v1] G D post := by
  obtain ⟨ho_v0, g1, hr_g1, ho_g1, hw⟩ := hw
  refine ctI_of (by decide) rfl (Nat.le_of_ble_eq_true rfl) ?_
  intro κ hκ C K
  subst hκ
  have C : Cx κ cX9_out RX9 (rmN 0) 2 := C
  refine j_iload_n C dX9_out_0 rfl 1 rfl ?_
  refine j_if_lt (tgt := 21) C dX9_out_1 (by decide) (fun hc => ?_) (fun hc => ?_)
  · have hw := hw.1 hc
    exact J.sub (X9_out_j21_ok C K ho_v0 hr_g1 ho_g1 D hw) [] rfl
  · have hw := hw.2 hc
    refine j_iload_n C dX9_out_4 rfl 1 rfl ?_
    refine j_aload_n C dX9_out_5 rfl 0 rfl ?_
    refine gf_9_9 C ho_v0 k_773 dX9_out_6 ?_
    refine j_icmp_ge (tgt := 21) C dX9_out_9 (by decide) (fun hc => ?_) (fun hc => ?_)
    · have hw := hw.1 hc
      exact J.sub (X9_out_j21_ok C K ho_v0 hr_g1 ho_g1 D hw) [] rfl
    · have hw := hw.2 hc
      refine j_aload_n C dX9_out_12 rfl 0 rfl ?_
      refine gf_9_8 C ho_v0 hr_g1 k_772 dX9_out_13 ?_
      refine j_iload_n C dX9_out_16 rfl 1 rfl ?_
      obtain ⟨hi1, hw⟩ := hw
      refine j_iald C ho_g1 hi1 dX9_out_17 ?_
      refine j_goto (tgt := 22) C dX9_out_18 (by decide) ?_
      exact J.sub (X9_out_j22_ok C K ho_v0 hr_g1 ho_g1 (D.1 g1 v1.toNatClampNeg) D hw) [] rfl
/-! X9_part0 -/
def X9_part0_wp (G : Shp) (D : Dat) (v0 : Nat) (v1 : Int32) (v2 : Int32) (post : Dat → Prop) : Prop := isO G v0 9 ∧ ∃ g1, G.2.2.2 v0 19 = some g1 ∧ isO G g1 11 ∧ ∃ g2, G.2.2.2 v0 20 = some g2 ∧ isO G g2 11 ∧ (vp_in (D.1 v0 21) (G.2.2.1 g1) ∧ vp_in ((dI D g1 (D.1 v0 21).toNatClampNeg v1).1 v0 21) (G.2.2.1 g2) ∧ post (dI (dI (dI D g1 (D.1 v0 21).toNatClampNeg v1) g2 ((dI D g1 (D.1 v0 21).toNatClampNeg v1).1 v0 21).toNatClampNeg v2) v0 21 (((dI (dI D g1 (D.1 v0 21).toNatClampNeg v1) g2 ((dI D g1 (D.1 v0 21).toNatClampNeg v1).1 v0 21).toNatClampNeg v2).1 v0 21) + 1)))
set_option maxRecDepth 100000 in
set_option maxHeartbeats 4000000 in
theorem X9_part0_ok (l : Launch) (G : Shp) (D : Dat) (v0 : Nat) (v1 : Int32) (v2 : Int32) (post : Dat → Prop) (hw : X9_part0_wp G D v0 v1 v2 post) : CtV l yX9_part0 cX9_part0 3 (rmN 0) [.ref v0, .int v1, .int v2] G D post := by
  obtain ⟨ho_v0, g1, hr_g1, ho_g1, g2, hr_g2, ho_g2, hw⟩ := hw
  refine ctV_of (by decide) rfl (Nat.le_of_ble_eq_true rfl) ?_
  intro κ hκ C K
  subst hκ
  have C : Cx κ cX9_part0 RX9 (rmN 0) 3 := C
  refine j_aload_n C dX9_part0_0 rfl 0 rfl ?_
  refine gf_9_19 C ho_v0 hr_g1 k_783 dX9_part0_1 ?_
  refine j_aload_n C dX9_part0_4 rfl 0 rfl ?_
  refine gf_9_21 C ho_v0 k_785 dX9_part0_5 ?_
  refine j_iload_n C dX9_part0_8 rfl 1 rfl ?_
  obtain ⟨hi1, hw⟩ := hw
  refine j_iast C ho_g1 hi1 dX9_part0_9 ?_
  refine j_aload_n C dX9_part0_10 rfl 0 rfl ?_
  refine gf_9_20 C ho_v0 hr_g2 k_784 dX9_part0_11 ?_
  refine j_aload_n C dX9_part0_14 rfl 0 rfl ?_
  refine gf_9_21 C ho_v0 k_785 dX9_part0_15 ?_
  refine j_iload_n C dX9_part0_18 rfl 2 rfl ?_
  obtain ⟨hi2, hw⟩ := hw
  refine j_iast C ho_g2 hi2 dX9_part0_19 ?_
  refine j_aload_n C dX9_part0_20 rfl 0 rfl ?_
  refine j_dup C dX9_part0_21 rfl ?_
  refine gf_9_21 C ho_v0 k_785 dX9_part0_22 ?_
  refine j_iconst (v := 1) C dX9_part0_25 (by decide) ?_
  refine j_iadd C dX9_part0_26 ?_
  refine pf_9_21 C ho_v0 k_785 dX9_part0_27 ?_
  exact K _ _ _ dX9_part0_30 hw
/-! X9_refuse -/
def X9_refuse_wp (G : Shp) (D : Dat) (v0 : Nat) (v1 : Int32) (post : Int32 → Dat → Prop) : Prop := isO G v0 9 ∧ post (-1) (dI D v0 0 v1)
set_option maxRecDepth 100000 in
set_option maxHeartbeats 4000000 in
theorem X9_refuse_ok (l : Launch) (G : Shp) (D : Dat) (v0 : Nat) (v1 : Int32) (post : Int32 → Dat → Prop) (hw : X9_refuse_wp G D v0 v1 post) : CtI l yX9_refuse cX9_refuse 2 .int (rmN 0) [.ref v0, .int v1] G D post := by
  obtain ⟨ho_v0, hw⟩ := hw
  refine ctI_of (by decide) rfl (Nat.le_of_ble_eq_true rfl) ?_
  intro κ hκ C K
  subst hκ
  have C : Cx κ cX9_refuse RX9 (rmN 0) 2 := C
  refine j_aload_n C dX9_refuse_0 rfl 0 rfl ?_
  refine j_iload_n C dX9_refuse_1 rfl 1 rfl ?_
  refine pf_9_0 C ho_v0 k_764 dX9_refuse_2 ?_
  refine j_iconst (v := (-1)) C dX9_refuse_5 (by decide) ?_
  exact K _ _ _ _ dX9_refuse_6 rfl hw
/-! X9_room -/
def X9_room_wp (G : Shp) (D : Dat) (v0 : Nat) (v1 : Int32) (post : Int32 → Dat → Prop) : Prop := isO G v0 9 ∧ post (D.1 v0 2) (dI D v0 2 ((D.1 v0 2) + (v1 + 1)))
set_option maxRecDepth 100000 in
set_option maxHeartbeats 4000000 in
theorem X9_room_ok (l : Launch) (G : Shp) (D : Dat) (v0 : Nat) (v1 : Int32) (post : Int32 → Dat → Prop) (hw : X9_room_wp G D v0 v1 post) : CtI l yX9_room cX9_room 3 .int (rmN 0) [.ref v0, .int v1] G D post := by
  obtain ⟨ho_v0, hw⟩ := hw
  refine ctI_of (by decide) rfl (Nat.le_of_ble_eq_true rfl) ?_
  intro κ hκ C K
  subst hκ
  have C : Cx κ cX9_room RX9 (rmN 0) 3 := C
  refine j_aload_n C dX9_room_0 rfl 0 rfl ?_
  refine gf_9_2 C ho_v0 k_766 dX9_room_1 ?_
  refine j_istore_n C dX9_room_4 rfl (by decide) rfl ?_
  refine j_aload_n C dX9_room_5 rfl 1 rfl ?_
  refine j_dup C dX9_room_6 rfl ?_
  refine gf_9_2 C ho_v0 k_766 dX9_room_7 ?_
  refine j_iload_n C dX9_room_10 rfl 2 rfl ?_
  refine j_iconst (v := 1) C dX9_room_11 (by decide) ?_
  refine j_iadd C dX9_room_12 ?_
  refine j_iadd C dX9_room_13 ?_
  refine pf_9_2 C ho_v0 k_766 dX9_room_14 ?_
  refine j_iload_n C dX9_room_17 rfl 0 rfl ?_
  exact K _ _ _ _ dX9_room_18 rfl hw
/-! X9_sign -/
def X9_sign_j27 (G : Shp) (post : Int32 → Dat → Prop) (v0 : Nat) (v1 : Int32) (g1 : Nat) (s0 : Int32) (D : Dat) : Prop := post s0 D
set_option maxRecDepth 100000 in
set_option maxHeartbeats 4000000 in
theorem X9_sign_j27_ok {κ : Ctx} {G : Shp} {post : Int32 → Dat → Prop} {v0 : Nat} {v1 : Int32} {g1 : Nat} (C : Cx κ cX9_sign RX9 (rmN 0) 2) (K : RtI κ cX9_sign .int G post) (ho_v0 : isO G v0 9) (hr_g1 : G.2.2.2 v0 1 = some g1) (ho_g1 : isO G g1 11) (s0 : Int32) (D : Dat) (hw : X9_sign_j27 G post v0 v1 g1 s0 D) : J κ 0 0 G D 27 [] [.int s0] := by
  unfold X9_sign_j27 at hw
  exact K _ _ _ _ dX9_sign_27 rfl hw
def X9_sign_wp (G : Shp) (D : Dat) (v0 : Nat) (v1 : Int32) (post : Int32 → Dat → Prop) : Prop := isO G v0 9 ∧ ∃ g1, G.2.2.2 v0 1 = some g1 ∧ isO G g1 11 ∧ (vp_in v1 (G.2.2.1 g1) ∧ (((D.1 g1 v1.toNatClampNeg) ≤ 0 → (vp_in v1 (G.2.2.1 g1) ∧ ((0 ≤ (D.1 g1 v1.toNatClampNeg) → X9_sign_j27 G post v0 v1 g1 0 D) ∧ (¬ (0 ≤ (D.1 g1 v1.toNatClampNeg)) → X9_sign_j27 G post v0 v1 g1 (-1) D)))) ∧ (¬ ((D.1 g1 v1.toNatClampNeg) ≤ 0) → X9_sign_j27 G post v0 v1 g1 1 D)))
set_option maxRecDepth 100000 in
set_option maxHeartbeats 4000000 in
theorem X9_sign_ok (l : Launch) (G : Shp) (D : Dat) (v0 : Nat) (v1 : Int32) (post : Int32 → Dat → Prop) (hw : X9_sign_wp G D v0 v1 post) : CtI l yX9_sign cX9_sign 2 .int (rmN 0) [.ref v0, .int v1] G D post := by
  obtain ⟨ho_v0, g1, hr_g1, ho_g1, hw⟩ := hw
  refine ctI_of (by decide) rfl (Nat.le_of_ble_eq_true rfl) ?_
  intro κ hκ C K
  subst hκ
  have C : Cx κ cX9_sign RX9 (rmN 0) 2 := C
  refine j_aload_n C dX9_sign_0 rfl 0 rfl ?_
  refine gf_9_1 C ho_v0 hr_g1 k_765 dX9_sign_1 ?_
  refine j_iload_n C dX9_sign_4 rfl 1 rfl ?_
  obtain ⟨hi1, hw⟩ := hw
  refine j_iald C ho_g1 hi1 dX9_sign_5 ?_
  refine j_if_le (tgt := 13) C dX9_sign_6 (by decide) (fun hc => ?_) (fun hc => ?_)
  · have hw := hw.1 hc
    refine j_aload_n C dX9_sign_13 rfl 0 rfl ?_
    refine gf_9_1 C ho_v0 hr_g1 k_765 dX9_sign_14 ?_
    refine j_iload_n C dX9_sign_17 rfl 1 rfl ?_
    obtain ⟨hi2, hw⟩ := hw
    refine j_iald C ho_g1 hi2 dX9_sign_18 ?_
    refine j_if_ge (tgt := 26) C dX9_sign_19 (by decide) (fun hc => ?_) (fun hc => ?_)
    · have hw := hw.1 hc
      refine j_iconst (v := 0) C dX9_sign_26 (by decide) ?_
      exact J.sub (X9_sign_j27_ok C K ho_v0 hr_g1 ho_g1 0 D hw) [] rfl
    · have hw := hw.2 hc
      refine j_iconst (v := (-1)) C dX9_sign_22 (by decide) ?_
      refine j_goto (tgt := 27) C dX9_sign_23 (by decide) ?_
      exact J.sub (X9_sign_j27_ok C K ho_v0 hr_g1 ho_g1 (-1) D hw) [] rfl
  · have hw := hw.2 hc
    refine j_iconst (v := 1) C dX9_sign_9 (by decide) ?_
    refine j_goto (tgt := 27) C dX9_sign_10 (by decide) ?_
    exact J.sub (X9_sign_j27_ok C K ho_v0 hr_g1 ho_g1 1 D hw) [] rfl
/-! X9_size -/
def X9_size_j25 (G : Shp) (post : Int32 → Dat → Prop) (v0 : Nat) (v1 : Int32) (g1 : Nat) (s0 : Int32) (D : Dat) : Prop := post s0 D
set_option maxRecDepth 100000 in
set_option maxHeartbeats 4000000 in
theorem X9_size_j25_ok {κ : Ctx} {G : Shp} {post : Int32 → Dat → Prop} {v0 : Nat} {v1 : Int32} {g1 : Nat} (C : Cx κ cX9_size RX9 (rmN 0) 2) (K : RtI κ cX9_size .int G post) (ho_v0 : isO G v0 9) (hr_g1 : G.2.2.2 v0 1 = some g1) (ho_g1 : isO G g1 11) (s0 : Int32) (D : Dat) (hw : X9_size_j25 G post v0 v1 g1 s0 D) : J κ 0 0 G D 25 [] [.int s0] := by
  unfold X9_size_j25 at hw
  exact K _ _ _ _ dX9_size_25 rfl hw
def X9_size_wp (G : Shp) (D : Dat) (v0 : Nat) (v1 : Int32) (post : Int32 → Dat → Prop) : Prop := isO G v0 9 ∧ ∃ g1, G.2.2.2 v0 1 = some g1 ∧ isO G g1 11 ∧ (vp_in v1 (G.2.2.1 g1) ∧ ((0 ≤ (D.1 g1 v1.toNatClampNeg) → (vp_in v1 (G.2.2.1 g1) ∧ X9_size_j25 G post v0 v1 g1 (D.1 g1 v1.toNatClampNeg) D)) ∧ (¬ (0 ≤ (D.1 g1 v1.toNatClampNeg)) → (vp_in v1 (G.2.2.1 g1) ∧ X9_size_j25 G post v0 v1 g1 (-(D.1 g1 v1.toNatClampNeg)) D))))
set_option maxRecDepth 100000 in
set_option maxHeartbeats 4000000 in
theorem X9_size_ok (l : Launch) (G : Shp) (D : Dat) (v0 : Nat) (v1 : Int32) (post : Int32 → Dat → Prop) (hw : X9_size_wp G D v0 v1 post) : CtI l yX9_size cX9_size 2 .int (rmN 0) [.ref v0, .int v1] G D post := by
  obtain ⟨ho_v0, g1, hr_g1, ho_g1, hw⟩ := hw
  refine ctI_of (by decide) rfl (Nat.le_of_ble_eq_true rfl) ?_
  intro κ hκ C K
  subst hκ
  have C : Cx κ cX9_size RX9 (rmN 0) 2 := C
  refine j_aload_n C dX9_size_0 rfl 0 rfl ?_
  refine gf_9_1 C ho_v0 hr_g1 k_765 dX9_size_1 ?_
  refine j_iload_n C dX9_size_4 rfl 1 rfl ?_
  obtain ⟨hi1, hw⟩ := hw
  refine j_iald C ho_g1 hi1 dX9_size_5 ?_
  refine j_if_ge (tgt := 19) C dX9_size_6 (by decide) (fun hc => ?_) (fun hc => ?_)
  · have hw := hw.1 hc
    refine j_aload_n C dX9_size_19 rfl 0 rfl ?_
    refine gf_9_1 C ho_v0 hr_g1 k_765 dX9_size_20 ?_
    refine j_iload_n C dX9_size_23 rfl 1 rfl ?_
    obtain ⟨hi2, hw⟩ := hw
    refine j_iald C ho_g1 hi2 dX9_size_24 ?_
    exact J.sub (X9_size_j25_ok C K ho_v0 hr_g1 ho_g1 (D.1 g1 v1.toNatClampNeg) D hw) [] rfl
  · have hw := hw.2 hc
    refine j_aload_n C dX9_size_9 rfl 0 rfl ?_
    refine gf_9_1 C ho_v0 hr_g1 k_765 dX9_size_10 ?_
    refine j_iload_n C dX9_size_13 rfl 1 rfl ?_
    obtain ⟨hi3, hw⟩ := hw
    refine j_iald C ho_g1 hi3 dX9_size_14 ?_
    refine j_ineg C dX9_size_15 ?_
    refine j_goto (tgt := 25) C dX9_size_16 (by decide) ?_
    exact J.sub (X9_size_j25_ok C K ho_v0 hr_g1 ho_g1 (-(D.1 g1 v1.toNatClampNeg)) D hw) [] rfl
/-! X9_spot -/
def X9_spot_wp (G : Shp) (D : Dat) (v0 : Int32) (v1 : Int32) (post : Int32 → Dat → Prop) : Prop := post ((40 * v0) + v1) D
set_option maxRecDepth 100000 in
set_option maxHeartbeats 4000000 in
theorem X9_spot_ok (l : Launch) (G : Shp) (D : Dat) (v0 : Int32) (v1 : Int32) (post : Int32 → Dat → Prop) (hw : X9_spot_wp G D v0 v1 post) : CtI l yX9_spot cX9_spot 2 .int (rmN 0) [.int v0, .int v1] G D post := by
  unfold X9_spot_wp at hw
  refine ctI_of (by decide) rfl (Nat.le_of_ble_eq_true rfl) ?_
  intro κ hκ C K
  subst hκ
  have C : Cx κ cX9_spot RX9 (rmN 0) 2 := C
  refine j_bipush (v := 40) C dX9_spot_0 (by decide) ?_
  refine j_iload_n C dX9_spot_2 rfl 0 rfl ?_
  refine j_imul C dX9_spot_3 ?_
  refine j_iload_n C dX9_spot_4 rfl 1 rfl ?_
  refine j_iadd C dX9_spot_5 ?_
  exact K _ _ _ _ dX9_spot_6 rfl hw
/-! X9_status -/
def X9_status_wp (G : Shp) (D : Dat) (v0 : Nat) (post : Int32 → Dat → Prop) : Prop := isO G v0 9 ∧ post (D.1 v0 0) D
set_option maxRecDepth 100000 in
set_option maxHeartbeats 4000000 in
theorem X9_status_ok (l : Launch) (G : Shp) (D : Dat) (v0 : Nat) (post : Int32 → Dat → Prop) (hw : X9_status_wp G D v0 post) : CtI l yX9_status cX9_status 1 .int (rmN 0) [.ref v0] G D post := by
  obtain ⟨ho_v0, hw⟩ := hw
  refine ctI_of (by decide) rfl (Nat.le_of_ble_eq_true rfl) ?_
  intro κ hκ C K
  subst hκ
  have C : Cx κ cX9_status RX9 (rmN 0) 1 := C
  refine j_aload_n C dX9_status_0 rfl 0 rfl ?_
  refine gf_9_0 C ho_v0 k_764 dX9_status_1 ?_
  exact K _ _ _ _ dX9_status_4 rfl hw
/-! X9_takeStep -/
def X9_takeStep_l12_b (G : Shp) (post : Dat → Prop) (v0 : Nat) (v1 : Int32) (v2 : Int32) (g1 : Nat) (g2 : Nat) (rec : Int32 → Dat → Prop) (v3 : Int32) (D : Dat) : Prop := (vp_in v1 (G.2.2.1 g1) ∧ (((D.1 g1 v1.toNatClampNeg) ≤ v3 → post D) ∧ (¬ ((D.1 g1 v1.toNatClampNeg) ≤ v3) → (vp_in (((3 * v1) + v3) + 1) (G.2.2.1 g2) ∧ vp_in ((3 * v1) + v3) (G.2.2.1 g2) ∧ rec (v3 + 1) (dI D g2 ((3 * v1) + v3).toNatClampNeg (D.1 g2 (((3 * v1) + v3) + 1).toNatClampNeg))))))
def X9_takeStep_l12 (G : Shp) (post : Dat → Prop) (v0 : Nat) (v1 : Int32) (v2 : Int32) (g1 : Nat) (g2 : Nat) : Nat → Int32 → Dat → Prop
  | 0 => fun _ _ => False
  | n + 1 => X9_takeStep_l12_b G post v0 v1 v2 g1 g2 (X9_takeStep_l12 G post v0 v1 v2 g1 g2 n)
set_option maxRecDepth 100000 in
set_option maxHeartbeats 4000000 in
theorem X9_takeStep_l12_ok {κ : Ctx} {G : Shp} {post : Dat → Prop} {v0 : Nat} {v1 : Int32} {v2 : Int32} {g1 : Nat} {g2 : Nat} (C : Cx κ cX9_takeStep RX9 (rmN 0) 4) (K : RtV κ cX9_takeStep G post) (ho_v0 : isO G v0 9) (hr_g1 : G.2.2.2 v0 12 = some g1) (ho_g1 : isO G g1 11) (hr_g2 : G.2.2.2 v0 13 = some g2) (ho_g2 : isO G g2 11) : ∀ (n : Nat) (v3 : Int32) (D : Dat), X9_takeStep_l12 G post v0 v1 v2 g1 g2 n v3 D → J κ 0 0 G D 12 [(0, .ref v0), (1, .int v1), (3, .int v3)] [] := by
  intro n
  induction n with
  | zero => intro v3 D hw; exact hw.elim
  | succ n ih =>
    intro v3 D hw
    have hw : X9_takeStep_l12_b G post v0 v1 v2 g1 g2 (X9_takeStep_l12 G post v0 v1 v2 g1 g2 n) v3 D := hw
    unfold X9_takeStep_l12_b at hw
    refine j_iload_n C dX9_takeStep_12 rfl 2 rfl ?_
    refine j_aload_n C dX9_takeStep_13 rfl 0 rfl ?_
    refine gf_9_12 C ho_v0 hr_g1 k_776 dX9_takeStep_14 ?_
    refine j_iload_n C dX9_takeStep_17 rfl 1 rfl ?_
    obtain ⟨hi1, hw⟩ := hw
    refine j_iald C ho_g1 hi1 dX9_takeStep_18 ?_
    refine j_icmp_ge (tgt := 50) C dX9_takeStep_19 (by decide) (fun hc => ?_) (fun hc => ?_)
    · have hw := hw.1 hc
      exact K _ _ _ dX9_takeStep_50 hw
    · have hw := hw.2 hc
      refine j_aload_n C dX9_takeStep_22 rfl 0 rfl ?_
      refine gf_9_13 C ho_v0 hr_g2 k_777 dX9_takeStep_23 ?_
      refine j_iconst (v := 3) C dX9_takeStep_26 (by decide) ?_
      refine j_iload_n C dX9_takeStep_27 rfl 1 rfl ?_
      refine j_imul C dX9_takeStep_28 ?_
      refine j_iload_n C dX9_takeStep_29 rfl 2 rfl ?_
      refine j_iadd C dX9_takeStep_30 ?_
      refine j_aload_n C dX9_takeStep_31 rfl 0 rfl ?_
      refine gf_9_13 C ho_v0 hr_g2 k_777 dX9_takeStep_32 ?_
      refine j_iconst (v := 3) C dX9_takeStep_35 (by decide) ?_
      refine j_iload_n C dX9_takeStep_36 rfl 1 rfl ?_
      refine j_imul C dX9_takeStep_37 ?_
      refine j_iload_n C dX9_takeStep_38 rfl 2 rfl ?_
      refine j_iadd C dX9_takeStep_39 ?_
      refine j_iconst (v := 1) C dX9_takeStep_40 (by decide) ?_
      refine j_iadd C dX9_takeStep_41 ?_
      obtain ⟨hi2, hw⟩ := hw
      refine j_iald C ho_g2 hi2 dX9_takeStep_42 ?_
      obtain ⟨hi3, hw⟩ := hw
      refine j_iast C ho_g2 hi3 dX9_takeStep_43 ?_
      refine j_iinc (v := v3 + 1) C dX9_takeStep_44 2 rfl rfl (by decide) rfl ?_
      refine j_goto (tgt := 12) C dX9_takeStep_47 (by decide) ?_
      exact J.sub (ih (v3 + 1) (dI D g2 ((3 * v1) + v3).toNatClampNeg (D.1 g2 (((3 * v1) + v3) + 1).toNatClampNeg)) hw) [1, 2, 0] rfl
def X9_takeStep_wp (G : Shp) (D : Dat) (v0 : Nat) (v1 : Int32) (v2 : Int32) (post : Dat → Prop) : Prop := isO G v0 9 ∧ ∃ g1, G.2.2.2 v0 12 = some g1 ∧ isO G g1 11 ∧ ∃ g2, G.2.2.2 v0 13 = some g2 ∧ isO G g2 11 ∧ (vp_in v1 (G.2.2.1 g1) ∧ vp_in v1 (G.2.2.1 g1) ∧ ∃ n, X9_takeStep_l12 G post v0 v1 v2 g1 g2 n v2 (dI D g1 v1.toNatClampNeg ((D.1 g1 v1.toNatClampNeg) - 1)))
set_option maxRecDepth 100000 in
set_option maxHeartbeats 4000000 in
theorem X9_takeStep_ok (l : Launch) (G : Shp) (D : Dat) (v0 : Nat) (v1 : Int32) (v2 : Int32) (post : Dat → Prop) (hw : X9_takeStep_wp G D v0 v1 v2 post) : CtV l yX9_takeStep cX9_takeStep 4 (rmN 0) [.ref v0, .int v1, .int v2] G D post := by
  obtain ⟨ho_v0, g1, hr_g1, ho_g1, g2, hr_g2, ho_g2, hw⟩ := hw
  refine ctV_of (by decide) rfl (Nat.le_of_ble_eq_true rfl) ?_
  intro κ hκ C K
  subst hκ
  have C : Cx κ cX9_takeStep RX9 (rmN 0) 4 := C
  refine j_aload_n C dX9_takeStep_0 rfl 0 rfl ?_
  refine gf_9_12 C ho_v0 hr_g1 k_776 dX9_takeStep_1 ?_
  refine j_iload_n C dX9_takeStep_4 rfl 1 rfl ?_
  refine j_dup2 C dX9_takeStep_5 rfl rfl ?_
  obtain ⟨hi1, hw⟩ := hw
  refine j_iald C ho_g1 hi1 dX9_takeStep_6 ?_
  refine j_iconst (v := 1) C dX9_takeStep_7 (by decide) ?_
  refine j_isub C dX9_takeStep_8 ?_
  obtain ⟨hi2, hw⟩ := hw
  refine j_iast C ho_g1 hi2 dX9_takeStep_9 ?_
  refine j_iload_n C dX9_takeStep_10 rfl 2 rfl ?_
  refine j_istore_n C dX9_takeStep_11 rfl (by decide) rfl ?_
  obtain ⟨n, hw⟩ := hw
  exact J.sub (X9_takeStep_l12_ok C K ho_v0 hr_g1 ho_g1 hr_g2 ho_g2 n v2 (dI D g1 v1.toNatClampNeg ((D.1 g1 v1.toNatClampNeg) - 1)) hw) [1, 2, 0] rfl
/-! X9_tells0 -/
def X9_tells0_wp (G : Shp) (D : Dat) (v0 : Nat) (v1 : Int32) (post : Dat → Prop) : Prop := isO G v0 9 ∧ ∃ g1, G.2.2.2 v0 8 = some g1 ∧ isO G g1 11 ∧ (vp_in (D.1 v0 9) (G.2.2.1 g1) ∧ post (dI (dI D g1 (D.1 v0 9).toNatClampNeg v1) v0 9 (((dI D g1 (D.1 v0 9).toNatClampNeg v1).1 v0 9) + 1)))
set_option maxRecDepth 100000 in
set_option maxHeartbeats 4000000 in
theorem X9_tells0_ok (l : Launch) (G : Shp) (D : Dat) (v0 : Nat) (v1 : Int32) (post : Dat → Prop) (hw : X9_tells0_wp G D v0 v1 post) : CtV l yX9_tells0 cX9_tells0 2 (rmN 0) [.ref v0, .int v1] G D post := by
  obtain ⟨ho_v0, g1, hr_g1, ho_g1, hw⟩ := hw
  refine ctV_of (by decide) rfl (Nat.le_of_ble_eq_true rfl) ?_
  intro κ hκ C K
  subst hκ
  have C : Cx κ cX9_tells0 RX9 (rmN 0) 2 := C
  refine j_aload_n C dX9_tells0_0 rfl 0 rfl ?_
  refine gf_9_8 C ho_v0 hr_g1 k_772 dX9_tells0_1 ?_
  refine j_aload_n C dX9_tells0_4 rfl 0 rfl ?_
  refine gf_9_9 C ho_v0 k_773 dX9_tells0_5 ?_
  refine j_iload_n C dX9_tells0_8 rfl 1 rfl ?_
  obtain ⟨hi1, hw⟩ := hw
  refine j_iast C ho_g1 hi1 dX9_tells0_9 ?_
  refine j_aload_n C dX9_tells0_10 rfl 0 rfl ?_
  refine j_dup C dX9_tells0_11 rfl ?_
  refine gf_9_9 C ho_v0 k_773 dX9_tells0_12 ?_
  refine j_iconst (v := 1) C dX9_tells0_15 (by decide) ?_
  refine j_iadd C dX9_tells0_16 ?_
  refine pf_9_9 C ho_v0 k_773 dX9_tells0_17 ?_
  exact K _ _ _ dX9_tells0_20 hw
/-! X0_setTo -/
def X0_setTo_j72 (G : Shp) (post : Dat → Prop) (v0 : Nat) (v1 : Int64) (g1 : Nat) (D : Dat) : Prop := post D
set_option maxRecDepth 100000 in
set_option maxHeartbeats 4000000 in
theorem X0_setTo_j72_ok {κ : Ctx} {G : Shp} {post : Dat → Prop} {v0 : Nat} {v1 : Int64} {g1 : Nat} (C : Cx κ cX0_setTo RX0 (rmN 1) 5) (K : RtV κ cX0_setTo G post) (ho_v0 : isO G v0 0) (hr_g1 : G.2.2.2 v0 0 = some g1) (ho_g1 : isO G g1 12) (D : Dat) (hw : X0_setTo_j72 G post v0 v1 g1 D) : J κ 0 0 G D 72 [] [] := by
  unfold X0_setTo_j72 at hw
  exact K _ _ _ dX0_setTo_72 hw
def X0_setTo_l25_b (G : Shp) (post : Dat → Prop) (v0 : Nat) (v1 : Int64) (g1 : Nat) (rec : Int64 → Dat → Prop) (v3 : Int64) (D : Dat) : Prop := ((12 ≤ (D.1 v0 1) → X0_setTo_j72 G post v0 v1 g1 D) ∧ (¬ (12 ≤ (D.1 v0 1)) → ((v3 ≤ 0 → X0_setTo_j72 G post v0 v1 g1 D) ∧ (¬ (v3 ≤ 0) → (vp_in (D.1 v0 1) (G.2.2.1 g1) ∧ rec (v3 >>> ((27 : Int32).toInt64 &&& 63)) (dI (dJ D g1 (D.1 v0 1).toNatClampNeg (v3 &&& 134217727)) v0 1 (((dJ D g1 (D.1 v0 1).toNatClampNeg (v3 &&& 134217727)).1 v0 1) + 1)))))))
def X0_setTo_l25 (G : Shp) (post : Dat → Prop) (v0 : Nat) (v1 : Int64) (g1 : Nat) : Nat → Int64 → Dat → Prop
  | 0 => fun _ _ => False
  | n + 1 => X0_setTo_l25_b G post v0 v1 g1 (X0_setTo_l25 G post v0 v1 g1 n)
set_option maxRecDepth 100000 in
set_option maxHeartbeats 4000000 in
theorem X0_setTo_l25_ok {κ : Ctx} {G : Shp} {post : Dat → Prop} {v0 : Nat} {v1 : Int64} {g1 : Nat} (C : Cx κ cX0_setTo RX0 (rmN 1) 5) (K : RtV κ cX0_setTo G post) (ho_v0 : isO G v0 0) (hr_g1 : G.2.2.2 v0 0 = some g1) (ho_g1 : isO G g1 12) : ∀ (n : Nat) (v3 : Int64) (D : Dat), X0_setTo_l25 G post v0 v1 g1 n v3 D → J κ 0 0 G D 25 [(0, .ref v0), (3, .long v3)] [] := by
  intro n
  induction n with
  | zero => intro v3 D hw; exact hw.elim
  | succ n ih =>
    intro v3 D hw
    have hw : X0_setTo_l25_b G post v0 v1 g1 (X0_setTo_l25 G post v0 v1 g1 n) v3 D := hw
    unfold X0_setTo_l25_b at hw
    refine j_aload_n C dX0_setTo_25 rfl 0 rfl ?_
    refine gf_0_1 C ho_v0 k_45 dX0_setTo_26 ?_
    refine j_bipush (v := 12) C dX0_setTo_29 (by decide) ?_
    refine j_icmp_ge (tgt := 72) C dX0_setTo_31 (by decide) (fun hc => ?_) (fun hc => ?_)
    · have hw := hw.1 hc
      exact J.sub (X0_setTo_j72_ok C K ho_v0 hr_g1 ho_g1 D hw) [] rfl
    · have hw := hw.2 hc
      refine j_lload_n C dX0_setTo_34 rfl 1 rfl ?_
      refine j_lconst (v := 0) C dX0_setTo_35 (by decide) ?_
      refine j_lcmp_le (tgt := 72) C dX0_setTo_36 dX0_setTo_37 (by decide) (fun hc => ?_) (fun hc => ?_)
      · have hw := hw.1 hc
        exact J.sub (X0_setTo_j72_ok C K ho_v0 hr_g1 ho_g1 D hw) [] rfl
      · have hw := hw.2 hc
        refine j_aload_n C dX0_setTo_40 rfl 0 rfl ?_
        refine gf_0_0 C ho_v0 hr_g1 k_43 dX0_setTo_41 ?_
        refine j_aload_n C dX0_setTo_44 rfl 0 rfl ?_
        refine gf_0_1 C ho_v0 k_45 dX0_setTo_45 ?_
        refine j_lload_n C dX0_setTo_48 rfl 1 rfl ?_
        refine j_ldc2 (v := 134217727) C k_484 dX0_setTo_49 ?_
        refine j_land C dX0_setTo_52 ?_
        obtain ⟨hi1, hw⟩ := hw
        refine j_last C ho_g1 hi1 dX0_setTo_53 ?_
        refine j_lload_n C dX0_setTo_54 rfl 1 rfl ?_
        refine j_bipush (v := 27) C dX0_setTo_55 (by decide) ?_
        refine j_lshr C dX0_setTo_57 ?_
        refine j_lstore_n C dX0_setTo_58 rfl (by decide) rfl ?_
        refine j_aload_n C dX0_setTo_59 rfl 1 rfl ?_
        refine j_dup C dX0_setTo_60 rfl ?_
        refine gf_0_1 C ho_v0 k_45 dX0_setTo_61 ?_
        refine j_iconst (v := 1) C dX0_setTo_64 (by decide) ?_
        refine j_iadd C dX0_setTo_65 ?_
        refine pf_0_1 C ho_v0 k_45 dX0_setTo_66 ?_
        refine j_goto (tgt := 25) C dX0_setTo_69 (by decide) ?_
        exact J.sub (ih (v3 >>> ((27 : Int32).toInt64 &&& 63)) (dI (dJ D g1 (D.1 v0 1).toNatClampNeg (v3 &&& 134217727)) v0 1 (((dJ D g1 (D.1 v0 1).toNatClampNeg (v3 &&& 134217727)).1 v0 1) + 1)) hw) [1, 0] rfl
def X0_setTo_j17 (G : Shp) (post : Dat → Prop) (v0 : Nat) (v1 : Int64) (g1 : Nat) (v3 : Int64) (s0 : Int32) (s1 : Nat) (D : Dat) : Prop := (isO G s1 0 ∧ isB s0 ∧ ∃ n, X0_setTo_l25 G post v0 v1 g1 n v3 (dI (dI D s1 2 s0) v0 1 0))
set_option maxRecDepth 100000 in
set_option maxHeartbeats 4000000 in
theorem X0_setTo_j17_ok {κ : Ctx} {G : Shp} {post : Dat → Prop} {v0 : Nat} {v1 : Int64} {g1 : Nat} (C : Cx κ cX0_setTo RX0 (rmN 1) 5) (K : RtV κ cX0_setTo G post) (ho_v0 : isO G v0 0) (hr_g1 : G.2.2.2 v0 0 = some g1) (ho_g1 : isO G g1 12) (v3 : Int64) (s0 : Int32) (s1 : Nat) (D : Dat) (hw : X0_setTo_j17 G post v0 v1 g1 v3 s0 s1 D) : J κ 0 0 G D 17 [(0, .ref v0), (3, .long v3)] [.int s0, .ref s1] := by
  unfold X0_setTo_j17 at hw
  obtain ⟨ho1, hw⟩ := hw
  obtain ⟨hb2, hw⟩ := hw
  refine pf_0_2 C ho1 hb2 k_47 dX0_setTo_17 ?_
  refine j_aload_n C dX0_setTo_20 rfl 0 rfl ?_
  refine j_iconst (v := 0) C dX0_setTo_21 (by decide) ?_
  refine pf_0_1 C ho_v0 k_45 dX0_setTo_22 ?_
  obtain ⟨n, hw⟩ := hw
  exact J.sub (X0_setTo_l25_ok C K ho_v0 hr_g1 ho_g1 n v3 (dI (dI D s1 2 s0) v0 1 0) hw) [0, 1] rfl
def X0_setTo_wp (G : Shp) (D : Dat) (v0 : Nat) (v1 : Int64) (post : Dat → Prop) : Prop := isO G v0 0 ∧ ∃ g1, G.2.2.2 v0 0 = some g1 ∧ isO G g1 12 ∧ ((0 ≤ v1 → X0_setTo_j17 G post v0 v1 g1 (abL v1) 0 v0 D) ∧ (¬ (0 ≤ v1) → X0_setTo_j17 G post v0 v1 g1 (abL v1) 1 v0 D))
set_option maxRecDepth 100000 in
set_option maxHeartbeats 4000000 in
theorem X0_setTo_ok (l : Launch) (G : Shp) (D : Dat) (v0 : Nat) (v1 : Int64) (post : Dat → Prop) (hw : X0_setTo_wp G D v0 v1 post) : CtV l yX0_setTo cX0_setTo 5 (rmN 1) [.ref v0, .long v1] G D post := by
  obtain ⟨ho_v0, g1, hr_g1, ho_g1, hw⟩ := hw
  refine ctV_of (by decide) rfl (Nat.le_of_ble_eq_true rfl) ?_
  intro κ hκ C K
  subst hκ
  have C : Cx κ cX0_setTo RX0 (rmN 1) 5 := C
  refine j_lload_n C dX0_setTo_0 rfl 1 rfl ?_
  refine j_abL C k_481 ⟨by decide, Nat.le_of_ble_eq_true rfl⟩ ⟨Nat.zero_le _, Nat.zero_le _⟩ dX0_setTo_1 ?_
  refine j_lstore_n C dX0_setTo_4 rfl (by decide) rfl ?_
  refine j_aload_n C dX0_setTo_5 rfl 1 rfl ?_
  refine j_lload_n C dX0_setTo_6 rfl 2 rfl ?_
  refine j_lconst (v := 0) C dX0_setTo_7 (by decide) ?_
  refine j_lcmp_ge (tgt := 16) C dX0_setTo_8 dX0_setTo_9 (by decide) (fun hc => ?_) (fun hc => ?_)
  · have hw := hw.1 hc
    refine j_iconst (v := 0) C dX0_setTo_16 (by decide) ?_
    exact J.sub (X0_setTo_j17_ok C K ho_v0 hr_g1 ho_g1 (abL v1) 0 v0 D hw) [1, 0] rfl
  · have hw := hw.2 hc
    refine j_iconst (v := 1) C dX0_setTo_12 (by decide) ?_
    refine j_goto (tgt := 17) C dX0_setTo_13 (by decide) ?_
    exact J.sub (X0_setTo_j17_ok C K ho_v0 hr_g1 ho_g1 (abL v1) 1 v0 D hw) [1, 0] rfl
/-! X0_trim -/
def X0_trim_j58 (G : Shp) (post : Dat → Prop) (v0 : Nat) (v1 : Int32) (g1 : Nat) (D : Dat) : Prop := post D
set_option maxRecDepth 100000 in
set_option maxHeartbeats 4000000 in
theorem X0_trim_j58_ok {κ : Ctx} {G : Shp} {post : Dat → Prop} {v0 : Nat} {v1 : Int32} {g1 : Nat} (C : Cx κ cX0_trim RX0 (rmN 1) 2) (K : RtV κ cX0_trim G post) (ho_v0 : isO G v0 0) (hr_g1 : G.2.2.2 v0 0 = some g1) (ho_g1 : isO G g1 12) (D : Dat) (hw : X0_trim_j58 G post v0 v1 g1 D) : J κ 0 0 G D 58 [] [] := by
  unfold X0_trim_j58 at hw
  exact K _ _ _ dX0_trim_58 hw
def X0_trim_j46 (G : Shp) (post : Dat → Prop) (v0 : Nat) (v1 : Int32) (g1 : Nat) (D : Dat) : Prop := ((¬ (D.1 v0 1) = 0 → X0_trim_j58 G post v0 v1 g1 D) ∧ ((D.1 v0 1) = 0 → (isB 0 ∧ X0_trim_j58 G post v0 v1 g1 (dI D v0 2 0))))
set_option maxRecDepth 100000 in
set_option maxHeartbeats 4000000 in
theorem X0_trim_j46_ok {κ : Ctx} {G : Shp} {post : Dat → Prop} {v0 : Nat} {v1 : Int32} {g1 : Nat} (C : Cx κ cX0_trim RX0 (rmN 1) 2) (K : RtV κ cX0_trim G post) (ho_v0 : isO G v0 0) (hr_g1 : G.2.2.2 v0 0 = some g1) (ho_g1 : isO G g1 12) (D : Dat) (hw : X0_trim_j46 G post v0 v1 g1 D) : J κ 0 0 G D 46 [(0, .ref v0)] [] := by
  unfold X0_trim_j46 at hw
  refine j_aload_n C dX0_trim_46 rfl 0 rfl ?_
  refine gf_0_1 C ho_v0 k_45 dX0_trim_47 ?_
  refine j_if_ne (tgt := 58) C dX0_trim_50 (by decide) (fun hc => ?_) (fun hc => ?_)
  · have hw := hw.1 hc
    exact J.sub (X0_trim_j58_ok C K ho_v0 hr_g1 ho_g1 D hw) [] rfl
  · have hw := hw.2 hc
    refine j_aload_n C dX0_trim_53 rfl 0 rfl ?_
    refine j_iconst (v := 0) C dX0_trim_54 (by decide) ?_
    obtain ⟨hb1, hw⟩ := hw
    refine pf_0_2 C ho_v0 hb1 k_47 dX0_trim_55 ?_
    exact J.sub (X0_trim_j58_ok C K ho_v0 hr_g1 ho_g1 (dI D v0 2 0) hw) [] rfl
def X0_trim_l10_b (G : Shp) (post : Dat → Prop) (v0 : Nat) (v1 : Int32) (g1 : Nat) (rec : Dat → Prop) (D : Dat) : Prop := (((D.1 v0 1) ≤ 0 → X0_trim_j46 G post v0 v1 g1 D) ∧ (¬ ((D.1 v0 1) ≤ 0) → (vp_in ((D.1 v0 1) - 1) (G.2.2.1 g1) ∧ ((¬ (D.2 g1 ((D.1 v0 1) - 1).toNatClampNeg) = 0 → X0_trim_j46 G post v0 v1 g1 D) ∧ ((D.2 g1 ((D.1 v0 1) - 1).toNatClampNeg) = 0 → rec (dI D v0 1 ((D.1 v0 1) - 1)))))))
def X0_trim_l10 (G : Shp) (post : Dat → Prop) (v0 : Nat) (v1 : Int32) (g1 : Nat) : Nat → Dat → Prop
  | 0 => fun _ => False
  | n + 1 => X0_trim_l10_b G post v0 v1 g1 (X0_trim_l10 G post v0 v1 g1 n)
set_option maxRecDepth 100000 in
set_option maxHeartbeats 4000000 in
theorem X0_trim_l10_ok {κ : Ctx} {G : Shp} {post : Dat → Prop} {v0 : Nat} {v1 : Int32} {g1 : Nat} (C : Cx κ cX0_trim RX0 (rmN 1) 2) (K : RtV κ cX0_trim G post) (ho_v0 : isO G v0 0) (hr_g1 : G.2.2.2 v0 0 = some g1) (ho_g1 : isO G g1 12) : ∀ (n : Nat) (D : Dat), X0_trim_l10 G post v0 v1 g1 n D → J κ 0 0 G D 10 [(0, .ref v0)] [] := by
  intro n
  induction n with
  | zero => intro D hw; exact hw.elim
  | succ n ih =>
    intro D hw
    have hw : X0_trim_l10_b G post v0 v1 g1 (X0_trim_l10 G post v0 v1 g1 n) D := hw
    unfold X0_trim_l10_b at hw
    refine j_aload_n C dX0_trim_10 rfl 0 rfl ?_
    refine gf_0_1 C ho_v0 k_45 dX0_trim_11 ?_
    refine j_if_le (tgt := 46) C dX0_trim_14 (by decide) (fun hc => ?_) (fun hc => ?_)
    · have hw := hw.1 hc
      exact J.sub (X0_trim_j46_ok C K ho_v0 hr_g1 ho_g1 D hw) [0] rfl
    · have hw := hw.2 hc
      refine j_aload_n C dX0_trim_17 rfl 0 rfl ?_
      refine gf_0_0 C ho_v0 hr_g1 k_43 dX0_trim_18 ?_
      refine j_aload_n C dX0_trim_21 rfl 0 rfl ?_
      refine gf_0_1 C ho_v0 k_45 dX0_trim_22 ?_
      refine j_iconst (v := 1) C dX0_trim_25 (by decide) ?_
      refine j_isub C dX0_trim_26 ?_
      obtain ⟨hi1, hw⟩ := hw
      refine j_lald C ho_g1 hi1 dX0_trim_27 ?_
      refine j_lconst (v := 0) C dX0_trim_28 (by decide) ?_
      refine j_lcmp_ne (tgt := 46) C dX0_trim_29 dX0_trim_30 (by decide) (fun hc => ?_) (fun hc => ?_)
      · have hw := hw.1 hc
        exact J.sub (X0_trim_j46_ok C K ho_v0 hr_g1 ho_g1 D hw) [0] rfl
      · have hw := hw.2 hc
        refine j_aload_n C dX0_trim_33 rfl 0 rfl ?_
        refine j_dup C dX0_trim_34 rfl ?_
        refine gf_0_1 C ho_v0 k_45 dX0_trim_35 ?_
        refine j_iconst (v := 1) C dX0_trim_38 (by decide) ?_
        refine j_isub C dX0_trim_39 ?_
        refine pf_0_1 C ho_v0 k_45 dX0_trim_40 ?_
        refine j_goto (tgt := 10) C dX0_trim_43 (by decide) ?_
        exact J.sub (ih (dI D v0 1 ((D.1 v0 1) - 1)) hw) [0] rfl
def X0_trim_wp (G : Shp) (D : Dat) (v0 : Nat) (v1 : Int32) (post : Dat → Prop) : Prop := isO G v0 0 ∧ ∃ g1, G.2.2.2 v0 0 = some g1 ∧ isO G g1 12 ∧ ∃ n, X0_trim_l10 G post v0 v1 g1 n (dI D v0 1 (mnI v1 12))
set_option maxRecDepth 100000 in
set_option maxHeartbeats 4000000 in
theorem X0_trim_ok (l : Launch) (G : Shp) (D : Dat) (v0 : Nat) (v1 : Int32) (post : Dat → Prop) (hw : X0_trim_wp G D v0 v1 post) : CtV l yX0_trim cX0_trim 2 (rmN 1) [.ref v0, .int v1] G D post := by
  obtain ⟨ho_v0, g1, hr_g1, ho_g1, hw⟩ := hw
  refine ctV_of (by decide) rfl (Nat.le_of_ble_eq_true rfl) ?_
  intro κ hκ C K
  subst hκ
  have C : Cx κ cX0_trim RX0 (rmN 1) 2 := C
  refine j_aload_n C dX0_trim_0 rfl 0 rfl ?_
  refine j_iload_n C dX0_trim_1 rfl 1 rfl ?_
  refine j_bipush (v := 12) C dX0_trim_2 (by decide) ?_
  refine j_mnI C k_518 ⟨by decide, Nat.le_of_ble_eq_true rfl⟩ ⟨Nat.zero_le _, Nat.zero_le _⟩ dX0_trim_4 ?_
  refine pf_0_1 C ho_v0 k_45 dX0_trim_7 ?_
  obtain ⟨n, hw⟩ := hw
  exact J.sub (X0_trim_l10_ok C K ho_v0 hr_g1 ho_g1 n (dI D v0 1 (mnI v1 12)) hw) [0] rfl
/-! X2_cost -/
def X2_cost_wp (G : Shp) (D : Dat) (v0 : Nat) (v1 : Nat) (post : Dat → Prop) : Prop := isO G v0 2 ∧ isO G v1 0 ∧ X2_cell_wp G D v0 (D.1 v0 11) (D.1 v0 11) (fun r1 D2 => ∃ y3, r1 = some y3 ∧ X0_copy_wp G D2 v1 y3 (fun D5 => post D5))
set_option maxRecDepth 100000 in
set_option maxHeartbeats 4000000 in
theorem X2_cost_ok (l : Launch) (G : Shp) (D : Dat) (v0 : Nat) (v1 : Nat) (post : Dat → Prop) (hw : X2_cost_wp G D v0 v1 post) : CtV l yX2_cost cX2_cost 2 (rmN 1) [.ref v0, .ref v1] G D post := by
  obtain ⟨ho_v0, ho_v1, hw⟩ := hw
  refine ctV_of (by decide) rfl (Nat.le_of_ble_eq_true rfl) ?_
  intro κ hκ C K
  subst hκ
  have C : Cx κ cX2_cost RX2 (rmN 1) 2 := C
  refine j_aload_n C dX2_cost_0 rfl 1 rfl ?_
  refine j_aload_n C dX2_cost_1 rfl 0 rfl ?_
  refine j_aload_n C dX2_cost_2 rfl 0 rfl ?_
  refine gf_2_11 C ho_v0 k_159 dX2_cost_3 ?_
  refine j_aload_n C dX2_cost_6 rfl 0 rfl ?_
  refine gf_2_11 C ho_v0 k_159 dX2_cost_7 ?_
  refine j_cVQ (As := [.int (D.1 v0 11), .int (D.1 v0 11)]) (st := [.ref v1]) C (X2_cell_ok κ.2.1 G D v0 (D.1 v0 11) (D.1 v0 11) _ hw) ho_v0 rfl k_473 mv_X2_cell ⟨by decide, by decide⟩ ⟨rfl, rfl⟩ rfl rfl (Nat.le_of_ble_eq_true rfl) ⟨Nat.zero_le _, Nat.zero_le _⟩ dX2_cost_10 (fun r1 D2 hw => ?_)
  obtain ⟨y3, rfl, hw⟩ := hw
  show J κ 0 0 G D2 13 [(0, .ref v0), (1, .ref v1)] [.ref y3, .ref v1]
  refine j_cVV (As := [.ref y3]) (st := []) C (X0_copy_ok κ.2.1 G D2 v1 y3 _ hw) ho_v1 rfl k_612 mv_X0_copy ⟨by decide, by decide⟩ ⟨rfl, rfl⟩ rfl rfl (Nat.le_of_ble_eq_true rfl) ⟨Nat.zero_le _, Nat.zero_le _⟩ dX2_cost_13 (fun D5 hw => ?_)
  exact K _ _ _ dX2_cost_16 hw
/-! X2_unknown -/
def X2_unknown_j22 (G : Shp) (post : Dat → Prop) (v0 : Nat) (v1 : Int32) (v2 : Nat) (g1 : Nat) (D : Dat) : Prop := post D
set_option maxRecDepth 100000 in
set_option maxHeartbeats 4000000 in
theorem X2_unknown_j22_ok {κ : Ctx} {G : Shp} {post : Dat → Prop} {v0 : Nat} {v1 : Int32} {v2 : Nat} {g1 : Nat} (C : Cx κ cX2_unknown RX2 (rmN 1) 3) (K : RtV κ cX2_unknown G post) (ho_v0 : isO G v0 2) (ho_v2 : isO G v2 0) (hr_g1 : G.2.2.2 v0 6 = some g1) (ho_g1 : isO G g1 14) (D : Dat) (hw : X2_unknown_j22 G post v0 v1 v2 g1 D) : J κ 0 0 G D 22 [] [] := by
  unfold X2_unknown_j22 at hw
  exact K _ _ _ dX2_unknown_22 hw
def X2_unknown_wp (G : Shp) (D : Dat) (v0 : Nat) (v1 : Int32) (v2 : Nat) (post : Dat → Prop) : Prop := isO G v0 2 ∧ isO G v2 0 ∧ ∃ g1, G.2.2.2 v0 6 = some g1 ∧ isO G g1 14 ∧ ((v1 < 0 → X2_unknown_j22 G post v0 v1 v2 g1 D) ∧ (¬ (v1 < 0) → (((D.1 v0 11) ≤ v1 → X2_unknown_j22 G post v0 v1 v2 g1 D) ∧ (¬ ((D.1 v0 11) ≤ v1) → (vp_in v1 (G.2.2.1 g1) ∧ ∃ y2, G.2.2.2 g1 v1.toNatClampNeg = some y2 ∧ isO G y2 0 ∧ X0_copy_wp G D v2 y2 (fun D6 => X2_unknown_j22 G post v0 v1 v2 g1 D6))))))
set_option maxRecDepth 100000 in
set_option maxHeartbeats 4000000 in
theorem X2_unknown_ok (l : Launch) (G : Shp) (D : Dat) (v0 : Nat) (v1 : Int32) (v2 : Nat) (post : Dat → Prop) (hw : X2_unknown_wp G D v0 v1 v2 post) : CtV l yX2_unknown cX2_unknown 3 (rmN 1) [.ref v0, .int v1, .ref v2] G D post := by
  obtain ⟨ho_v0, ho_v2, g1, hr_g1, ho_g1, hw⟩ := hw
  refine ctV_of (by decide) rfl (Nat.le_of_ble_eq_true rfl) ?_
  intro κ hκ C K
  subst hκ
  have C : Cx κ cX2_unknown RX2 (rmN 1) 3 := C
  refine j_iload_n C dX2_unknown_0 rfl 1 rfl ?_
  refine j_if_lt (tgt := 22) C dX2_unknown_1 (by decide) (fun hc => ?_) (fun hc => ?_)
  · have hw := hw.1 hc
    exact J.sub (X2_unknown_j22_ok C K ho_v0 ho_v2 hr_g1 ho_g1 D hw) [] rfl
  · have hw := hw.2 hc
    refine j_iload_n C dX2_unknown_4 rfl 1 rfl ?_
    refine j_aload_n C dX2_unknown_5 rfl 0 rfl ?_
    refine gf_2_11 C ho_v0 k_159 dX2_unknown_6 ?_
    refine j_icmp_ge (tgt := 22) C dX2_unknown_9 (by decide) (fun hc => ?_) (fun hc => ?_)
    · have hw := hw.1 hc
      exact J.sub (X2_unknown_j22_ok C K ho_v0 ho_v2 hr_g1 ho_g1 D hw) [] rfl
    · have hw := hw.2 hc
      refine j_aload_n C dX2_unknown_12 rfl 2 rfl ?_
      refine j_aload_n C dX2_unknown_13 rfl 0 rfl ?_
      refine gf_2_6 C ho_v0 hr_g1 k_152 dX2_unknown_14 ?_
      refine j_iload_n C dX2_unknown_17 rfl 1 rfl ?_
      obtain ⟨hi1, hw⟩ := hw
      obtain ⟨y2, hr3, ho4, hw⟩ := hw
      refine j_aaldBig C ho_g1 hi1 hr3 dX2_unknown_18 ?_
      refine j_cVV (As := [.ref y2]) (st := []) C (X0_copy_ok κ.2.1 G D v2 y2 _ hw) ho_v2 rfl k_612 mv_X0_copy ⟨by decide, by decide⟩ ⟨rfl, rfl⟩ rfl rfl (Nat.le_of_ble_eq_true rfl) ⟨Nat.zero_le _, Nat.zero_le _⟩ dX2_unknown_19 (fun D6 hw => ?_)
      exact J.sub (X2_unknown_j22_ok C K ho_v0 ho_v2 hr_g1 ho_g1 D6 hw) [] rfl
/-! X3_clearStepsAndFeasts -/
def X3_clearStepsAndFeasts_l9_b (G : Shp) (post : Dat → Prop) (v0 : Nat) (g1 : Nat) (g2 : Nat) (rec : Int32 → Dat → Prop) (v1 : Int32) (D : Dat) : Prop := ((2 ≤ v1 → post (dI D v0 5 0)) ∧ (¬ (2 ≤ v1) → (vp_in v1 (G.2.2.1 g2) ∧ ∃ y2, G.2.2.2 g2 v1.toNatClampNeg = some y2 ∧ isO G y2 7 ∧ X7_clear_wp G D y2 (fun D6 => rec (v1 + 1) D6))))
def X3_clearStepsAndFeasts_l9 (G : Shp) (post : Dat → Prop) (v0 : Nat) (g1 : Nat) (g2 : Nat) : Nat → Int32 → Dat → Prop
  | 0 => fun _ _ => False
  | n + 1 => X3_clearStepsAndFeasts_l9_b G post v0 g1 g2 (X3_clearStepsAndFeasts_l9 G post v0 g1 g2 n)
set_option maxRecDepth 100000 in
set_option maxHeartbeats 4000000 in
theorem X3_clearStepsAndFeasts_l9_ok {κ : Ctx} {G : Shp} {post : Dat → Prop} {v0 : Nat} {g1 : Nat} {g2 : Nat} (C : Cx κ cX3_clearStepsAndFeasts RX3 (rmN 1) 2) (K : RtV κ cX3_clearStepsAndFeasts G post) (ho_v0 : isO G v0 3) (hr_g1 : G.2.2.2 v0 3 = some g1) (ho_g1 : isO G g1 7) (hr_g2 : G.2.2.2 v0 4 = some g2) (ho_g2 : isO G g2 16) : ∀ (n : Nat) (v1 : Int32) (D : Dat), X3_clearStepsAndFeasts_l9 G post v0 g1 g2 n v1 D → J κ 0 0 G D 9 [(0, .ref v0), (1, .int v1)] [] := by
  intro n
  induction n with
  | zero => intro v1 D hw; exact hw.elim
  | succ n ih =>
    intro v1 D hw
    have hw : X3_clearStepsAndFeasts_l9_b G post v0 g1 g2 (X3_clearStepsAndFeasts_l9 G post v0 g1 g2 n) v1 D := hw
    unfold X3_clearStepsAndFeasts_l9_b at hw
    refine j_iload_n C dX3_clearStepsAndFeasts_9 rfl 1 rfl ?_
    refine j_iconst (v := 2) C dX3_clearStepsAndFeasts_10 (by decide) ?_
    refine j_icmp_ge (tgt := 29) C dX3_clearStepsAndFeasts_11 (by decide) (fun hc => ?_) (fun hc => ?_)
    · have hw := hw.1 hc
      refine j_aload_n C dX3_clearStepsAndFeasts_29 rfl 0 rfl ?_
      refine j_iconst (v := 0) C dX3_clearStepsAndFeasts_30 (by decide) ?_
      refine pf_3_5 C ho_v0 k_97 dX3_clearStepsAndFeasts_31 ?_
      exact K _ _ _ dX3_clearStepsAndFeasts_34 hw
    · have hw := hw.2 hc
      refine j_aload_n C dX3_clearStepsAndFeasts_14 rfl 0 rfl ?_
      refine gf_3_4 C ho_v0 hr_g2 k_94 dX3_clearStepsAndFeasts_15 ?_
      refine j_iload_n C dX3_clearStepsAndFeasts_18 rfl 1 rfl ?_
      obtain ⟨hi1, hw⟩ := hw
      obtain ⟨y2, hr3, ho4, hw⟩ := hw
      refine j_aaldTick C ho_g2 hi1 hr3 dX3_clearStepsAndFeasts_19 ?_
      refine j_cVV (As := []) (st := []) C (X7_clear_ok κ.2.1 G D y2 _ hw) ho4 rfl k_404 mv_X7_clear ⟨by decide, by decide⟩ ⟨rfl, rfl⟩ rfl rfl (Nat.le_of_ble_eq_true rfl) ⟨Nat.zero_le _, Nat.zero_le _⟩ dX3_clearStepsAndFeasts_20 (fun D6 hw => ?_)
      refine j_iinc (v := v1 + 1) C dX3_clearStepsAndFeasts_23 1 rfl rfl (by decide) rfl ?_
      refine j_goto (tgt := 9) C dX3_clearStepsAndFeasts_26 (by decide) ?_
      exact J.sub (ih (v1 + 1) D6 hw) [1, 0] rfl
def X3_clearStepsAndFeasts_wp (G : Shp) (D : Dat) (v0 : Nat) (post : Dat → Prop) : Prop := isO G v0 3 ∧ ∃ g1, G.2.2.2 v0 3 = some g1 ∧ isO G g1 7 ∧ ∃ g2, G.2.2.2 v0 4 = some g2 ∧ isO G g2 16 ∧ X7_clear_wp G D g1 (fun D2 => ∃ n, X3_clearStepsAndFeasts_l9 G post v0 g1 g2 n 0 D2)
set_option maxRecDepth 100000 in
set_option maxHeartbeats 4000000 in
theorem X3_clearStepsAndFeasts_ok (l : Launch) (G : Shp) (D : Dat) (v0 : Nat) (post : Dat → Prop) (hw : X3_clearStepsAndFeasts_wp G D v0 post) : CtV l yX3_clearStepsAndFeasts cX3_clearStepsAndFeasts 2 (rmN 1) [.ref v0] G D post := by
  obtain ⟨ho_v0, g1, hr_g1, ho_g1, g2, hr_g2, ho_g2, hw⟩ := hw
  refine ctV_of (by decide) rfl (Nat.le_of_ble_eq_true rfl) ?_
  intro κ hκ C K
  subst hκ
  have C : Cx κ cX3_clearStepsAndFeasts RX3 (rmN 1) 2 := C
  refine j_aload_n C dX3_clearStepsAndFeasts_0 rfl 0 rfl ?_
  refine gf_3_3 C ho_v0 hr_g1 k_91 dX3_clearStepsAndFeasts_1 ?_
  refine j_cVV (As := []) (st := []) C (X7_clear_ok κ.2.1 G D g1 _ hw) ho_g1 rfl k_404 mv_X7_clear ⟨by decide, by decide⟩ ⟨rfl, rfl⟩ rfl rfl (Nat.le_of_ble_eq_true rfl) ⟨Nat.zero_le _, Nat.zero_le _⟩ dX3_clearStepsAndFeasts_4 (fun D2 hw => ?_)
  refine j_iconst (v := 0) C dX3_clearStepsAndFeasts_7 (by decide) ?_
  refine j_istore_n C dX3_clearStepsAndFeasts_8 rfl (by decide) rfl ?_
  obtain ⟨n, hw⟩ := hw
  exact J.sub (X3_clearStepsAndFeasts_l9_ok C K ho_v0 hr_g1 ho_g1 hr_g2 ho_g2 n 0 D2 hw) [1, 0] rfl
/-! X4_byteAt -/
def X4_byteAt_j27 (G : Shp) (post : Int32 → Dat → Prop) (v0 : Nat) (v1 : Int32) (g1 : Nat) (s0 : Int32) (D : Dat) : Prop := post s0 D
set_option maxRecDepth 100000 in
set_option maxHeartbeats 4000000 in
theorem X4_byteAt_j27_ok {κ : Ctx} {G : Shp} {post : Int32 → Dat → Prop} {v0 : Nat} {v1 : Int32} {g1 : Nat} (C : Cx κ cX4_byteAt RX4 (rmN 1) 2) (K : RtI κ cX4_byteAt .int G post) (ho_v0 : isO G v0 4) (hr_g1 : G.2.2.2 v0 0 = some g1) (ho_g1 : isO G g1 10) (s0 : Int32) (D : Dat) (hw : X4_byteAt_j27 G post v0 v1 g1 s0 D) : J κ 0 0 G D 27 [] [.int s0] := by
  unfold X4_byteAt_j27 at hw
  exact K _ _ _ _ dX4_byteAt_27 rfl hw
def X4_byteAt_j26 (G : Shp) (post : Int32 → Dat → Prop) (v0 : Nat) (v1 : Int32) (g1 : Nat) (D : Dat) : Prop := X4_byteAt_j27 G post v0 v1 g1 (-1) D
set_option maxRecDepth 100000 in
set_option maxHeartbeats 4000000 in
theorem X4_byteAt_j26_ok {κ : Ctx} {G : Shp} {post : Int32 → Dat → Prop} {v0 : Nat} {v1 : Int32} {g1 : Nat} (C : Cx κ cX4_byteAt RX4 (rmN 1) 2) (K : RtI κ cX4_byteAt .int G post) (ho_v0 : isO G v0 4) (hr_g1 : G.2.2.2 v0 0 = some g1) (ho_g1 : isO G g1 10) (D : Dat) (hw : X4_byteAt_j26 G post v0 v1 g1 D) : J κ 0 0 G D 26 [] [] := by
  unfold X4_byteAt_j26 at hw
  refine j_iconst (v := (-1)) C dX4_byteAt_26 (by decide) ?_
  exact J.sub (X4_byteAt_j27_ok C K ho_v0 hr_g1 ho_g1 (-1) D hw) [] rfl
def X4_byteAt_wp (G : Shp) (D : Dat) (v0 : Nat) (v1 : Int32) (post : Int32 → Dat → Prop) : Prop := isO G v0 4 ∧ ∃ g1, G.2.2.2 v0 0 = some g1 ∧ isO G g1 10 ∧ ((v1 < 0 → X4_byteAt_j26 G post v0 v1 g1 D) ∧ (¬ (v1 < 0) → X4_length_wp G D v0 (fun r1 D2 => ((r1 ≤ v1 → X4_byteAt_j26 G post v0 v1 g1 D2) ∧ (¬ (r1 ≤ v1) → (vp_in ((D2.1 v0 1) + v1) (G.2.2.1 g1) ∧ X4_byteAt_j27 G post v0 v1 g1 (D2.1 g1 ((D2.1 v0 1) + v1).toNatClampNeg) D2))))))
set_option maxRecDepth 100000 in
set_option maxHeartbeats 4000000 in
theorem X4_byteAt_ok (l : Launch) (G : Shp) (D : Dat) (v0 : Nat) (v1 : Int32) (post : Int32 → Dat → Prop) (hw : X4_byteAt_wp G D v0 v1 post) : CtI l yX4_byteAt cX4_byteAt 2 .int (rmN 1) [.ref v0, .int v1] G D post := by
  obtain ⟨ho_v0, g1, hr_g1, ho_g1, hw⟩ := hw
  refine ctI_of (by decide) rfl (Nat.le_of_ble_eq_true rfl) ?_
  intro κ hκ C K
  subst hκ
  have C : Cx κ cX4_byteAt RX4 (rmN 1) 2 := C
  refine j_iload_n C dX4_byteAt_0 rfl 1 rfl ?_
  refine j_if_lt (tgt := 26) C dX4_byteAt_1 (by decide) (fun hc => ?_) (fun hc => ?_)
  · have hw := hw.1 hc
    exact J.sub (X4_byteAt_j26_ok C K ho_v0 hr_g1 ho_g1 D hw) [] rfl
  · have hw := hw.2 hc
    refine j_iload_n C dX4_byteAt_4 rfl 1 rfl ?_
    refine j_aload_n C dX4_byteAt_5 rfl 0 rfl ?_
    refine j_cVI (As := []) (st := [.int v1]) C (X4_length_ok κ.2.1 G D v0 _ hw) ho_v0 rfl k_291 mv_X4_length ⟨by decide, by decide⟩ ⟨rfl, rfl⟩ rfl rfl (Nat.le_of_ble_eq_true rfl) ⟨Nat.zero_le _, Nat.zero_le _⟩ dX4_byteAt_6 (fun r1 D2 hw => ?_)
    refine j_icmp_ge (tgt := 26) C dX4_byteAt_9 (by decide) (fun hc => ?_) (fun hc => ?_)
    · have hw := hw.1 hc
      exact J.sub (X4_byteAt_j26_ok C K ho_v0 hr_g1 ho_g1 D2 hw) [] rfl
    · have hw := hw.2 hc
      refine j_aload_n C dX4_byteAt_12 rfl 0 rfl ?_
      refine gf_4_0 C ho_v0 hr_g1 k_29 dX4_byteAt_13 ?_
      refine j_aload_n C dX4_byteAt_16 rfl 0 rfl ?_
      refine gf_4_1 C ho_v0 k_30 dX4_byteAt_17 ?_
      refine j_iload_n C dX4_byteAt_20 rfl 1 rfl ?_
      refine j_iadd C dX4_byteAt_21 ?_
      obtain ⟨hi3, hw⟩ := hw
      refine j_bald C ho_g1 hi3 dX4_byteAt_22 ?_
      refine j_goto (tgt := 27) C dX4_byteAt_23 (by decide) ?_
      exact J.sub (X4_byteAt_j27_ok C K ho_v0 hr_g1 ho_g1 (D2.1 g1 ((D2.1 v0 1) + v1).toNatClampNeg) D2 hw) [] rfl
/-! X6_addProduct -/
def X6_addProduct_j115 (G : Shp) (post : Dat → Prop) (v0 : Nat) (v1 : Nat) (v2 : Nat) (v3 : Int32) (g1 : Nat) (g2 : Nat) (g3 : Nat) (k30 : Int32 → Int32 → Dat → Prop) (v4 : Int32) (v5 : Int32) (D : Dat) : Prop := k30 v4 (v5 + 1) D
set_option maxRecDepth 100000 in
set_option maxHeartbeats 4000000 in
theorem X6_addProduct_j115_ok {κ : Ctx} {G : Shp} {post : Dat → Prop} {v0 : Nat} {v1 : Nat} {v2 : Nat} {v3 : Int32} {g1 : Nat} {g2 : Nat} {g3 : Nat} (C : Cx κ cX6_addProduct RX6 (rmN 1) 9) (K : RtV κ cX6_addProduct G post) (ho_v0 : isO G v0 6) (ho_v1 : isO G v1 0) (ho_v2 : isO G v2 0) (hr_g1 : G.2.2.2 v1 0 = some g1) (ho_g1 : isO G g1 12) (hr_g2 : G.2.2.2 v0 0 = some g2) (ho_g2 : isO G g2 12) (hr_g3 : G.2.2.2 v2 0 = some g3) (ho_g3 : isO G g3 12) {k30 : Int32 → Int32 → Dat → Prop} (hk30 : ∀ (v4 : Int32) (v5 : Int32) (D : Dat), k30 v4 v5 D → J κ 0 0 G D 30 [(0, .ref v0), (1, .ref v1), (2, .ref v2), (4, .int v4), (5, .int v5)] []) (v4 : Int32) (v5 : Int32) (D : Dat) (hw : X6_addProduct_j115 G post v0 v1 v2 v3 g1 g2 g3 k30 v4 v5 D) : J κ 0 0 G D 115 [(0, .ref v0), (1, .ref v1), (2, .ref v2), (4, .int v4), (5, .int v5)] [] := by
  unfold X6_addProduct_j115 at hw
  refine j_iinc (v := v5 + 1) C dX6_addProduct_115 4 rfl rfl (by decide) rfl ?_
  refine j_goto (tgt := 30) C dX6_addProduct_118 (by decide) ?_
  exact J.sub (hk30 v4 (v5 + 1) D hw) [1, 2, 3, 4, 0] rfl
def X6_addProduct_l67_b (G : Shp) (post : Dat → Prop) (v0 : Nat) (v1 : Nat) (v2 : Nat) (v3 : Int32) (g1 : Nat) (g2 : Nat) (g3 : Nat) (k30 : Int32 → Int32 → Dat → Prop) (rec : Int32 → Int32 → Int64 → Int32 → Dat → Prop) (v4 : Int32) (v5 : Int32) (v6 : Int64) (v8 : Int32) (D : Dat) : Prop := (((D.1 v2 1) ≤ v8 → X6_addProduct_j115 G post v0 v1 v2 v3 g1 g2 g3 k30 v4 v5 D) ∧ (¬ ((D.1 v2 1) ≤ v8) → ((12 ≤ (v5 + v8) → X6_addProduct_j115 G post v0 v1 v2 v3 g1 g2 g3 k30 v4 v5 D) ∧ (¬ (12 ≤ (v5 + v8)) → (vp_in (v5 + v8) (G.2.2.1 g2) ∧ vp_in v8 (G.2.2.1 g3) ∧ vp_in (v5 + v8) (G.2.2.1 g2) ∧ rec v4 v5 v6 (v8 + 1) (dJ D g2 (v5 + v8).toNatClampNeg ((D.2 g2 (v5 + v8).toNatClampNeg) + (v6 * (D.2 g3 v8.toNatClampNeg)))))))))
def X6_addProduct_l67 (G : Shp) (post : Dat → Prop) (v0 : Nat) (v1 : Nat) (v2 : Nat) (v3 : Int32) (g1 : Nat) (g2 : Nat) (g3 : Nat) (k30 : Int32 → Int32 → Dat → Prop) : Nat → Int32 → Int32 → Int64 → Int32 → Dat → Prop
  | 0 => fun _ _ _ _ _ => False
  | n + 1 => X6_addProduct_l67_b G post v0 v1 v2 v3 g1 g2 g3 k30 (X6_addProduct_l67 G post v0 v1 v2 v3 g1 g2 g3 k30 n)
set_option maxRecDepth 100000 in
set_option maxHeartbeats 4000000 in
theorem X6_addProduct_l67_ok {κ : Ctx} {G : Shp} {post : Dat → Prop} {v0 : Nat} {v1 : Nat} {v2 : Nat} {v3 : Int32} {g1 : Nat} {g2 : Nat} {g3 : Nat} (C : Cx κ cX6_addProduct RX6 (rmN 1) 9) (K : RtV κ cX6_addProduct G post) (ho_v0 : isO G v0 6) (ho_v1 : isO G v1 0) (ho_v2 : isO G v2 0) (hr_g1 : G.2.2.2 v1 0 = some g1) (ho_g1 : isO G g1 12) (hr_g2 : G.2.2.2 v0 0 = some g2) (ho_g2 : isO G g2 12) (hr_g3 : G.2.2.2 v2 0 = some g3) (ho_g3 : isO G g3 12) {k30 : Int32 → Int32 → Dat → Prop} (hk30 : ∀ (v4 : Int32) (v5 : Int32) (D : Dat), k30 v4 v5 D → J κ 0 0 G D 30 [(0, .ref v0), (1, .ref v1), (2, .ref v2), (4, .int v4), (5, .int v5)] []) : ∀ (n : Nat) (v4 : Int32) (v5 : Int32) (v6 : Int64) (v8 : Int32) (D : Dat), X6_addProduct_l67 G post v0 v1 v2 v3 g1 g2 g3 k30 n v4 v5 v6 v8 D → J κ 0 0 G D 67 [(0, .ref v0), (1, .ref v1), (2, .ref v2), (4, .int v4), (5, .int v5), (6, .long v6), (8, .int v8)] [] := by
  intro n
  induction n with
  | zero => intro v4 v5 v6 v8 D hw; exact hw.elim
  | succ n ih =>
    intro v4 v5 v6 v8 D hw
    have hw : X6_addProduct_l67_b G post v0 v1 v2 v3 g1 g2 g3 k30 (X6_addProduct_l67 G post v0 v1 v2 v3 g1 g2 g3 k30 n) v4 v5 v6 v8 D := hw
    unfold X6_addProduct_l67_b at hw
    refine j_iload C dX6_addProduct_67 6 rfl ?_
    refine j_aload_n C dX6_addProduct_69 rfl 2 rfl ?_
    refine gf_0_1 C ho_v2 k_46 dX6_addProduct_70 ?_
    refine j_icmp_ge (tgt := 115) C dX6_addProduct_73 (by decide) (fun hc => ?_) (fun hc => ?_)
    · have hw := hw.1 hc
      exact J.sub (X6_addProduct_j115_ok C K ho_v0 ho_v1 ho_v2 hr_g1 ho_g1 hr_g2 ho_g2 hr_g3 ho_g3 hk30 v4 v5 D hw) [0, 1, 2, 3, 4] rfl
    · have hw := hw.2 hc
      refine j_iload C dX6_addProduct_76 4 rfl ?_
      refine j_iload C dX6_addProduct_78 6 rfl ?_
      refine j_iadd C dX6_addProduct_80 ?_
      refine j_bipush (v := 12) C dX6_addProduct_81 (by decide) ?_
      refine j_icmp_ge (tgt := 115) C dX6_addProduct_83 (by decide) (fun hc => ?_) (fun hc => ?_)
      · have hw := hw.1 hc
        exact J.sub (X6_addProduct_j115_ok C K ho_v0 ho_v1 ho_v2 hr_g1 ho_g1 hr_g2 ho_g2 hr_g3 ho_g3 hk30 v4 v5 D hw) [0, 1, 2, 3, 4] rfl
      · have hw := hw.2 hc
        refine j_aload_n C dX6_addProduct_86 rfl 0 rfl ?_
        refine gf_6_0 C ho_v0 hr_g2 k_128 dX6_addProduct_87 ?_
        refine j_iload C dX6_addProduct_90 4 rfl ?_
        refine j_iload C dX6_addProduct_92 6 rfl ?_
        refine j_iadd C dX6_addProduct_94 ?_
        refine j_dup2 C dX6_addProduct_95 rfl rfl ?_
        obtain ⟨hi1, hw⟩ := hw
        refine j_lald C ho_g2 hi1 dX6_addProduct_96 ?_
        refine j_lload C dX6_addProduct_97 5 rfl ?_
        refine j_aload_n C dX6_addProduct_99 rfl 2 rfl ?_
        refine gf_0_0 C ho_v2 hr_g3 k_44 dX6_addProduct_100 ?_
        refine j_iload C dX6_addProduct_103 6 rfl ?_
        obtain ⟨hi2, hw⟩ := hw
        refine j_lald C ho_g3 hi2 dX6_addProduct_105 ?_
        refine j_lmul C dX6_addProduct_106 ?_
        refine j_ladd C dX6_addProduct_107 ?_
        obtain ⟨hi3, hw⟩ := hw
        refine j_last C ho_g2 hi3 dX6_addProduct_108 ?_
        refine j_iinc (v := v8 + 1) C dX6_addProduct_109 6 rfl rfl (by decide) rfl ?_
        refine j_goto (tgt := 67) C dX6_addProduct_112 (by decide) ?_
        exact J.sub (ih v4 v5 v6 (v8 + 1) (dJ D g2 (v5 + v8).toNatClampNeg ((D.2 g2 (v5 + v8).toNatClampNeg) + (v6 * (D.2 g3 v8.toNatClampNeg)))) hw) [1, 2, 3, 4, 5, 6, 0] rfl
def X6_addProduct_j62 (G : Shp) (post : Dat → Prop) (v0 : Nat) (v1 : Nat) (v2 : Nat) (v3 : Int32) (g1 : Nat) (g2 : Nat) (g3 : Nat) (k30 : Int32 → Int32 → Dat → Prop) (v4 : Int32) (v5 : Int32) (s0 : Int64) (D : Dat) : Prop := ∃ n, X6_addProduct_l67 G post v0 v1 v2 v3 g1 g2 g3 k30 n v4 v5 s0 0 D
set_option maxRecDepth 100000 in
set_option maxHeartbeats 4000000 in
theorem X6_addProduct_j62_ok {κ : Ctx} {G : Shp} {post : Dat → Prop} {v0 : Nat} {v1 : Nat} {v2 : Nat} {v3 : Int32} {g1 : Nat} {g2 : Nat} {g3 : Nat} (C : Cx κ cX6_addProduct RX6 (rmN 1) 9) (K : RtV κ cX6_addProduct G post) (ho_v0 : isO G v0 6) (ho_v1 : isO G v1 0) (ho_v2 : isO G v2 0) (hr_g1 : G.2.2.2 v1 0 = some g1) (ho_g1 : isO G g1 12) (hr_g2 : G.2.2.2 v0 0 = some g2) (ho_g2 : isO G g2 12) (hr_g3 : G.2.2.2 v2 0 = some g3) (ho_g3 : isO G g3 12) {k30 : Int32 → Int32 → Dat → Prop} (hk30 : ∀ (v4 : Int32) (v5 : Int32) (D : Dat), k30 v4 v5 D → J κ 0 0 G D 30 [(0, .ref v0), (1, .ref v1), (2, .ref v2), (4, .int v4), (5, .int v5)] []) (v4 : Int32) (v5 : Int32) (s0 : Int64) (D : Dat) (hw : X6_addProduct_j62 G post v0 v1 v2 v3 g1 g2 g3 k30 v4 v5 s0 D) : J κ 0 0 G D 62 [(0, .ref v0), (1, .ref v1), (2, .ref v2), (4, .int v4), (5, .int v5)] [.long s0] := by
  unfold X6_addProduct_j62 at hw
  refine j_lstore C dX6_addProduct_62 (by decide) rfl ?_
  refine j_iconst (v := 0) C dX6_addProduct_64 (by decide) ?_
  refine j_istore C dX6_addProduct_65 (by decide) rfl ?_
  obtain ⟨n, hw⟩ := hw
  exact J.sub (X6_addProduct_l67_ok C K ho_v0 ho_v1 ho_v2 hr_g1 ho_g1 hr_g2 ho_g2 hr_g3 ho_g3 hk30 n v4 v5 s0 0 D hw) [2, 3, 4, 5, 6, 1, 0] rfl
def X6_addProduct_l30_b (G : Shp) (post : Dat → Prop) (v0 : Nat) (v1 : Nat) (v2 : Nat) (v3 : Int32) (g1 : Nat) (g2 : Nat) (g3 : Nat) (rec : Int32 → Int32 → Dat → Prop) (v4 : Int32) (v5 : Int32) (D : Dat) : Prop := (((D.1 v1 1) ≤ v5 → post (dI D v0 1 (mxI (D.1 v0 1) ((D.1 v1 1) + (D.1 v2 1))))) ∧ (¬ ((D.1 v1 1) ≤ v5) → ((v4 = 0 → (vp_in v5 (G.2.2.1 g1) ∧ X6_addProduct_j62 G post v0 v1 v2 v3 g1 g2 g3 rec v4 v5 (D.2 g1 v5.toNatClampNeg) D)) ∧ (¬ (v4 = 0) → (vp_in v5 (G.2.2.1 g1) ∧ X6_addProduct_j62 G post v0 v1 v2 v3 g1 g2 g3 rec v4 v5 (-(D.2 g1 v5.toNatClampNeg)) D)))))
def X6_addProduct_l30 (G : Shp) (post : Dat → Prop) (v0 : Nat) (v1 : Nat) (v2 : Nat) (v3 : Int32) (g1 : Nat) (g2 : Nat) (g3 : Nat) : Nat → Int32 → Int32 → Dat → Prop
  | 0 => fun _ _ _ => False
  | n + 1 => X6_addProduct_l30_b G post v0 v1 v2 v3 g1 g2 g3 (X6_addProduct_l30 G post v0 v1 v2 v3 g1 g2 g3 n)
set_option maxRecDepth 100000 in
set_option maxHeartbeats 4000000 in
theorem X6_addProduct_l30_ok {κ : Ctx} {G : Shp} {post : Dat → Prop} {v0 : Nat} {v1 : Nat} {v2 : Nat} {v3 : Int32} {g1 : Nat} {g2 : Nat} {g3 : Nat} (C : Cx κ cX6_addProduct RX6 (rmN 1) 9) (K : RtV κ cX6_addProduct G post) (ho_v0 : isO G v0 6) (ho_v1 : isO G v1 0) (ho_v2 : isO G v2 0) (hr_g1 : G.2.2.2 v1 0 = some g1) (ho_g1 : isO G g1 12) (hr_g2 : G.2.2.2 v0 0 = some g2) (ho_g2 : isO G g2 12) (hr_g3 : G.2.2.2 v2 0 = some g3) (ho_g3 : isO G g3 12) : ∀ (n : Nat) (v4 : Int32) (v5 : Int32) (D : Dat), X6_addProduct_l30 G post v0 v1 v2 v3 g1 g2 g3 n v4 v5 D → J κ 0 0 G D 30 [(0, .ref v0), (1, .ref v1), (2, .ref v2), (4, .int v4), (5, .int v5)] [] := by
  intro n
  induction n with
  | zero => intro v4 v5 D hw; exact hw.elim
  | succ n ih =>
    intro v4 v5 D hw
    have hw : X6_addProduct_l30_b G post v0 v1 v2 v3 g1 g2 g3 (X6_addProduct_l30 G post v0 v1 v2 v3 g1 g2 g3 n) v4 v5 D := hw
    unfold X6_addProduct_l30_b at hw
    refine j_iload C dX6_addProduct_30 4 rfl ?_
    refine j_aload_n C dX6_addProduct_32 rfl 1 rfl ?_
    refine gf_0_1 C ho_v1 k_46 dX6_addProduct_33 ?_
    refine j_icmp_ge (tgt := 121) C dX6_addProduct_36 (by decide) (fun hc => ?_) (fun hc => ?_)
    · have hw := hw.1 hc
      refine j_aload_n C dX6_addProduct_121 rfl 0 rfl ?_
      refine j_aload_n C dX6_addProduct_122 rfl 0 rfl ?_
      refine gf_6_1 C ho_v0 k_129 dX6_addProduct_123 ?_
      refine j_aload_n C dX6_addProduct_126 rfl 1 rfl ?_
      refine gf_0_1 C ho_v1 k_46 dX6_addProduct_127 ?_
      refine j_aload_n C dX6_addProduct_130 rfl 2 rfl ?_
      refine gf_0_1 C ho_v2 k_46 dX6_addProduct_131 ?_
      refine j_iadd C dX6_addProduct_134 ?_
      refine j_mxI C k_502 ⟨by decide, Nat.le_of_ble_eq_true rfl⟩ ⟨Nat.zero_le _, Nat.zero_le _⟩ dX6_addProduct_135 ?_
      refine pf_6_1 C ho_v0 k_129 dX6_addProduct_138 ?_
      exact K _ _ _ dX6_addProduct_141 hw
    · have hw := hw.2 hc
      refine j_iload C dX6_addProduct_39 3 rfl ?_
      refine j_if_eq (tgt := 55) C dX6_addProduct_41 (by decide) (fun hc => ?_) (fun hc => ?_)
      · have hw := hw.1 hc
        refine j_aload_n C dX6_addProduct_55 rfl 1 rfl ?_
        refine gf_0_0 C ho_v1 hr_g1 k_44 dX6_addProduct_56 ?_
        refine j_iload C dX6_addProduct_59 4 rfl ?_
        obtain ⟨hi1, hw⟩ := hw
        refine j_lald C ho_g1 hi1 dX6_addProduct_61 ?_
        exact J.sub (X6_addProduct_j62_ok C K ho_v0 ho_v1 ho_v2 hr_g1 ho_g1 hr_g2 ho_g2 hr_g3 ho_g3 ih v4 v5 (D.2 g1 v5.toNatClampNeg) D hw) [0, 1, 2, 3, 4] rfl
      · have hw := hw.2 hc
        refine j_aload_n C dX6_addProduct_44 rfl 1 rfl ?_
        refine gf_0_0 C ho_v1 hr_g1 k_44 dX6_addProduct_45 ?_
        refine j_iload C dX6_addProduct_48 4 rfl ?_
        obtain ⟨hi2, hw⟩ := hw
        refine j_lald C ho_g1 hi2 dX6_addProduct_50 ?_
        refine j_lneg C dX6_addProduct_51 ?_
        refine j_goto (tgt := 62) C dX6_addProduct_52 (by decide) ?_
        exact J.sub (X6_addProduct_j62_ok C K ho_v0 ho_v1 ho_v2 hr_g1 ho_g1 hr_g2 ho_g2 hr_g3 ho_g3 ih v4 v5 (-(D.2 g1 v5.toNatClampNeg)) D hw) [0, 1, 2, 3, 4] rfl
def X6_addProduct_j25 (G : Shp) (post : Dat → Prop) (v0 : Nat) (v1 : Nat) (v2 : Nat) (v3 : Int32) (g1 : Nat) (g2 : Nat) (g3 : Nat) (s0 : Int32) (D : Dat) : Prop := ∃ n, X6_addProduct_l30 G post v0 v1 v2 v3 g1 g2 g3 n s0 0 D
set_option maxRecDepth 100000 in
set_option maxHeartbeats 4000000 in
theorem X6_addProduct_j25_ok {κ : Ctx} {G : Shp} {post : Dat → Prop} {v0 : Nat} {v1 : Nat} {v2 : Nat} {v3 : Int32} {g1 : Nat} {g2 : Nat} {g3 : Nat} (C : Cx κ cX6_addProduct RX6 (rmN 1) 9) (K : RtV κ cX6_addProduct G post) (ho_v0 : isO G v0 6) (ho_v1 : isO G v1 0) (ho_v2 : isO G v2 0) (hr_g1 : G.2.2.2 v1 0 = some g1) (ho_g1 : isO G g1 12) (hr_g2 : G.2.2.2 v0 0 = some g2) (ho_g2 : isO G g2 12) (hr_g3 : G.2.2.2 v2 0 = some g3) (ho_g3 : isO G g3 12) (s0 : Int32) (D : Dat) (hw : X6_addProduct_j25 G post v0 v1 v2 v3 g1 g2 g3 s0 D) : J κ 0 0 G D 25 [(0, .ref v0), (1, .ref v1), (2, .ref v2)] [.int s0] := by
  unfold X6_addProduct_j25 at hw
  refine j_istore C dX6_addProduct_25 (by decide) rfl ?_
  refine j_iconst (v := 0) C dX6_addProduct_27 (by decide) ?_
  refine j_istore C dX6_addProduct_28 (by decide) rfl ?_
  obtain ⟨n, hw⟩ := hw
  exact J.sub (X6_addProduct_l30_ok C K ho_v0 ho_v1 ho_v2 hr_g1 ho_g1 hr_g2 ho_g2 hr_g3 ho_g3 n s0 0 D hw) [2, 3, 4, 1, 0] rfl
def X6_addProduct_j16 (G : Shp) (post : Dat → Prop) (v0 : Nat) (v1 : Nat) (v2 : Nat) (v3 : Int32) (g1 : Nat) (g2 : Nat) (g3 : Nat) (s0 : Int32) (D : Dat) : Prop := ((s0 = v3 → X6_addProduct_j25 G post v0 v1 v2 v3 g1 g2 g3 0 D) ∧ (¬ (s0 = v3) → X6_addProduct_j25 G post v0 v1 v2 v3 g1 g2 g3 1 D))
set_option maxRecDepth 100000 in
set_option maxHeartbeats 4000000 in
theorem X6_addProduct_j16_ok {κ : Ctx} {G : Shp} {post : Dat → Prop} {v0 : Nat} {v1 : Nat} {v2 : Nat} {v3 : Int32} {g1 : Nat} {g2 : Nat} {g3 : Nat} (C : Cx κ cX6_addProduct RX6 (rmN 1) 9) (K : RtV κ cX6_addProduct G post) (ho_v0 : isO G v0 6) (ho_v1 : isO G v1 0) (ho_v2 : isO G v2 0) (hr_g1 : G.2.2.2 v1 0 = some g1) (ho_g1 : isO G g1 12) (hr_g2 : G.2.2.2 v0 0 = some g2) (ho_g2 : isO G g2 12) (hr_g3 : G.2.2.2 v2 0 = some g3) (ho_g3 : isO G g3 12) (s0 : Int32) (D : Dat) (hw : X6_addProduct_j16 G post v0 v1 v2 v3 g1 g2 g3 s0 D) : J κ 0 0 G D 16 [(0, .ref v0), (1, .ref v1), (2, .ref v2), (3, .int v3)] [.int s0] := by
  unfold X6_addProduct_j16 at hw
  refine j_iload_n C dX6_addProduct_16 rfl 3 rfl ?_
  refine j_icmp_eq (tgt := 24) C dX6_addProduct_17 (by decide) (fun hc => ?_) (fun hc => ?_)
  · have hw := hw.1 hc
    refine j_iconst (v := 0) C dX6_addProduct_24 (by decide) ?_
    exact J.sub (X6_addProduct_j25_ok C K ho_v0 ho_v1 ho_v2 hr_g1 ho_g1 hr_g2 ho_g2 hr_g3 ho_g3 0 D hw) [0, 1, 2] rfl
  · have hw := hw.2 hc
    refine j_iconst (v := 1) C dX6_addProduct_20 (by decide) ?_
    refine j_goto (tgt := 25) C dX6_addProduct_21 (by decide) ?_
    exact J.sub (X6_addProduct_j25_ok C K ho_v0 ho_v1 ho_v2 hr_g1 ho_g1 hr_g2 ho_g2 hr_g3 ho_g3 1 D hw) [0, 1, 2] rfl
def X6_addProduct_wp (G : Shp) (D : Dat) (v0 : Nat) (v1 : Nat) (v2 : Nat) (v3 : Int32) (post : Dat → Prop) : Prop := isO G v0 6 ∧ isO G v1 0 ∧ isO G v2 0 ∧ ∃ g1, G.2.2.2 v1 0 = some g1 ∧ isO G g1 12 ∧ ∃ g2, G.2.2.2 v0 0 = some g2 ∧ isO G g2 12 ∧ ∃ g3, G.2.2.2 v2 0 = some g3 ∧ isO G g3 12 ∧ (((D.1 v1 2) = (D.1 v2 2) → X6_addProduct_j16 G post v0 v1 v2 v3 g1 g2 g3 0 D) ∧ (¬ ((D.1 v1 2) = (D.1 v2 2)) → X6_addProduct_j16 G post v0 v1 v2 v3 g1 g2 g3 1 D))
set_option maxRecDepth 100000 in
set_option maxHeartbeats 4000000 in
theorem X6_addProduct_ok (l : Launch) (G : Shp) (D : Dat) (v0 : Nat) (v1 : Nat) (v2 : Nat) (v3 : Int32) (post : Dat → Prop) (hw : X6_addProduct_wp G D v0 v1 v2 v3 post) : CtV l yX6_addProduct cX6_addProduct 9 (rmN 1) [.ref v0, .ref v1, .ref v2, .int v3] G D post := by
  obtain ⟨ho_v0, ho_v1, ho_v2, g1, hr_g1, ho_g1, g2, hr_g2, ho_g2, g3, hr_g3, ho_g3, hw⟩ := hw
  refine ctV_of (by decide) rfl (Nat.le_of_ble_eq_true rfl) ?_
  intro κ hκ C K
  subst hκ
  have C : Cx κ cX6_addProduct RX6 (rmN 1) 9 := C
  refine j_aload_n C dX6_addProduct_0 rfl 1 rfl ?_
  refine gf_0_2 C ho_v1 k_48 dX6_addProduct_1 ?_
  refine j_aload_n C dX6_addProduct_4 rfl 2 rfl ?_
  refine gf_0_2 C ho_v2 k_48 dX6_addProduct_5 ?_
  refine j_icmp_eq (tgt := 15) C dX6_addProduct_8 (by decide) (fun hc => ?_) (fun hc => ?_)
  · have hw := hw.1 hc
    refine j_iconst (v := 0) C dX6_addProduct_15 (by decide) ?_
    exact J.sub (X6_addProduct_j16_ok C K ho_v0 ho_v1 ho_v2 hr_g1 ho_g1 hr_g2 ho_g2 hr_g3 ho_g3 0 D hw) [0, 1, 2, 3] rfl
  · have hw := hw.2 hc
    refine j_iconst (v := 1) C dX6_addProduct_11 (by decide) ?_
    refine j_goto (tgt := 16) C dX6_addProduct_12 (by decide) ?_
    exact J.sub (X6_addProduct_j16_ok C K ho_v0 ho_v1 ho_v2 hr_g1 ho_g1 hr_g2 ho_g2 hr_g3 ho_g3 1 D hw) [0, 1, 2, 3] rfl
