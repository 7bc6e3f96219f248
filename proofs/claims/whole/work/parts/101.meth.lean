/-! J7_fill_d0a16 -/
def J7_fill_d0a16_l6_b (G : Shp) (post : Dat → Prop) (v0 : Nat) (v1 : Int64) (rec : Int32 → Int32 → Dat → Prop) (v3 : Int32) (v4 : Int32) (D : Dat) : Prop := ((v4 ≤ v3 → post D) ∧ (¬ (v4 ≤ v3) → (vp_in v3 (G.2.2.1 v0) ∧ rec (v3 + 1) v4 (dJ D v0 v3.toNatClampNeg v1))))
def J7_fill_d0a16_l6 (G : Shp) (post : Dat → Prop) (v0 : Nat) (v1 : Int64) : Nat → Int32 → Int32 → Dat → Prop
  | 0 => fun _ _ _ => False
  | n + 1 => J7_fill_d0a16_l6_b G post v0 v1 (J7_fill_d0a16_l6 G post v0 v1 n)
set_option maxRecDepth 100000 in
set_option maxHeartbeats 4000000 in
theorem J7_fill_d0a16_l6_ok {κ : Ctx} {G : Shp} {post : Dat → Prop} {v0 : Nat} {v1 : Int64} (C : Cx κ cJ7_fill_d0a16 RJ7 (rmN 0) 5) (K : RtV κ cJ7_fill_d0a16 G post) (ho_v0 : isO G v0 12) : ∀ (n : Nat) (v3 : Int32) (v4 : Int32) (D : Dat), J7_fill_d0a16_l6 G post v0 v1 n v3 v4 D → J κ 0 0 G D 6 [(0, .ref v0), (1, .long v1), (3, .int v3), (4, .int v4)] [] := by
  intro n
  induction n with
  | zero => intro v3 v4 D hw; exact hw.elim
  | succ n ih =>
    intro v3 v4 D hw
    have hw : J7_fill_d0a16_l6_b G post v0 v1 (J7_fill_d0a16_l6 G post v0 v1 n) v3 v4 D := hw
    unfold J7_fill_d0a16_l6_b at hw
    refine j_iload_n C dJ7_fill_d0a16_6 rfl 2 rfl ?_
    refine j_iload C dJ7_fill_d0a16_7 3 rfl ?_
    refine j_icmp_ge (tgt := 22) C dJ7_fill_d0a16_9 (by decide) (fun hc => ?_) (fun hc => ?_)
    · have hw := hw.1 hc
      exact K _ _ _ dJ7_fill_d0a16_22 hw
    · have hw := hw.2 hc
      refine j_aload_n C dJ7_fill_d0a16_12 rfl 0 rfl ?_
      refine j_iload_n C dJ7_fill_d0a16_13 rfl 2 rfl ?_
      refine j_lload_n C dJ7_fill_d0a16_14 rfl 1 rfl ?_
      obtain ⟨hi1, hw⟩ := hw
      refine j_last C ho_v0 hi1 dJ7_fill_d0a16_15 ?_
      refine j_iinc (v := v3 + 1) C dJ7_fill_d0a16_16 2 rfl rfl (by decide) rfl ?_
      refine j_goto (tgt := 6) C dJ7_fill_d0a16_19 (by decide) ?_
      exact J.sub (ih (v3 + 1) v4 (dJ D v0 v3.toNatClampNeg v1) hw) [1, 2, 0, 3] rfl
def J7_fill_d0a16_wp (G : Shp) (D : Dat) (v0 : Nat) (v1 : Int64) (post : Dat → Prop) : Prop := isO G v0 12 ∧ ∃ n, J7_fill_d0a16_l6 G post v0 v1 n 0 (Int32.ofNat (G.2.2.1 v0)) D
set_option maxRecDepth 100000 in
set_option maxHeartbeats 4000000 in
theorem J7_fill_d0a16_ok (l : Launch) (G : Shp) (D : Dat) (v0 : Nat) (v1 : Int64) (post : Dat → Prop) (hw : J7_fill_d0a16_wp G D v0 v1 post) : CtV l yJ7_fill_d0a16 cJ7_fill_d0a16 5 (rmN 0) [.ref v0, .long v1] G D post := by
  obtain ⟨ho_v0, hw⟩ := hw
  refine ctV_of (by decide) rfl (Nat.le_of_ble_eq_true rfl) ?_
  intro κ hκ C K
  subst hκ
  have C : Cx κ cJ7_fill_d0a16 RJ7 (rmN 0) 5 := C
  refine j_iconst (v := 0) C dJ7_fill_d0a16_0 (by decide) ?_
  refine j_istore_n C dJ7_fill_d0a16_1 rfl (by decide) rfl ?_
  refine j_aload_n C dJ7_fill_d0a16_2 rfl 1 rfl ?_
  refine j_alenJ C ho_v0 dJ7_fill_d0a16_3 ?_
  refine j_istore C dJ7_fill_d0a16_4 (by decide) rfl ?_
  obtain ⟨n, hw⟩ := hw
  exact J.sub (J7_fill_d0a16_l6_ok C K ho_v0 n 0 (Int32.ofNat (G.2.2.1 v0)) D hw) [2, 3, 1, 0] rfl
/-! X0_compareSize -/
def X0_compareSize_j76 (G : Shp) (post : Int32 → Dat → Prop) (v0 : Nat) (v1 : Nat) (g1 : Nat) (g2 : Nat) (s0 : Int32) (D : Dat) : Prop := post s0 D
set_option maxRecDepth 100000 in
set_option maxHeartbeats 4000000 in
theorem X0_compareSize_j76_ok {κ : Ctx} {G : Shp} {post : Int32 → Dat → Prop} {v0 : Nat} {v1 : Nat} {g1 : Nat} {g2 : Nat} (C : Cx κ cX0_compareSize RX0 (rmN 0) 3) (K : RtI κ cX0_compareSize .int G post) (ho_v0 : isO G v0 0) (ho_v1 : isO G v1 0) (hr_g1 : G.2.2.2 v0 0 = some g1) (ho_g1 : isO G g1 12) (hr_g2 : G.2.2.2 v1 0 = some g2) (ho_g2 : isO G g2 12) (s0 : Int32) (D : Dat) (hw : X0_compareSize_j76 G post v0 v1 g1 g2 s0 D) : J κ 0 0 G D 76 [] [.int s0] := by
  unfold X0_compareSize_j76 at hw
  exact K _ _ _ _ dX0_compareSize_76 rfl hw
def X0_compareSize_l35_b (G : Shp) (post : Int32 → Dat → Prop) (v0 : Nat) (v1 : Nat) (g1 : Nat) (g2 : Nat) (rec : Int32 → Dat → Prop) (v2 : Int32) (D : Dat) : Prop := ((v2 < 0 → post 0 D) ∧ (¬ (v2 < 0) → (vp_in v2 (G.2.2.1 g1) ∧ vp_in v2 (G.2.2.1 g2) ∧ (((D.2 g1 v2.toNatClampNeg) = (D.2 g2 v2.toNatClampNeg) → rec (v2 + (-1)) D) ∧ (¬ ((D.2 g1 v2.toNatClampNeg) = (D.2 g2 v2.toNatClampNeg)) → (vp_in v2 (G.2.2.1 g1) ∧ vp_in v2 (G.2.2.1 g2) ∧ (((D.2 g2 v2.toNatClampNeg) ≤ (D.2 g1 v2.toNatClampNeg) → X0_compareSize_j76 G post v0 v1 g1 g2 1 D) ∧ (¬ ((D.2 g2 v2.toNatClampNeg) ≤ (D.2 g1 v2.toNatClampNeg)) → X0_compareSize_j76 G post v0 v1 g1 g2 (-1) D))))))))
def X0_compareSize_l35 (G : Shp) (post : Int32 → Dat → Prop) (v0 : Nat) (v1 : Nat) (g1 : Nat) (g2 : Nat) : Nat → Int32 → Dat → Prop
  | 0 => fun _ _ => False
  | n + 1 => X0_compareSize_l35_b G post v0 v1 g1 g2 (X0_compareSize_l35 G post v0 v1 g1 g2 n)
set_option maxRecDepth 100000 in
set_option maxHeartbeats 4000000 in
theorem X0_compareSize_l35_ok {κ : Ctx} {G : Shp} {post : Int32 → Dat → Prop} {v0 : Nat} {v1 : Nat} {g1 : Nat} {g2 : Nat} (C : Cx κ cX0_compareSize RX0 (rmN 0) 3) (K : RtI κ cX0_compareSize .int G post) (ho_v0 : isO G v0 0) (ho_v1 : isO G v1 0) (hr_g1 : G.2.2.2 v0 0 = some g1) (ho_g1 : isO G g1 12) (hr_g2 : G.2.2.2 v1 0 = some g2) (ho_g2 : isO G g2 12) : ∀ (n : Nat) (v2 : Int32) (D : Dat), X0_compareSize_l35 G post v0 v1 g1 g2 n v2 D → J κ 0 0 G D 35 [(0, .ref v0), (1, .ref v1), (2, .int v2)] [] := by
  intro n
  induction n with
  | zero => intro v2 D hw; exact hw.elim
  | succ n ih =>
    intro v2 D hw
    have hw : X0_compareSize_l35_b G post v0 v1 g1 g2 (X0_compareSize_l35 G post v0 v1 g1 g2 n) v2 D := hw
    unfold X0_compareSize_l35_b at hw
    refine j_iload_n C dX0_compareSize_35 rfl 2 rfl ?_
    refine j_if_lt (tgt := 83) C dX0_compareSize_36 (by decide) (fun hc => ?_) (fun hc => ?_)
    · have hw := hw.1 hc
      refine j_iconst (v := 0) C dX0_compareSize_83 (by decide) ?_
      exact K _ _ _ _ dX0_compareSize_84 rfl hw
    · have hw := hw.2 hc
      refine j_aload_n C dX0_compareSize_39 rfl 0 rfl ?_
      refine gf_0_0 C ho_v0 hr_g1 k_43 dX0_compareSize_40 ?_
      refine j_iload_n C dX0_compareSize_43 rfl 2 rfl ?_
      obtain ⟨hi1, hw⟩ := hw
      refine j_lald C ho_g1 hi1 dX0_compareSize_44 ?_
      refine j_aload_n C dX0_compareSize_45 rfl 1 rfl ?_
      refine gf_0_0 C ho_v1 hr_g2 k_43 dX0_compareSize_46 ?_
      refine j_iload_n C dX0_compareSize_49 rfl 2 rfl ?_
      obtain ⟨hi2, hw⟩ := hw
      refine j_lald C ho_g2 hi2 dX0_compareSize_50 ?_
      refine j_lcmp_eq (tgt := 77) C dX0_compareSize_51 dX0_compareSize_52 (by decide) (fun hc => ?_) (fun hc => ?_)
      · have hw := hw.1 hc
        refine j_iinc (v := v2 + (-1)) C dX0_compareSize_77 2 rfl rfl (by decide) rfl ?_
        refine j_goto (tgt := 35) C dX0_compareSize_80 (by decide) ?_
        exact J.sub (ih (v2 + (-1)) D hw) [1, 2, 0] rfl
      · have hw := hw.2 hc
        refine j_aload_n C dX0_compareSize_55 rfl 0 rfl ?_
        refine gf_0_0 C ho_v0 hr_g1 k_43 dX0_compareSize_56 ?_
        refine j_iload_n C dX0_compareSize_59 rfl 2 rfl ?_
        obtain ⟨hi3, hw⟩ := hw
        refine j_lald C ho_g1 hi3 dX0_compareSize_60 ?_
        refine j_aload_n C dX0_compareSize_61 rfl 1 rfl ?_
        refine gf_0_0 C ho_v1 hr_g2 k_43 dX0_compareSize_62 ?_
        refine j_iload_n C dX0_compareSize_65 rfl 2 rfl ?_
        obtain ⟨hi4, hw⟩ := hw
        refine j_lald C ho_g2 hi4 dX0_compareSize_66 ?_
        refine j_lcmp_ge (tgt := 75) C dX0_compareSize_67 dX0_compareSize_68 (by decide) (fun hc => ?_) (fun hc => ?_)
        · have hw := hw.1 hc
          refine j_iconst (v := 1) C dX0_compareSize_75 (by decide) ?_
          exact J.sub (X0_compareSize_j76_ok C K ho_v0 ho_v1 hr_g1 ho_g1 hr_g2 ho_g2 1 D hw) [] rfl
        · have hw := hw.2 hc
          refine j_iconst (v := (-1)) C dX0_compareSize_71 (by decide) ?_
          refine j_goto (tgt := 76) C dX0_compareSize_72 (by decide) ?_
          exact J.sub (X0_compareSize_j76_ok C K ho_v0 ho_v1 hr_g1 ho_g1 hr_g2 ho_g2 (-1) D hw) [] rfl
def X0_compareSize_j27 (G : Shp) (post : Int32 → Dat → Prop) (v0 : Nat) (v1 : Nat) (g1 : Nat) (g2 : Nat) (s0 : Int32) (D : Dat) : Prop := post s0 D
set_option maxRecDepth 100000 in
set_option maxHeartbeats 4000000 in
theorem X0_compareSize_j27_ok {κ : Ctx} {G : Shp} {post : Int32 → Dat → Prop} {v0 : Nat} {v1 : Nat} {g1 : Nat} {g2 : Nat} (C : Cx κ cX0_compareSize RX0 (rmN 0) 3) (K : RtI κ cX0_compareSize .int G post) (ho_v0 : isO G v0 0) (ho_v1 : isO G v1 0) (hr_g1 : G.2.2.2 v0 0 = some g1) (ho_g1 : isO G g1 12) (hr_g2 : G.2.2.2 v1 0 = some g2) (ho_g2 : isO G g2 12) (s0 : Int32) (D : Dat) (hw : X0_compareSize_j27 G post v0 v1 g1 g2 s0 D) : J κ 0 0 G D 27 [] [.int s0] := by
  unfold X0_compareSize_j27 at hw
  exact K _ _ _ _ dX0_compareSize_27 rfl hw
def X0_compareSize_wp (G : Shp) (D : Dat) (v0 : Nat) (v1 : Nat) (post : Int32 → Dat → Prop) : Prop := isO G v0 0 ∧ isO G v1 0 ∧ ∃ g1, G.2.2.2 v0 0 = some g1 ∧ isO G g1 12 ∧ ∃ g2, G.2.2.2 v1 0 = some g2 ∧ isO G g2 12 ∧ (((D.1 v0 1) = (D.1 v1 1) → ∃ n, X0_compareSize_l35 G post v0 v1 g1 g2 n ((D.1 v0 1) - 1) D) ∧ (¬ ((D.1 v0 1) = (D.1 v1 1)) → (((D.1 v1 1) ≤ (D.1 v0 1) → X0_compareSize_j27 G post v0 v1 g1 g2 1 D) ∧ (¬ ((D.1 v1 1) ≤ (D.1 v0 1)) → X0_compareSize_j27 G post v0 v1 g1 g2 (-1) D))))
set_option maxRecDepth 100000 in
set_option maxHeartbeats 4000000 in
theorem X0_compareSize_ok (l : Launch) (G : Shp) (D : Dat) (v0 : Nat) (v1 : Nat) (post : Int32 → Dat → Prop) (hw : X0_compareSize_wp G D v0 v1 post) : CtI l yX0_compareSize cX0_compareSize 3 .int (rmN 0) [.ref v0, .ref v1] G D post := by
  obtain ⟨ho_v0, ho_v1, g1, hr_g1, ho_g1, g2, hr_g2, ho_g2, hw⟩ := hw
  refine ctI_of (by decide) rfl (Nat.le_of_ble_eq_true rfl) ?_
  intro κ hκ C K
  subst hκ
  have C : Cx κ cX0_compareSize RX0 (rmN 0) 3 := C
  refine j_aload_n C dX0_compareSize_0 rfl 0 rfl ?_
  refine gf_0_1 C ho_v0 k_45 dX0_compareSize_1 ?_
  refine j_aload_n C dX0_compareSize_4 rfl 1 rfl ?_
  refine gf_0_1 C ho_v1 k_45 dX0_compareSize_5 ?_
  refine j_icmp_eq (tgt := 28) C dX0_compareSize_8 (by decide) (fun hc => ?_) (fun hc => ?_)
  · have hw := hw.1 hc
    refine j_aload_n C dX0_compareSize_28 rfl 0 rfl ?_
    refine gf_0_1 C ho_v0 k_45 dX0_compareSize_29 ?_
    refine j_iconst (v := 1) C dX0_compareSize_32 (by decide) ?_
    refine j_isub C dX0_compareSize_33 ?_
    refine j_istore_n C dX0_compareSize_34 rfl (by decide) rfl ?_
    obtain ⟨n, hw⟩ := hw
    exact J.sub (X0_compareSize_l35_ok C K ho_v0 ho_v1 hr_g1 ho_g1 hr_g2 ho_g2 n ((D.1 v0 1) - 1) D hw) [1, 2, 0] rfl
  · have hw := hw.2 hc
    refine j_aload_n C dX0_compareSize_11 rfl 0 rfl ?_
    refine gf_0_1 C ho_v0 k_45 dX0_compareSize_12 ?_
    refine j_aload_n C dX0_compareSize_15 rfl 1 rfl ?_
    refine gf_0_1 C ho_v1 k_45 dX0_compareSize_16 ?_
    refine j_icmp_ge (tgt := 26) C dX0_compareSize_19 (by decide) (fun hc => ?_) (fun hc => ?_)
    · have hw := hw.1 hc
      refine j_iconst (v := 1) C dX0_compareSize_26 (by decide) ?_
      exact J.sub (X0_compareSize_j27_ok C K ho_v0 ho_v1 hr_g1 ho_g1 hr_g2 ho_g2 1 D hw) [] rfl
    · have hw := hw.2 hc
      refine j_iconst (v := (-1)) C dX0_compareSize_22 (by decide) ?_
      refine j_goto (tgt := 27) C dX0_compareSize_23 (by decide) ?_
      exact J.sub (X0_compareSize_j27_ok C K ho_v0 ho_v1 hr_g1 ho_g1 hr_g2 ho_g2 (-1) D hw) [] rfl
/-! X0_copy -/
def X0_copy_l18_b (G : Shp) (post : Dat → Prop) (v0 : Nat) (v1 : Nat) (g1 : Nat) (g2 : Nat) (rec : Int32 → Dat → Prop) (v2 : Int32) (D : Dat) : Prop := (((D.1 v0 1) ≤ v2 → post D) ∧ (¬ ((D.1 v0 1) ≤ v2) → (vp_in v2 (G.2.2.1 g2) ∧ vp_in v2 (G.2.2.1 g1) ∧ rec (v2 + 1) (dJ D g1 v2.toNatClampNeg (D.2 g2 v2.toNatClampNeg)))))
def X0_copy_l18 (G : Shp) (post : Dat → Prop) (v0 : Nat) (v1 : Nat) (g1 : Nat) (g2 : Nat) : Nat → Int32 → Dat → Prop
  | 0 => fun _ _ => False
  | n + 1 => X0_copy_l18_b G post v0 v1 g1 g2 (X0_copy_l18 G post v0 v1 g1 g2 n)
set_option maxRecDepth 100000 in
set_option maxHeartbeats 4000000 in
theorem X0_copy_l18_ok {κ : Ctx} {G : Shp} {post : Dat → Prop} {v0 : Nat} {v1 : Nat} {g1 : Nat} {g2 : Nat} (C : Cx κ cX0_copy RX0 (rmN 0) 3) (K : RtV κ cX0_copy G post) (ho_v0 : isO G v0 0) (ho_v1 : isO G v1 0) (hr_g1 : G.2.2.2 v0 0 = some g1) (ho_g1 : isO G g1 12) (hr_g2 : G.2.2.2 v1 0 = some g2) (ho_g2 : isO G g2 12) : ∀ (n : Nat) (v2 : Int32) (D : Dat), X0_copy_l18 G post v0 v1 g1 g2 n v2 D → J κ 0 0 G D 18 [(0, .ref v0), (1, .ref v1), (2, .int v2)] [] := by
  intro n
  induction n with
  | zero => intro v2 D hw; exact hw.elim
  | succ n ih =>
    intro v2 D hw
    have hw : X0_copy_l18_b G post v0 v1 g1 g2 (X0_copy_l18 G post v0 v1 g1 g2 n) v2 D := hw
    unfold X0_copy_l18_b at hw
    refine j_iload_n C dX0_copy_18 rfl 2 rfl ?_
    refine j_aload_n C dX0_copy_19 rfl 0 rfl ?_
    refine gf_0_1 C ho_v0 k_45 dX0_copy_20 ?_
    refine j_icmp_ge (tgt := 44) C dX0_copy_23 (by decide) (fun hc => ?_) (fun hc => ?_)
    · have hw := hw.1 hc
      exact K _ _ _ dX0_copy_44 hw
    · have hw := hw.2 hc
      refine j_aload_n C dX0_copy_26 rfl 0 rfl ?_
      refine gf_0_0 C ho_v0 hr_g1 k_43 dX0_copy_27 ?_
      refine j_iload_n C dX0_copy_30 rfl 2 rfl ?_
      refine j_aload_n C dX0_copy_31 rfl 1 rfl ?_
      refine gf_0_0 C ho_v1 hr_g2 k_43 dX0_copy_32 ?_
      refine j_iload_n C dX0_copy_35 rfl 2 rfl ?_
      obtain ⟨hi1, hw⟩ := hw
      refine j_lald C ho_g2 hi1 dX0_copy_36 ?_
      obtain ⟨hi2, hw⟩ := hw
      refine j_last C ho_g1 hi2 dX0_copy_37 ?_
      refine j_iinc (v := v2 + 1) C dX0_copy_38 2 rfl rfl (by decide) rfl ?_
      refine j_goto (tgt := 18) C dX0_copy_41 (by decide) ?_
      exact J.sub (ih (v2 + 1) (dJ D g1 v2.toNatClampNeg (D.2 g2 v2.toNatClampNeg)) hw) [1, 2, 0] rfl
def X0_copy_wp (G : Shp) (D : Dat) (v0 : Nat) (v1 : Nat) (post : Dat → Prop) : Prop := isO G v0 0 ∧ isO G v1 0 ∧ ∃ g1, G.2.2.2 v0 0 = some g1 ∧ isO G g1 12 ∧ ∃ g2, G.2.2.2 v1 0 = some g2 ∧ isO G g2 12 ∧ (isB ((dI D v0 1 (D.1 v1 1)).1 v1 2) ∧ ∃ n, X0_copy_l18 G post v0 v1 g1 g2 n 0 (dI (dI D v0 1 (D.1 v1 1)) v0 2 ((dI D v0 1 (D.1 v1 1)).1 v1 2)))
set_option maxRecDepth 100000 in
set_option maxHeartbeats 4000000 in
theorem X0_copy_ok (l : Launch) (G : Shp) (D : Dat) (v0 : Nat) (v1 : Nat) (post : Dat → Prop) (hw : X0_copy_wp G D v0 v1 post) : CtV l yX0_copy cX0_copy 3 (rmN 0) [.ref v0, .ref v1] G D post := by
  obtain ⟨ho_v0, ho_v1, g1, hr_g1, ho_g1, g2, hr_g2, ho_g2, hw⟩ := hw
  refine ctV_of (by decide) rfl (Nat.le_of_ble_eq_true rfl) ?_
  intro κ hκ C K
  subst hκ
  have C : Cx κ cX0_copy RX0 (rmN 0) 3 := C
  refine j_aload_n C dX0_copy_0 rfl 0 rfl ?_
  refine j_aload_n C dX0_copy_1 rfl 1 rfl ?_
  refine gf_0_1 C ho_v1 k_45 dX0_copy_2 ?_
  refine pf_0_1 C ho_v0 k_45 dX0_copy_5 ?_
  refine j_aload_n C dX0_copy_8 rfl 0 rfl ?_
  refine j_aload_n C dX0_copy_9 rfl 1 rfl ?_
  refine gf_0_2 C ho_v1 k_47 dX0_copy_10 ?_
  obtain ⟨hb1, hw⟩ := hw
  refine pf_0_2 C ho_v0 hb1 k_47 dX0_copy_13 ?_
  refine j_iconst (v := 0) C dX0_copy_16 (by decide) ?_
  refine j_istore_n C dX0_copy_17 rfl (by decide) rfl ?_
  obtain ⟨n, hw⟩ := hw
  exact J.sub (X0_copy_l18_ok C K ho_v0 ho_v1 hr_g1 ho_g1 hr_g2 ho_g2 n 0 (dI (dI D v0 1 (D.1 v1 1)) v0 2 ((dI D v0 1 (D.1 v1 1)).1 v1 2)) hw) [1, 2, 0] rfl
/-! X0_isZero -/
def X0_isZero_j12 (G : Shp) (post : Int32 → Dat → Prop) (v0 : Nat) (s0 : Int32) (D : Dat) : Prop := (isB s0 ∧ post s0 D)
set_option maxRecDepth 100000 in
set_option maxHeartbeats 4000000 in
theorem X0_isZero_j12_ok {κ : Ctx} {G : Shp} {post : Int32 → Dat → Prop} {v0 : Nat} (C : Cx κ cX0_isZero RX0 (rmN 0) 1) (K : RtI κ cX0_isZero .boolean G post) (ho_v0 : isO G v0 0) (s0 : Int32) (D : Dat) (hw : X0_isZero_j12 G post v0 s0 D) : J κ 0 0 G D 12 [] [.int s0] := by
  unfold X0_isZero_j12 at hw
  obtain ⟨hb1, hw⟩ := hw
  exact K _ _ _ _ dX0_isZero_12 (isB_n hb1) hw
def X0_isZero_wp (G : Shp) (D : Dat) (v0 : Nat) (post : Int32 → Dat → Prop) : Prop := isO G v0 0 ∧ ((¬ (D.1 v0 1) = 0 → X0_isZero_j12 G post v0 0 D) ∧ ((D.1 v0 1) = 0 → X0_isZero_j12 G post v0 1 D))
set_option maxRecDepth 100000 in
set_option maxHeartbeats 4000000 in
theorem X0_isZero_ok (l : Launch) (G : Shp) (D : Dat) (v0 : Nat) (post : Int32 → Dat → Prop) (hw : X0_isZero_wp G D v0 post) : CtI l yX0_isZero cX0_isZero 1 .boolean (rmN 0) [.ref v0] G D post := by
  obtain ⟨ho_v0, hw⟩ := hw
  refine ctI_of (by decide) rfl (Nat.le_of_ble_eq_true rfl) ?_
  intro κ hκ C K
  subst hκ
  have C : Cx κ cX0_isZero RX0 (rmN 0) 1 := C
  refine j_aload_n C dX0_isZero_0 rfl 0 rfl ?_
  refine gf_0_1 C ho_v0 k_45 dX0_isZero_1 ?_
  refine j_if_ne (tgt := 11) C dX0_isZero_4 (by decide) (fun hc => ?_) (fun hc => ?_)
  · have hw := hw.1 hc
    refine j_iconst (v := 0) C dX0_isZero_11 (by decide) ?_
    exact J.sub (X0_isZero_j12_ok C K ho_v0 0 D hw) [] rfl
  · have hw := hw.2 hc
    refine j_iconst (v := 1) C dX0_isZero_7 (by decide) ?_
    refine j_goto (tgt := 12) C dX0_isZero_8 (by decide) ?_
    exact J.sub (X0_isZero_j12_ok C K ho_v0 1 D hw) [] rfl
/-! X0_toLong -/
def X0_toLong_j41 (G : Shp) (post : Int64 → Dat → Prop) (v0 : Nat) (g1 : Nat) (s0 : Int64) (D : Dat) : Prop := post s0 D
set_option maxRecDepth 100000 in
set_option maxHeartbeats 4000000 in
theorem X0_toLong_j41_ok {κ : Ctx} {G : Shp} {post : Int64 → Dat → Prop} {v0 : Nat} {g1 : Nat} (C : Cx κ cX0_toLong RX0 (rmN 0) 3) (K : RtL κ cX0_toLong G post) (ho_v0 : isO G v0 0) (hr_g1 : G.2.2.2 v0 0 = some g1) (ho_g1 : isO G g1 12) (s0 : Int64) (D : Dat) (hw : X0_toLong_j41 G post v0 g1 s0 D) : J κ 0 0 G D 41 [] [.long s0] := by
  unfold X0_toLong_j41 at hw
  exact K _ _ _ _ dX0_toLong_41 hw
def X0_toLong_j17 (G : Shp) (post : Int64 → Dat → Prop) (v0 : Nat) (g1 : Nat) (s0 : Int64) (D : Dat) : Prop := (((D.1 v0 1) ≤ 1 → X0_toLong_j41 G post v0 g1 s0 D) ∧ (¬ ((D.1 v0 1) ≤ 1) → (vp_in 1 (G.2.2.1 g1) ∧ X0_toLong_j41 G post v0 g1 (((D.2 g1 (1 : Int32).toNatClampNeg) <<< ((27 : Int32).toInt64 &&& 63)) + s0) D)))
set_option maxRecDepth 100000 in
set_option maxHeartbeats 4000000 in
theorem X0_toLong_j17_ok {κ : Ctx} {G : Shp} {post : Int64 → Dat → Prop} {v0 : Nat} {g1 : Nat} (C : Cx κ cX0_toLong RX0 (rmN 0) 3) (K : RtL κ cX0_toLong G post) (ho_v0 : isO G v0 0) (hr_g1 : G.2.2.2 v0 0 = some g1) (ho_g1 : isO G g1 12) (s0 : Int64) (D : Dat) (hw : X0_toLong_j17 G post v0 g1 s0 D) : J κ 0 0 G D 17 [(0, .ref v0)] [.long s0] := by
  unfold X0_toLong_j17 at hw
  refine j_lstore_n C dX0_toLong_17 rfl (by decide) rfl ?_
  refine j_aload_n C dX0_toLong_18 rfl 1 rfl ?_
  refine gf_0_1 C ho_v0 k_45 dX0_toLong_19 ?_
  refine j_iconst (v := 1) C dX0_toLong_22 (by decide) ?_
  refine j_icmp_le (tgt := 40) C dX0_toLong_23 (by decide) (fun hc => ?_) (fun hc => ?_)
  · have hw := hw.1 hc
    refine j_lload_n C dX0_toLong_40 rfl 0 rfl ?_
    exact J.sub (X0_toLong_j41_ok C K ho_v0 hr_g1 ho_g1 s0 D hw) [] rfl
  · have hw := hw.2 hc
    refine j_aload_n C dX0_toLong_26 rfl 1 rfl ?_
    refine gf_0_0 C ho_v0 hr_g1 k_43 dX0_toLong_27 ?_
    refine j_iconst (v := 1) C dX0_toLong_30 (by decide) ?_
    obtain ⟨hi1, hw⟩ := hw
    refine j_lald C ho_g1 hi1 dX0_toLong_31 ?_
    refine j_bipush (v := 27) C dX0_toLong_32 (by decide) ?_
    refine j_lshl C dX0_toLong_34 ?_
    refine j_lload_n C dX0_toLong_35 rfl 0 rfl ?_
    refine j_ladd C dX0_toLong_36 ?_
    refine j_goto (tgt := 41) C dX0_toLong_37 (by decide) ?_
    exact J.sub (X0_toLong_j41_ok C K ho_v0 hr_g1 ho_g1 (((D.2 g1 (1 : Int32).toNatClampNeg) <<< ((27 : Int32).toInt64 &&& 63)) + s0) D hw) [] rfl
def X0_toLong_wp (G : Shp) (D : Dat) (v0 : Nat) (post : Int64 → Dat → Prop) : Prop := isO G v0 0 ∧ ∃ g1, G.2.2.2 v0 0 = some g1 ∧ isO G g1 12 ∧ (((D.1 v0 1) ≤ 0 → X0_toLong_j17 G post v0 g1 0 D) ∧ (¬ ((D.1 v0 1) ≤ 0) → (vp_in 0 (G.2.2.1 g1) ∧ X0_toLong_j17 G post v0 g1 (D.2 g1 (0 : Int32).toNatClampNeg) D)))
set_option maxRecDepth 100000 in
set_option maxHeartbeats 4000000 in
theorem X0_toLong_ok (l : Launch) (G : Shp) (D : Dat) (v0 : Nat) (post : Int64 → Dat → Prop) (hw : X0_toLong_wp G D v0 post) : CtL l yX0_toLong cX0_toLong 3 (rmN 0) [.ref v0] G D post := by
  obtain ⟨ho_v0, g1, hr_g1, ho_g1, hw⟩ := hw
  refine ctL_of (by decide) rfl (Nat.le_of_ble_eq_true rfl) ?_
  intro κ hκ C K
  subst hκ
  have C : Cx κ cX0_toLong RX0 (rmN 0) 3 := C
  refine j_aload_n C dX0_toLong_0 rfl 0 rfl ?_
  refine gf_0_1 C ho_v0 k_45 dX0_toLong_1 ?_
  refine j_if_le (tgt := 16) C dX0_toLong_4 (by decide) (fun hc => ?_) (fun hc => ?_)
  · have hw := hw.1 hc
    refine j_lconst (v := 0) C dX0_toLong_16 (by decide) ?_
    exact J.sub (X0_toLong_j17_ok C K ho_v0 hr_g1 ho_g1 0 D hw) [0] rfl
  · have hw := hw.2 hc
    refine j_aload_n C dX0_toLong_7 rfl 0 rfl ?_
    refine gf_0_0 C ho_v0 hr_g1 k_43 dX0_toLong_8 ?_
    refine j_iconst (v := 0) C dX0_toLong_11 (by decide) ?_
    obtain ⟨hi1, hw⟩ := hw
    refine j_lald C ho_g1 hi1 dX0_toLong_12 ?_
    refine j_goto (tgt := 17) C dX0_toLong_13 (by decide) ?_
    exact J.sub (X0_toLong_j17_ok C K ho_v0 hr_g1 ho_g1 (D.2 g1 (0 : Int32).toNatClampNeg) D hw) [0] rfl
/-! X1_commonDivisor -/
def X1_commonDivisor_j45 (G : Shp) (post : Int64 → Dat → Prop) (v0 : Int64) (v2 : Int64) (v4 : Int64) (D : Dat) : Prop := post v4 D
set_option maxRecDepth 100000 in
set_option maxHeartbeats 4000000 in
theorem X1_commonDivisor_j45_ok {κ : Ctx} {G : Shp} {post : Int64 → Dat → Prop} {v0 : Int64} {v2 : Int64} (C : Cx κ cX1_commonDivisor RX1 (rmN 0) 11) (K : RtL κ cX1_commonDivisor G post) (v4 : Int64) (D : Dat) (hw : X1_commonDivisor_j45 G post v0 v2 v4 D) : J κ 0 0 G D 45 [(4, .long v4)] [] := by
  unfold X1_commonDivisor_j45 at hw
  refine j_lload C dX1_commonDivisor_45 0 rfl ?_
  exact K _ _ _ _ dX1_commonDivisor_47 hw
def X1_commonDivisor_l9_b (G : Shp) (post : Int64 → Dat → Prop) (v0 : Int64) (v2 : Int64) (rec : Int64 → Int64 → Int32 → Dat → Prop) (v4 : Int64) (v6 : Int64) (v8 : Int32) (D : Dat) : Prop := ((200 ≤ v8 → X1_commonDivisor_j45 G post v0 v2 v4 D) ∧ (¬ (200 ≤ v8) → ((v6 ≤ 0 → X1_commonDivisor_j45 G post v0 v2 v4 D) ∧ (¬ (v6 ≤ 0) → (¬ v6 = 0 ∧ rec v6 (v4 - v4 / v6 * v6) (v8 + 1) D)))))
def X1_commonDivisor_l9 (G : Shp) (post : Int64 → Dat → Prop) (v0 : Int64) (v2 : Int64) : Nat → Int64 → Int64 → Int32 → Dat → Prop
  | 0 => fun _ _ _ _ => False
  | n + 1 => X1_commonDivisor_l9_b G post v0 v2 (X1_commonDivisor_l9 G post v0 v2 n)
set_option maxRecDepth 100000 in
set_option maxHeartbeats 4000000 in
theorem X1_commonDivisor_l9_ok {κ : Ctx} {G : Shp} {post : Int64 → Dat → Prop} {v0 : Int64} {v2 : Int64} (C : Cx κ cX1_commonDivisor RX1 (rmN 0) 11) (K : RtL κ cX1_commonDivisor G post) : ∀ (n : Nat) (v4 : Int64) (v6 : Int64) (v8 : Int32) (D : Dat), X1_commonDivisor_l9 G post v0 v2 n v4 v6 v8 D → J κ 0 0 G D 9 [(4, .long v4), (6, .long v6), (8, .int v8)] [] := by
  intro n
  induction n with
  | zero => intro v4 v6 v8 D hw; exact hw.elim
  | succ n ih =>
    intro v4 v6 v8 D hw
    have hw : X1_commonDivisor_l9_b G post v0 v2 (X1_commonDivisor_l9 G post v0 v2 n) v4 v6 v8 D := hw
    unfold X1_commonDivisor_l9_b at hw
    refine j_iload C dX1_commonDivisor_9 2 rfl ?_
    refine j_sipush (v := 200) C dX1_commonDivisor_11 (by decide) ?_
    refine j_icmp_ge (tgt := 45) C dX1_commonDivisor_14 (by decide) (fun hc => ?_) (fun hc => ?_)
    · have hw := hw.1 hc
      exact J.sub (X1_commonDivisor_j45_ok C K v4 D hw) [0] rfl
    · have hw := hw.2 hc
      refine j_lload C dX1_commonDivisor_17 1 rfl ?_
      refine j_lconst (v := 0) C dX1_commonDivisor_19 (by decide) ?_
      refine j_lcmp_le (tgt := 45) C dX1_commonDivisor_20 dX1_commonDivisor_21 (by decide) (fun hc => ?_) (fun hc => ?_)
      · have hw := hw.1 hc
        exact J.sub (X1_commonDivisor_j45_ok C K v4 D hw) [0] rfl
      · have hw := hw.2 hc
        refine j_lload C dX1_commonDivisor_24 0 rfl ?_
        refine j_lload C dX1_commonDivisor_26 1 rfl ?_
        obtain ⟨hz1, hw⟩ := hw
        refine j_lrem C dX1_commonDivisor_28 hz1 ?_
        refine j_lstore C dX1_commonDivisor_29 (by decide) rfl ?_
        refine j_lload C dX1_commonDivisor_31 2 rfl ?_
        refine j_lstore C dX1_commonDivisor_33 (by decide) rfl ?_
        refine j_lload C dX1_commonDivisor_35 1 rfl ?_
        refine j_lstore C dX1_commonDivisor_37 (by decide) rfl ?_
        refine j_iinc (v := v8 + 1) C dX1_commonDivisor_39 3 rfl rfl (by decide) rfl ?_
        refine j_goto (tgt := 9) C dX1_commonDivisor_42 (by decide) ?_
        exact J.sub (ih v6 (v4 - v4 / v6 * v6) (v8 + 1) D hw) [2, 1, 0] rfl
def X1_commonDivisor_wp (G : Shp) (D : Dat) (v0 : Int64) (v2 : Int64) (post : Int64 → Dat → Prop) : Prop := ∃ n, X1_commonDivisor_l9 G post v0 v2 n v0 v2 0 D
set_option maxRecDepth 100000 in
set_option maxHeartbeats 4000000 in
theorem X1_commonDivisor_ok (l : Launch) (G : Shp) (D : Dat) (v0 : Int64) (v2 : Int64) (post : Int64 → Dat → Prop) (hw : X1_commonDivisor_wp G D v0 v2 post) : CtL l yX1_commonDivisor cX1_commonDivisor 11 (rmN 0) [.long v0, .long v2] G D post := by
  unfold X1_commonDivisor_wp at hw
  refine ctL_of (by decide) rfl (Nat.le_of_ble_eq_true rfl) ?_
  intro κ hκ C K
  subst hκ
  have C : Cx κ cX1_commonDivisor RX1 (rmN 0) 11 := C
  refine j_lload_n C dX1_commonDivisor_0 rfl 0 rfl ?_
  refine j_lstore C dX1_commonDivisor_1 (by decide) rfl ?_
  refine j_lload_n C dX1_commonDivisor_3 rfl 2 rfl ?_
  refine j_lstore C dX1_commonDivisor_4 (by decide) rfl ?_
  refine j_iconst (v := 0) C dX1_commonDivisor_6 (by decide) ?_
  refine j_istore C dX1_commonDivisor_7 (by decide) rfl ?_
  obtain ⟨n, hw⟩ := hw
  exact J.sub (X1_commonDivisor_l9_ok C K n v0 v2 0 D hw) [2, 1, 0] rfl
/-! X1_keepDivisor -/
def X1_keepDivisor_j28 (G : Shp) (post : Dat → Prop) (v0 : Nat) (v1 : Int64) (g1 : Nat) (D : Dat) : Prop := post D
set_option maxRecDepth 100000 in
set_option maxHeartbeats 4000000 in
theorem X1_keepDivisor_j28_ok {κ : Ctx} {G : Shp} {post : Dat → Prop} {v0 : Nat} {v1 : Int64} {g1 : Nat} (C : Cx κ cX1_keepDivisor RX1 (rmN 0) 3) (K : RtV κ cX1_keepDivisor G post) (ho_v0 : isO G v0 1) (hr_g1 : G.2.2.2 v0 4 = some g1) (ho_g1 : isO G g1 12) (D : Dat) (hw : X1_keepDivisor_j28 G post v0 v1 g1 D) : J κ 0 0 G D 28 [] [] := by
  unfold X1_keepDivisor_j28 at hw
  exact K _ _ _ dX1_keepDivisor_28 hw
def X1_keepDivisor_wp (G : Shp) (D : Dat) (v0 : Nat) (v1 : Int64) (post : Dat → Prop) : Prop := isO G v0 1 ∧ ∃ g1, G.2.2.2 v0 4 = some g1 ∧ isO G g1 12 ∧ ((5 ≤ (D.1 v0 5) → X1_keepDivisor_j28 G post v0 v1 g1 D) ∧ (¬ (5 ≤ (D.1 v0 5)) → (vp_in (D.1 v0 5) (G.2.2.1 g1) ∧ X1_keepDivisor_j28 G post v0 v1 g1 (dI (dJ D g1 (D.1 v0 5).toNatClampNeg v1) v0 5 (((dJ D g1 (D.1 v0 5).toNatClampNeg v1).1 v0 5) + 1)))))
set_option maxRecDepth 100000 in
set_option maxHeartbeats 4000000 in
theorem X1_keepDivisor_ok (l : Launch) (G : Shp) (D : Dat) (v0 : Nat) (v1 : Int64) (post : Dat → Prop) (hw : X1_keepDivisor_wp G D v0 v1 post) : CtV l yX1_keepDivisor cX1_keepDivisor 3 (rmN 0) [.ref v0, .long v1] G D post := by
  obtain ⟨ho_v0, g1, hr_g1, ho_g1, hw⟩ := hw
  refine ctV_of (by decide) rfl (Nat.le_of_ble_eq_true rfl) ?_
  intro κ hκ C K
  subst hκ
  have C : Cx κ cX1_keepDivisor RX1 (rmN 0) 3 := C
  refine j_aload_n C dX1_keepDivisor_0 rfl 0 rfl ?_
  refine gf_1_5 C ho_v0 k_237 dX1_keepDivisor_1 ?_
  refine j_iconst (v := 5) C dX1_keepDivisor_4 (by decide) ?_
  refine j_icmp_ge (tgt := 28) C dX1_keepDivisor_5 (by decide) (fun hc => ?_) (fun hc => ?_)
  · have hw := hw.1 hc
    exact J.sub (X1_keepDivisor_j28_ok C K ho_v0 hr_g1 ho_g1 D hw) [] rfl
  · have hw := hw.2 hc
    refine j_aload_n C dX1_keepDivisor_8 rfl 0 rfl ?_
    refine gf_1_4 C ho_v0 hr_g1 k_236 dX1_keepDivisor_9 ?_
    refine j_aload_n C dX1_keepDivisor_12 rfl 0 rfl ?_
    refine gf_1_5 C ho_v0 k_237 dX1_keepDivisor_13 ?_
    refine j_lload_n C dX1_keepDivisor_16 rfl 1 rfl ?_
    obtain ⟨hi1, hw⟩ := hw
    refine j_last C ho_g1 hi1 dX1_keepDivisor_17 ?_
    refine j_aload_n C dX1_keepDivisor_18 rfl 0 rfl ?_
    refine j_dup C dX1_keepDivisor_19 rfl ?_
    refine gf_1_5 C ho_v0 k_237 dX1_keepDivisor_20 ?_
    refine j_iconst (v := 1) C dX1_keepDivisor_23 (by decide) ?_
    refine j_iadd C dX1_keepDivisor_24 ?_
    refine pf_1_5 C ho_v0 k_237 dX1_keepDivisor_25 ?_
    exact J.sub (X1_keepDivisor_j28_ok C K ho_v0 hr_g1 ho_g1 (dI (dJ D g1 (D.1 v0 5).toNatClampNeg v1) v0 5 (((dJ D g1 (D.1 v0 5).toNatClampNeg v1).1 v0 5) + 1)) hw) [] rfl
/-! X2_addTick -/
def X2_addTick_j95 (G : Shp) (post : Dat → Prop) (v0 : Nat) (v1 : Int32) (v2 : Int32) (g1 : Nat) (g2 : Nat) (g3 : Nat) (g4 : Nat) (k12 : Int32 → Dat → Prop) (v3 : Int32) (D : Dat) : Prop := k12 (v3 + 1) D
set_option maxRecDepth 100000 in
set_option maxHeartbeats 4000000 in
theorem X2_addTick_j95_ok {κ : Ctx} {G : Shp} {post : Dat → Prop} {v0 : Nat} {v1 : Int32} {v2 : Int32} {g1 : Nat} {g2 : Nat} {g3 : Nat} {g4 : Nat} (C : Cx κ cX2_addTick RX2 (rmN 0) 7) (K : RtV κ cX2_addTick G post) (ho_v0 : isO G v0 2) (hr_g1 : G.2.2.2 v0 4 = some g1) (ho_g1 : isO G g1 12) (hr_g2 : G.2.2.2 v0 1 = some g2) (ho_g2 : isO G g2 17) (hr_g3 : G.2.2.2 v0 3 = some g3) (ho_g3 : isO G g3 17) (hr_g4 : G.2.2.2 v0 2 = some g4) (ho_g4 : isO G g4 17) {k12 : Int32 → Dat → Prop} (hk12 : ∀ (v3 : Int32) (D : Dat), k12 v3 D → J κ 0 0 G D 12 [(0, .ref v0), (1, .int v1), (2, .int v2), (3, .int v3)] []) (v3 : Int32) (D : Dat) (hw : X2_addTick_j95 G post v0 v1 v2 g1 g2 g3 g4 k12 v3 D) : J κ 0 0 G D 95 [(0, .ref v0), (1, .int v1), (2, .int v2), (3, .int v3)] [] := by
  unfold X2_addTick_j95 at hw
  refine j_iinc (v := v3 + 1) C dX2_addTick_95 3 rfl rfl (by decide) rfl ?_
  refine j_goto (tgt := 12) C dX2_addTick_98 (by decide) ?_
  exact J.sub (hk12 (v3 + 1) D hw) [1, 2, 3, 0] rfl
def X2_addTick_l56_b (G : Shp) (post : Dat → Prop) (v0 : Nat) (v1 : Int32) (v2 : Int32) (g1 : Nat) (g2 : Nat) (g3 : Nat) (g4 : Nat) (k12 : Int32 → Dat → Prop) (rec : Int32 → Int64 → Int32 → Dat → Prop) (v3 : Int32) (v4 : Int64) (v6 : Int32) (D : Dat) : Prop := (((D.1 v0 11) < v6 → X2_addTick_j95 G post v0 v1 v2 g1 g2 g3 g4 k12 v3 D) ∧ (¬ ((D.1 v0 11) < v6) → (vp_in v3 (G.2.2.1 g4) ∧ ∃ y2, G.2.2.2 g4 v3.toNatClampNeg = some y2 ∧ isO G y2 12 ∧ vp_in v6 (G.2.2.1 y2) ∧ vp_in v6 (G.2.2.1 g2) ∧ ∃ y7, G.2.2.2 g2 v6.toNatClampNeg = some y7 ∧ isO G y7 12 ∧ vp_in v1 (G.2.2.1 y7) ∧ vp_in v6 (G.2.2.1 y2) ∧ rec v3 v4 (v6 + 1) (dJ D y2 v6.toNatClampNeg ((D.2 y2 v6.toNatClampNeg) + (v4 * (D.2 y7 v1.toNatClampNeg)))))))
def X2_addTick_l56 (G : Shp) (post : Dat → Prop) (v0 : Nat) (v1 : Int32) (v2 : Int32) (g1 : Nat) (g2 : Nat) (g3 : Nat) (g4 : Nat) (k12 : Int32 → Dat → Prop) : Nat → Int32 → Int64 → Int32 → Dat → Prop
  | 0 => fun _ _ _ _ => False
  | n + 1 => X2_addTick_l56_b G post v0 v1 v2 g1 g2 g3 g4 k12 (X2_addTick_l56 G post v0 v1 v2 g1 g2 g3 g4 k12 n)
set_option maxRecDepth 100000 in
set_option maxHeartbeats 4000000 in
theorem X2_addTick_l56_ok {κ : Ctx} {G : Shp} {post : Dat → Prop} {v0 : Nat} {v1 : Int32} {v2 : Int32} {g1 : Nat} {g2 : Nat} {g3 : Nat} {g4 : Nat} (C : Cx κ cX2_addTick RX2 (rmN 0) 7) (K : RtV κ cX2_addTick G post) (ho_v0 : isO G v0 2) (hr_g1 : G.2.2.2 v0 4 = some g1) (ho_g1 : isO G g1 12) (hr_g2 : G.2.2.2 v0 1 = some g2) (ho_g2 : isO G g2 17) (hr_g3 : G.2.2.2 v0 3 = some g3) (ho_g3 : isO G g3 17) (hr_g4 : G.2.2.2 v0 2 = some g4) (ho_g4 : isO G g4 17) {k12 : Int32 → Dat → Prop} (hk12 : ∀ (v3 : Int32) (D : Dat), k12 v3 D → J κ 0 0 G D 12 [(0, .ref v0), (1, .int v1), (2, .int v2), (3, .int v3)] []) : ∀ (n : Nat) (v3 : Int32) (v4 : Int64) (v6 : Int32) (D : Dat), X2_addTick_l56 G post v0 v1 v2 g1 g2 g3 g4 k12 n v3 v4 v6 D → J κ 0 0 G D 56 [(0, .ref v0), (1, .int v1), (2, .int v2), (3, .int v3), (4, .long v4), (6, .int v6)] [] := by
  intro n
  induction n with
  | zero => intro v3 v4 v6 D hw; exact hw.elim
  | succ n ih =>
    intro v3 v4 v6 D hw
    have hw : X2_addTick_l56_b G post v0 v1 v2 g1 g2 g3 g4 k12 (X2_addTick_l56 G post v0 v1 v2 g1 g2 g3 g4 k12 n) v3 v4 v6 D := hw
    unfold X2_addTick_l56_b at hw
    refine j_iload C dX2_addTick_56 5 rfl ?_
    refine j_aload_n C dX2_addTick_58 rfl 0 rfl ?_
    refine gf_2_11 C ho_v0 k_159 dX2_addTick_59 ?_
    refine j_icmp_gt (tgt := 95) C dX2_addTick_62 (by decide) (fun hc => ?_) (fun hc => ?_)
    · have hw := hw.1 hc
      exact J.sub (X2_addTick_j95_ok C K ho_v0 hr_g1 ho_g1 hr_g2 ho_g2 hr_g3 ho_g3 hr_g4 ho_g4 hk12 v3 D hw) [0, 1, 2, 3] rfl
    · have hw := hw.2 hc
      refine j_aload_n C dX2_addTick_65 rfl 0 rfl ?_
      refine gf_2_2 C ho_v0 hr_g4 k_148 dX2_addTick_66 ?_
      refine j_iload_n C dX2_addTick_69 rfl 3 rfl ?_
      obtain ⟨hi1, hw⟩ := hw
      obtain ⟨y2, hr3, ho4, hw⟩ := hw
      refine j_aaldJ C ho_g4 hi1 hr3 dX2_addTick_70 ?_
      refine j_iload C dX2_addTick_71 5 rfl ?_
      refine j_dup2 C dX2_addTick_73 rfl rfl ?_
      obtain ⟨hi5, hw⟩ := hw
      refine j_lald C ho4 hi5 dX2_addTick_74 ?_
      refine j_lload C dX2_addTick_75 4 rfl ?_
      refine j_aload_n C dX2_addTick_77 rfl 0 rfl ?_
      refine gf_2_1 C ho_v0 hr_g2 k_147 dX2_addTick_78 ?_
      refine j_iload C dX2_addTick_81 5 rfl ?_
      obtain ⟨hi6, hw⟩ := hw
      obtain ⟨y7, hr8, ho9, hw⟩ := hw
      refine j_aaldJ C ho_g2 hi6 hr8 dX2_addTick_83 ?_
      refine j_iload_n C dX2_addTick_84 rfl 1 rfl ?_
      obtain ⟨hi10, hw⟩ := hw
      refine j_lald C ho9 hi10 dX2_addTick_85 ?_
      refine j_lmul C dX2_addTick_86 ?_
      refine j_ladd C dX2_addTick_87 ?_
      obtain ⟨hi11, hw⟩ := hw
      refine j_last C ho4 hi11 dX2_addTick_88 ?_
      refine j_iinc (v := v6 + 1) C dX2_addTick_89 5 rfl rfl (by decide) rfl ?_
      refine j_goto (tgt := 56) C dX2_addTick_92 (by decide) ?_
      exact J.sub (ih v3 v4 (v6 + 1) (dJ D y2 v6.toNatClampNeg ((D.2 y2 v6.toNatClampNeg) + (v4 * (D.2 y7 v1.toNatClampNeg)))) hw) [1, 2, 3, 4, 5, 0] rfl
def X2_addTick_l12_b (G : Shp) (post : Dat → Prop) (v0 : Nat) (v1 : Int32) (v2 : Int32) (g1 : Nat) (g2 : Nat) (g3 : Nat) (g4 : Nat) (rec : Int32 → Dat → Prop) (v3 : Int32) (D : Dat) : Prop := (((D.1 v0 11) < v3 → post D) ∧ (¬ ((D.1 v0 11) < v3) → (vp_in v3 (G.2.2.1 g2) ∧ ∃ y2, G.2.2.2 g2 v3.toNatClampNeg = some y2 ∧ isO G y2 12 ∧ vp_in v1 (G.2.2.1 y2) ∧ ((¬ (D.2 y2 v1.toNatClampNeg) = 0 → (vp_in v2 (G.2.2.1 g3) ∧ ∃ y7, G.2.2.2 g3 v2.toNatClampNeg = some y7 ∧ isO G y7 12 ∧ vp_in v3 (G.2.2.1 y7) ∧ vp_in v3 (G.2.2.1 y7) ∧ ∃ n, X2_addTick_l56 G post v0 v1 v2 g1 g2 g3 g4 rec n v3 (D.2 y2 v1.toNatClampNeg) v3 (dJ D y7 v3.toNatClampNeg ((D.2 y7 v3.toNatClampNeg) + (D.2 y2 v1.toNatClampNeg))))) ∧ ((D.2 y2 v1.toNatClampNeg) = 0 → X2_addTick_j95 G post v0 v1 v2 g1 g2 g3 g4 rec v3 D)))))
def X2_addTick_l12 (G : Shp) (post : Dat → Prop) (v0 : Nat) (v1 : Int32) (v2 : Int32) (g1 : Nat) (g2 : Nat) (g3 : Nat) (g4 : Nat) : Nat → Int32 → Dat → Prop
  | 0 => fun _ _ => False
  | n + 1 => X2_addTick_l12_b G post v0 v1 v2 g1 g2 g3 g4 (X2_addTick_l12 G post v0 v1 v2 g1 g2 g3 g4 n)
set_option maxRecDepth 100000 in
set_option maxHeartbeats 4000000 in
theorem X2_addTick_l12_ok {κ : Ctx} {G : Shp} {post : Dat → Prop} {v0 : Nat} {v1 : Int32} {v2 : Int32} {g1 : Nat} {g2 : Nat} {g3 : Nat} {g4 : Nat} (C : Cx κ cX2_addTick RX2 (rmN 0) 7) (K : RtV κ cX2_addTick G post) (ho_v0 : isO G v0 2) (hr_g1 : G.2.2.2 v0 4 = some g1) (ho_g1 : isO G g1 12) (hr_g2 : G.2.2.2 v0 1 = some g2) (ho_g2 : isO G g2 17) (hr_g3 : G.2.2.2 v0 3 = some g3) (ho_g3 : isO G g3 17) (hr_g4 : G.2.2.2 v0 2 = some g4) (ho_g4 : isO G g4 17) : ∀ (n : Nat) (v3 : Int32) (D : Dat), X2_addTick_l12 G post v0 v1 v2 g1 g2 g3 g4 n v3 D → J κ 0 0 G D 12 [(0, .ref v0), (1, .int v1), (2, .int v2), (3, .int v3)] [] := by
  intro n
  induction n with
  | zero => intro v3 D hw; exact hw.elim
  | succ n ih =>
    intro v3 D hw
    have hw : X2_addTick_l12_b G post v0 v1 v2 g1 g2 g3 g4 (X2_addTick_l12 G post v0 v1 v2 g1 g2 g3 g4 n) v3 D := hw
    unfold X2_addTick_l12_b at hw
    refine j_iload_n C dX2_addTick_12 rfl 3 rfl ?_
    refine j_aload_n C dX2_addTick_13 rfl 0 rfl ?_
    refine gf_2_11 C ho_v0 k_159 dX2_addTick_14 ?_
    refine j_icmp_gt (tgt := 101) C dX2_addTick_17 (by decide) (fun hc => ?_) (fun hc => ?_)
    · have hw := hw.1 hc
      exact K _ _ _ dX2_addTick_101 hw
    · have hw := hw.2 hc
      refine j_aload_n C dX2_addTick_20 rfl 0 rfl ?_
      refine gf_2_1 C ho_v0 hr_g2 k_147 dX2_addTick_21 ?_
      refine j_iload_n C dX2_addTick_24 rfl 3 rfl ?_
      obtain ⟨hi1, hw⟩ := hw
      obtain ⟨y2, hr3, ho4, hw⟩ := hw
      refine j_aaldJ C ho_g2 hi1 hr3 dX2_addTick_25 ?_
      refine j_iload_n C dX2_addTick_26 rfl 1 rfl ?_
      obtain ⟨hi5, hw⟩ := hw
      refine j_lald C ho4 hi5 dX2_addTick_27 ?_
      refine j_lstore C dX2_addTick_28 (by decide) rfl ?_
      refine j_lload C dX2_addTick_30 0 rfl ?_
      refine j_lconst (v := 0) C dX2_addTick_32 (by decide) ?_
      refine j_lcmp_ne (tgt := 40) C dX2_addTick_33 dX2_addTick_34 (by decide) (fun hc => ?_) (fun hc => ?_)
      · have hw := hw.1 hc
        refine j_aload_n C dX2_addTick_40 rfl 1 rfl ?_
        refine gf_2_3 C ho_v0 hr_g3 k_149 dX2_addTick_41 ?_
        refine j_iload_n C dX2_addTick_44 rfl 3 rfl ?_
        obtain ⟨hi6, hw⟩ := hw
        obtain ⟨y7, hr8, ho9, hw⟩ := hw
        refine j_aaldJ C ho_g3 hi6 hr8 dX2_addTick_45 ?_
        refine j_iload_n C dX2_addTick_46 rfl 4 rfl ?_
        refine j_dup2 C dX2_addTick_47 rfl rfl ?_
        obtain ⟨hi10, hw⟩ := hw
        refine j_lald C ho9 hi10 dX2_addTick_48 ?_
        refine j_lload C dX2_addTick_49 0 rfl ?_
        refine j_ladd C dX2_addTick_51 ?_
        obtain ⟨hi11, hw⟩ := hw
        refine j_last C ho9 hi11 dX2_addTick_52 ?_
        refine j_iload_n C dX2_addTick_53 rfl 4 rfl ?_
        refine j_istore C dX2_addTick_54 (by decide) rfl ?_
        obtain ⟨n, hw⟩ := hw
        exact J.sub (X2_addTick_l56_ok C K ho_v0 hr_g1 ho_g1 hr_g2 ho_g2 hr_g3 ho_g3 hr_g4 ho_g4 ih n v3 (D.2 y2 v1.toNatClampNeg) v3 (dJ D y7 v3.toNatClampNeg ((D.2 y7 v3.toNatClampNeg) + (D.2 y2 v1.toNatClampNeg))) hw) [2, 3, 4, 5, 1, 0] rfl
      · have hw := hw.2 hc
        refine j_goto (tgt := 95) C dX2_addTick_37 (by decide) ?_
        exact J.sub (X2_addTick_j95_ok C K ho_v0 hr_g1 ho_g1 hr_g2 ho_g2 hr_g3 ho_g3 hr_g4 ho_g4 ih v3 D hw) [1, 2, 3, 4] rfl
def X2_addTick_wp (G : Shp) (D : Dat) (v0 : Nat) (v1 : Int32) (v2 : Int32) (post : Dat → Prop) : Prop := isO G v0 2 ∧ ∃ g1, G.2.2.2 v0 4 = some g1 ∧ isO G g1 12 ∧ ∃ g2, G.2.2.2 v0 1 = some g2 ∧ isO G g2 17 ∧ ∃ g3, G.2.2.2 v0 3 = some g3 ∧ isO G g3 17 ∧ ∃ g4, G.2.2.2 v0 2 = some g4 ∧ isO G g4 17 ∧ (vp_in v2 (G.2.2.1 g1) ∧ vp_in v2 (G.2.2.1 g1) ∧ ∃ n, X2_addTick_l12 G post v0 v1 v2 g1 g2 g3 g4 n 0 (dJ D g1 v2.toNatClampNeg ((D.2 g1 v2.toNatClampNeg) + 1)))
set_option maxRecDepth 100000 in
set_option maxHeartbeats 4000000 in
theorem X2_addTick_ok (l : Launch) (G : Shp) (D : Dat) (v0 : Nat) (v1 : Int32) (v2 : Int32) (post : Dat → Prop) (hw : X2_addTick_wp G D v0 v1 v2 post) : CtV l yX2_addTick cX2_addTick 7 (rmN 0) [.ref v0, .int v1, .int v2] G D post := by
  obtain ⟨ho_v0, g1, hr_g1, ho_g1, g2, hr_g2, ho_g2, g3, hr_g3, ho_g3, g4, hr_g4, ho_g4, hw⟩ := hw
  refine ctV_of (by decide) rfl (Nat.le_of_ble_eq_true rfl) ?_
  intro κ hκ C K
  subst hκ
  have C : Cx κ cX2_addTick RX2 (rmN 0) 7 := C
  refine j_aload_n C dX2_addTick_0 rfl 0 rfl ?_
  refine gf_2_4 C ho_v0 hr_g1 k_150 dX2_addTick_1 ?_
  refine j_iload_n C dX2_addTick_4 rfl 2 rfl ?_
  refine j_dup2 C dX2_addTick_5 rfl rfl ?_
  obtain ⟨hi1, hw⟩ := hw
  refine j_lald C ho_g1 hi1 dX2_addTick_6 ?_
  refine j_lconst (v := 1) C dX2_addTick_7 (by decide) ?_
  refine j_ladd C dX2_addTick_8 ?_
  obtain ⟨hi2, hw⟩ := hw
  refine j_last C ho_g1 hi2 dX2_addTick_9 ?_
  refine j_iconst (v := 0) C dX2_addTick_10 (by decide) ?_
  refine j_istore_n C dX2_addTick_11 rfl (by decide) rfl ?_
  obtain ⟨n, hw⟩ := hw
  exact J.sub (X2_addTick_l12_ok C K ho_v0 hr_g1 ho_g1 hr_g2 ho_g2 hr_g3 ho_g3 hr_g4 ho_g4 n 0 (dJ D g1 v2.toNatClampNeg ((D.2 g1 v2.toNatClampNeg) + 1)) hw) [1, 2, 3, 0] rfl
/-! X2_cell -/
def X2_cell_wp (G : Shp) (D : Dat) (v0 : Nat) (v1 : Int32) (v2 : Int32) (post : Option Nat → Dat → Prop) : Prop := isO G v0 2 ∧ ∃ g1, G.2.2.2 v0 5 = some g1 ∧ isO G g1 14 ∧ (vp_in ((v1 * 7) + v2) (G.2.2.1 g1) ∧ ∃ y2, G.2.2.2 g1 ((v1 * 7) + v2).toNatClampNeg = some y2 ∧ isO G y2 0 ∧ post (some y2) D)
set_option maxRecDepth 100000 in
set_option maxHeartbeats 4000000 in
theorem X2_cell_ok (l : Launch) (G : Shp) (D : Dat) (v0 : Nat) (v1 : Int32) (v2 : Int32) (post : Option Nat → Dat → Prop) (hw : X2_cell_wp G D v0 v1 v2 post) : CtQ l yX2_cell cX2_cell 3 (.object "SeasonRows$Big") (rmN 0) [.ref v0, .int v1, .int v2] G D post := by
  obtain ⟨ho_v0, g1, hr_g1, ho_g1, hw⟩ := hw
  refine ctQ_of (by decide) rfl (Nat.le_of_ble_eq_true rfl) (Or.inl ⟨_, rfl⟩) ?_
  intro κ hκ C K
  subst hκ
  have C : Cx κ cX2_cell RX2 (rmN 0) 3 := C
  refine j_aload_n C dX2_cell_0 rfl 0 rfl ?_
  refine gf_2_5 C ho_v0 hr_g1 k_151 dX2_cell_1 ?_
  refine j_iload_n C dX2_cell_4 rfl 1 rfl ?_
  refine j_bipush (v := 7) C dX2_cell_5 (by decide) ?_
  refine j_imul C dX2_cell_7 ?_
  refine j_iload_n C dX2_cell_8 rfl 2 rfl ?_
  refine j_iadd C dX2_cell_9 ?_
  obtain ⟨hi1, hw⟩ := hw
  obtain ⟨y2, hr3, ho4, hw⟩ := hw
  refine j_aaldBig C ho_g1 hi1 hr3 dX2_cell_10 ?_
  exact K _ _ (some y2) _ dX2_cell_11 hw
/-! X2_layNumbers -/
def X2_layNumbers_j55 (G : Shp) (post : Dat → Prop) (v0 : Nat) (v1 : Nat) (v2 : Int32) (g1 : Nat) (g2 : Nat) (k2 : Int32 → Dat → Prop) (v3 : Int32) (D : Dat) : Prop := k2 (v3 + 1) D
set_option maxRecDepth 100000 in
set_option maxHeartbeats 4000000 in
theorem X2_layNumbers_j55_ok {κ : Ctx} {G : Shp} {post : Dat → Prop} {v0 : Nat} {v1 : Nat} {v2 : Int32} {g1 : Nat} {g2 : Nat} (C : Cx κ cX2_layNumbers RX2 (rmN 0) 4) (K : RtV κ cX2_layNumbers G post) (ho_v0 : isO G v0 2) (ho_v1 : isO G v1 3) (hr_g1 : G.2.2.2 v0 1 = some g1) (ho_g1 : isO G g1 17) (hr_g2 : G.2.2.2 v1 0 = some g2) (ho_g2 : isO G g2 11) {k2 : Int32 → Dat → Prop} (hk2 : ∀ (v3 : Int32) (D : Dat), k2 v3 D → J κ 0 0 G D 2 [(0, .ref v0), (1, .ref v1), (2, .int v2), (3, .int v3)] []) (v3 : Int32) (D : Dat) (hw : X2_layNumbers_j55 G post v0 v1 v2 g1 g2 k2 v3 D) : J κ 0 0 G D 55 [(0, .ref v0), (1, .ref v1), (2, .int v2), (3, .int v3)] [] := by
  unfold X2_layNumbers_j55 at hw
  refine j_iinc (v := v3 + 1) C dX2_layNumbers_55 3 rfl rfl (by decide) rfl ?_
  refine j_goto (tgt := 2) C dX2_layNumbers_58 (by decide) ?_
  exact J.sub (hk2 (v3 + 1) D hw) [1, 2, 3, 0] rfl
def X2_layNumbers_j54 (G : Shp) (post : Dat → Prop) (v0 : Nat) (v1 : Nat) (v2 : Int32) (g1 : Nat) (g2 : Nat) (k2 : Int32 → Dat → Prop) (v3 : Int32) (s0 : Int64) (s1 : Int32) (s2 : Nat) (D : Dat) : Prop := (isO G s2 12 ∧ vp_in s1 (G.2.2.1 s2) ∧ X2_layNumbers_j55 G post v0 v1 v2 g1 g2 k2 v3 (dJ D s2 s1.toNatClampNeg s0))
set_option maxRecDepth 100000 in
set_option maxHeartbeats 4000000 in
theorem X2_layNumbers_j54_ok {κ : Ctx} {G : Shp} {post : Dat → Prop} {v0 : Nat} {v1 : Nat} {v2 : Int32} {g1 : Nat} {g2 : Nat} (C : Cx κ cX2_layNumbers RX2 (rmN 0) 4) (K : RtV κ cX2_layNumbers G post) (ho_v0 : isO G v0 2) (ho_v1 : isO G v1 3) (hr_g1 : G.2.2.2 v0 1 = some g1) (ho_g1 : isO G g1 17) (hr_g2 : G.2.2.2 v1 0 = some g2) (ho_g2 : isO G g2 11) {k2 : Int32 → Dat → Prop} (hk2 : ∀ (v3 : Int32) (D : Dat), k2 v3 D → J κ 0 0 G D 2 [(0, .ref v0), (1, .ref v1), (2, .int v2), (3, .int v3)] []) (v3 : Int32) (s0 : Int64) (s1 : Int32) (s2 : Nat) (D : Dat) (hw : X2_layNumbers_j54 G post v0 v1 v2 g1 g2 k2 v3 s0 s1 s2 D) : J κ 0 0 G D 54 [(0, .ref v0), (1, .ref v1), (2, .int v2), (3, .int v3)] [.long s0, .int s1, .ref s2] := by
  unfold X2_layNumbers_j54 at hw
  obtain ⟨ho1, hw⟩ := hw
  obtain ⟨hi2, hw⟩ := hw
  refine j_last C ho1 hi2 dX2_layNumbers_54 ?_
  exact J.sub (X2_layNumbers_j55_ok C K ho_v0 ho_v1 hr_g1 ho_g1 hr_g2 ho_g2 hk2 v3 (dJ D s2 s1.toNatClampNeg s0) hw) [0, 1, 2, 3] rfl
def X2_layNumbers_l2_b (G : Shp) (post : Dat → Prop) (v0 : Nat) (v1 : Nat) (v2 : Int32) (g1 : Nat) (g2 : Nat) (rec : Int32 → Dat → Prop) (v3 : Int32) (D : Dat) : Prop := ((40 ≤ v3 → post D) ∧ (¬ (40 ≤ v3) → ((¬ v2 = (-1) → (vp_in (D.1 v0 11) (G.2.2.1 g1) ∧ ∃ y2, G.2.2.2 g1 (D.1 v0 11).toNatClampNeg = some y2 ∧ isO G y2 12 ∧ ((¬ v3 = v2 → X2_layNumbers_j54 G post v0 v1 v2 g1 g2 rec v3 0 v3 y2 D) ∧ (v3 = v2 → X2_layNumbers_j54 G post v0 v1 v2 g1 g2 rec v3 1 v3 y2 D)))) ∧ (v2 = (-1) → (vp_in (D.1 v0 11) (G.2.2.1 g1) ∧ ∃ y6, G.2.2.2 g1 (D.1 v0 11).toNatClampNeg = some y6 ∧ isO G y6 12 ∧ vp_in v3 (G.2.2.1 g2) ∧ vp_in v3 (G.2.2.1 y6) ∧ X2_layNumbers_j55 G post v0 v1 v2 g1 g2 rec v3 (dJ D y6 v3.toNatClampNeg ((D.1 g2 v3.toNatClampNeg).toInt64)))))))
def X2_layNumbers_l2 (G : Shp) (post : Dat → Prop) (v0 : Nat) (v1 : Nat) (v2 : Int32) (g1 : Nat) (g2 : Nat) : Nat → Int32 → Dat → Prop
  | 0 => fun _ _ => False
  | n + 1 => X2_layNumbers_l2_b G post v0 v1 v2 g1 g2 (X2_layNumbers_l2 G post v0 v1 v2 g1 g2 n)
set_option maxRecDepth 100000 in
set_option maxHeartbeats 4000000 in
theorem X2_layNumbers_l2_ok {κ : Ctx} {G : Shp} {post : Dat → Prop} {v0 : Nat} {v1 : Nat} {v2 : Int32} {g1 : Nat} {g2 : Nat} (C : Cx κ cX2_layNumbers RX2 (rmN 0) 4) (K : RtV κ cX2_layNumbers G post) (ho_v0 : isO G v0 2) (ho_v1 : isO G v1 3) (hr_g1 : G.2.2.2 v0 1 = some g1) (ho_g1 : isO G g1 17) (hr_g2 : G.2.2.2 v1 0 = some g2) (ho_g2 : isO G g2 11) : ∀ (n : Nat) (v3 : Int32) (D : Dat), X2_layNumbers_l2 G post v0 v1 v2 g1 g2 n v3 D → J κ 0 0 G D 2 [(0, .ref v0), (1, .ref v1), (2, .int v2), (3, .int v3)] [] := by
  intro n
  induction n with
  | zero => intro v3 D hw; exact hw.elim
  | succ n ih =>
    intro v3 D hw
    have hw : X2_layNumbers_l2_b G post v0 v1 v2 g1 g2 (X2_layNumbers_l2 G post v0 v1 v2 g1 g2 n) v3 D := hw
    unfold X2_layNumbers_l2_b at hw
    refine j_iload_n C dX2_layNumbers_2 rfl 3 rfl ?_
    refine j_bipush (v := 40) C dX2_layNumbers_3 (by decide) ?_
    refine j_icmp_ge (tgt := 61) C dX2_layNumbers_5 (by decide) (fun hc => ?_) (fun hc => ?_)
    · have hw := hw.1 hc
      exact K _ _ _ dX2_layNumbers_61 hw
    · have hw := hw.2 hc
      refine j_iload_n C dX2_layNumbers_8 rfl 2 rfl ?_
      refine j_iconst (v := (-1)) C dX2_layNumbers_9 (by decide) ?_
      refine j_icmp_ne (tgt := 34) C dX2_layNumbers_10 (by decide) (fun hc => ?_) (fun hc => ?_)
      · have hw := hw.1 hc
        refine j_aload_n C dX2_layNumbers_34 rfl 0 rfl ?_
        refine gf_2_1 C ho_v0 hr_g1 k_147 dX2_layNumbers_35 ?_
        refine j_aload_n C dX2_layNumbers_38 rfl 0 rfl ?_
        refine gf_2_11 C ho_v0 k_159 dX2_layNumbers_39 ?_
        obtain ⟨hi1, hw⟩ := hw
        obtain ⟨y2, hr3, ho4, hw⟩ := hw
        refine j_aaldJ C ho_g1 hi1 hr3 dX2_layNumbers_42 ?_
        refine j_iload_n C dX2_layNumbers_43 rfl 3 rfl ?_
        refine j_iload_n C dX2_layNumbers_44 rfl 3 rfl ?_
        refine j_iload_n C dX2_layNumbers_45 rfl 2 rfl ?_
        refine j_icmp_ne (tgt := 53) C dX2_layNumbers_46 (by decide) (fun hc => ?_) (fun hc => ?_)
        · have hw := hw.1 hc
          refine j_lconst (v := 0) C dX2_layNumbers_53 (by decide) ?_
          exact J.sub (X2_layNumbers_j54_ok C K ho_v0 ho_v1 hr_g1 ho_g1 hr_g2 ho_g2 ih v3 0 v3 y2 D hw) [0, 1, 2, 3] rfl
        · have hw := hw.2 hc
          refine j_lconst (v := 1) C dX2_layNumbers_49 (by decide) ?_
          refine j_goto (tgt := 54) C dX2_layNumbers_50 (by decide) ?_
          exact J.sub (X2_layNumbers_j54_ok C K ho_v0 ho_v1 hr_g1 ho_g1 hr_g2 ho_g2 ih v3 1 v3 y2 D hw) [0, 1, 2, 3] rfl
      · have hw := hw.2 hc
        refine j_aload_n C dX2_layNumbers_13 rfl 0 rfl ?_
        refine gf_2_1 C ho_v0 hr_g1 k_147 dX2_layNumbers_14 ?_
        refine j_aload_n C dX2_layNumbers_17 rfl 0 rfl ?_
        refine gf_2_11 C ho_v0 k_159 dX2_layNumbers_18 ?_
        obtain ⟨hi5, hw⟩ := hw
        obtain ⟨y6, hr7, ho8, hw⟩ := hw
        refine j_aaldJ C ho_g1 hi5 hr7 dX2_layNumbers_21 ?_
        refine j_iload_n C dX2_layNumbers_22 rfl 3 rfl ?_
        refine j_aload_n C dX2_layNumbers_23 rfl 1 rfl ?_
        refine gf_3_0 C ho_v1 hr_g2 k_85 dX2_layNumbers_24 ?_
        refine j_iload_n C dX2_layNumbers_27 rfl 3 rfl ?_
        obtain ⟨hi9, hw⟩ := hw
        refine j_iald C ho_g2 hi9 dX2_layNumbers_28 ?_
        refine j_i2l C dX2_layNumbers_29 ?_
        obtain ⟨hi10, hw⟩ := hw
        refine j_last C ho8 hi10 dX2_layNumbers_30 ?_
        refine j_goto (tgt := 55) C dX2_layNumbers_31 (by decide) ?_
        exact J.sub (X2_layNumbers_j55_ok C K ho_v0 ho_v1 hr_g1 ho_g1 hr_g2 ho_g2 ih v3 (dJ D y6 v3.toNatClampNeg ((D.1 g2 v3.toNatClampNeg).toInt64)) hw) [0, 1, 2, 3] rfl
def X2_layNumbers_wp (G : Shp) (D : Dat) (v0 : Nat) (v1 : Nat) (v2 : Int32) (post : Dat → Prop) : Prop := isO G v0 2 ∧ isO G v1 3 ∧ ∃ g1, G.2.2.2 v0 1 = some g1 ∧ isO G g1 17 ∧ ∃ g2, G.2.2.2 v1 0 = some g2 ∧ isO G g2 11 ∧ ∃ n, X2_layNumbers_l2 G post v0 v1 v2 g1 g2 n 0 D
set_option maxRecDepth 100000 in
set_option maxHeartbeats 4000000 in
theorem X2_layNumbers_ok (l : Launch) (G : Shp) (D : Dat) (v0 : Nat) (v1 : Nat) (v2 : Int32) (post : Dat → Prop) (hw : X2_layNumbers_wp G D v0 v1 v2 post) : CtV l yX2_layNumbers cX2_layNumbers 4 (rmN 0) [.ref v0, .ref v1, .int v2] G D post := by
  obtain ⟨ho_v0, ho_v1, g1, hr_g1, ho_g1, g2, hr_g2, ho_g2, hw⟩ := hw
  refine ctV_of (by decide) rfl (Nat.le_of_ble_eq_true rfl) ?_
  intro κ hκ C K
  subst hκ
  have C : Cx κ cX2_layNumbers RX2 (rmN 0) 4 := C
  refine j_iconst (v := 0) C dX2_layNumbers_0 (by decide) ?_
  refine j_istore_n C dX2_layNumbers_1 rfl (by decide) rfl ?_
  obtain ⟨n, hw⟩ := hw
  exact J.sub (X2_layNumbers_l2_ok C K ho_v0 ho_v1 hr_g1 ho_g1 hr_g2 ho_g2 n 0 D hw) [1, 2, 3, 0] rfl
/-! X2_layRamp -/
def X2_layRamp_l2_b (G : Shp) (post : Dat → Prop) (v0 : Nat) (g1 : Nat) (rec : Int32 → Dat → Prop) (v1 : Int32) (D : Dat) : Prop := ((80 ≤ v1 → post (dI D v0 11 ((D.1 v0 11) + 1))) ∧ (¬ (80 ≤ v1) → (vp_in (D.1 v0 11) (G.2.2.1 g1) ∧ ∃ y2, G.2.2.2 g1 (D.1 v0 11).toNatClampNeg = some y2 ∧ isO G y2 12 ∧ vp_in v1 (G.2.2.1 y2) ∧ rec (v1 + 1) (dJ D y2 v1.toNatClampNeg v1.toInt64))))
def X2_layRamp_l2 (G : Shp) (post : Dat → Prop) (v0 : Nat) (g1 : Nat) : Nat → Int32 → Dat → Prop
  | 0 => fun _ _ => False
  | n + 1 => X2_layRamp_l2_b G post v0 g1 (X2_layRamp_l2 G post v0 g1 n)
set_option maxRecDepth 100000 in
set_option maxHeartbeats 4000000 in
theorem X2_layRamp_l2_ok {κ : Ctx} {G : Shp} {post : Dat → Prop} {v0 : Nat} {g1 : Nat} (C : Cx κ cX2_layRamp RX2 (rmN 0) 2) (K : RtV κ cX2_layRamp G post) (ho_v0 : isO G v0 2) (hr_g1 : G.2.2.2 v0 1 = some g1) (ho_g1 : isO G g1 17) : ∀ (n : Nat) (v1 : Int32) (D : Dat), X2_layRamp_l2 G post v0 g1 n v1 D → J κ 0 0 G D 2 [(0, .ref v0), (1, .int v1)] [] := by
  intro n
  induction n with
  | zero => intro v1 D hw; exact hw.elim
  | succ n ih =>
    intro v1 D hw
    have hw : X2_layRamp_l2_b G post v0 g1 (X2_layRamp_l2 G post v0 g1 n) v1 D := hw
    unfold X2_layRamp_l2_b at hw
    refine j_iload_n C dX2_layRamp_2 rfl 1 rfl ?_
    refine j_bipush (v := 80) C dX2_layRamp_3 (by decide) ?_
    refine j_icmp_ge (tgt := 27) C dX2_layRamp_5 (by decide) (fun hc => ?_) (fun hc => ?_)
    · have hw := hw.1 hc
      refine j_aload_n C dX2_layRamp_27 rfl 0 rfl ?_
      refine j_dup C dX2_layRamp_28 rfl ?_
      refine gf_2_11 C ho_v0 k_159 dX2_layRamp_29 ?_
      refine j_iconst (v := 1) C dX2_layRamp_32 (by decide) ?_
      refine j_iadd C dX2_layRamp_33 ?_
      refine pf_2_11 C ho_v0 k_159 dX2_layRamp_34 ?_
      exact K _ _ _ dX2_layRamp_37 hw
    · have hw := hw.2 hc
      refine j_aload_n C dX2_layRamp_8 rfl 0 rfl ?_
      refine gf_2_1 C ho_v0 hr_g1 k_147 dX2_layRamp_9 ?_
      refine j_aload_n C dX2_layRamp_12 rfl 0 rfl ?_
      refine gf_2_11 C ho_v0 k_159 dX2_layRamp_13 ?_
      obtain ⟨hi1, hw⟩ := hw
      obtain ⟨y2, hr3, ho4, hw⟩ := hw
      refine j_aaldJ C ho_g1 hi1 hr3 dX2_layRamp_16 ?_
      refine j_iload_n C dX2_layRamp_17 rfl 1 rfl ?_
      refine j_iload_n C dX2_layRamp_18 rfl 1 rfl ?_
      refine j_i2l C dX2_layRamp_19 ?_
      obtain ⟨hi5, hw⟩ := hw
      refine j_last C ho4 hi5 dX2_layRamp_20 ?_
      refine j_iinc (v := v1 + 1) C dX2_layRamp_21 1 rfl rfl (by decide) rfl ?_
      refine j_goto (tgt := 2) C dX2_layRamp_24 (by decide) ?_
      exact J.sub (ih (v1 + 1) (dJ D y2 v1.toNatClampNeg v1.toInt64) hw) [1, 0] rfl
def X2_layRamp_wp (G : Shp) (D : Dat) (v0 : Nat) (post : Dat → Prop) : Prop := isO G v0 2 ∧ ∃ g1, G.2.2.2 v0 1 = some g1 ∧ isO G g1 17 ∧ ∃ n, X2_layRamp_l2 G post v0 g1 n 0 D
set_option maxRecDepth 100000 in
set_option maxHeartbeats 4000000 in
theorem X2_layRamp_ok (l : Launch) (G : Shp) (D : Dat) (v0 : Nat) (post : Dat → Prop) (hw : X2_layRamp_wp G D v0 post) : CtV l yX2_layRamp cX2_layRamp 2 (rmN 0) [.ref v0] G D post := by
  obtain ⟨ho_v0, g1, hr_g1, ho_g1, hw⟩ := hw
  refine ctV_of (by decide) rfl (Nat.le_of_ble_eq_true rfl) ?_
  intro κ hκ C K
  subst hκ
  have C : Cx κ cX2_layRamp RX2 (rmN 0) 2 := C
  refine j_iconst (v := 0) C dX2_layRamp_0 (by decide) ?_
  refine j_istore_n C dX2_layRamp_1 rfl (by decide) rfl ?_
  obtain ⟨n, hw⟩ := hw
  exact J.sub (X2_layRamp_l2_ok C K ho_v0 hr_g1 ho_g1 n 0 D hw) [1, 0] rfl
/-! X2_layStep -/
def X2_layStep_j38 (G : Shp) (post : Dat → Prop) (v0 : Nat) (v1 : Int32) (g1 : Nat) (k12 : Int32 → Dat → Prop) (v2 : Int32) (s0 : Int64) (s1 : Int32) (s2 : Nat) (D : Dat) : Prop := (isO G s2 12 ∧ vp_in s1 (G.2.2.1 s2) ∧ k12 (v2 + 1) (dJ D s2 s1.toNatClampNeg s0))
set_option maxRecDepth 100000 in
set_option maxHeartbeats 4000000 in
theorem X2_layStep_j38_ok {κ : Ctx} {G : Shp} {post : Dat → Prop} {v0 : Nat} {v1 : Int32} {g1 : Nat} (C : Cx κ cX2_layStep RX2 (rmN 0) 3) (K : RtV κ cX2_layStep G post) (ho_v0 : isO G v0 2) (hr_g1 : G.2.2.2 v0 1 = some g1) (ho_g1 : isO G g1 17) {k12 : Int32 → Dat → Prop} (hk12 : ∀ (v2 : Int32) (D : Dat), k12 v2 D → J κ 0 0 G D 12 [(0, .ref v0), (1, .int v1), (2, .int v2)] []) (v2 : Int32) (s0 : Int64) (s1 : Int32) (s2 : Nat) (D : Dat) (hw : X2_layStep_j38 G post v0 v1 g1 k12 v2 s0 s1 s2 D) : J κ 0 0 G D 38 [(0, .ref v0), (1, .int v1), (2, .int v2)] [.long s0, .int s1, .ref s2] := by
  unfold X2_layStep_j38 at hw
  obtain ⟨ho1, hw⟩ := hw
  obtain ⟨hi2, hw⟩ := hw
  refine j_last C ho1 hi2 dX2_layStep_38 ?_
  refine j_iinc (v := v2 + 1) C dX2_layStep_39 2 rfl rfl (by decide) rfl ?_
  refine j_goto (tgt := 12) C dX2_layStep_42 (by decide) ?_
  exact J.sub (hk12 (v2 + 1) (dJ D s2 s1.toNatClampNeg s0) hw) [1, 2, 0] rfl
def X2_layStep_l12_b (G : Shp) (post : Dat → Prop) (v0 : Nat) (v1 : Int32) (g1 : Nat) (rec : Int32 → Dat → Prop) (v2 : Int32) (D : Dat) : Prop := ((80 ≤ v2 → post (dI D v0 11 ((D.1 v0 11) + 1))) ∧ (¬ (80 ≤ v2) → (vp_in (D.1 v0 11) (G.2.2.1 g1) ∧ ∃ y2, G.2.2.2 g1 (D.1 v0 11).toNatClampNeg = some y2 ∧ isO G y2 12 ∧ ((v2 < v1 → X2_layStep_j38 G post v0 v1 g1 rec v2 0 v2 y2 D) ∧ (¬ (v2 < v1) → X2_layStep_j38 G post v0 v1 g1 rec v2 1 v2 y2 D)))))
def X2_layStep_l12 (G : Shp) (post : Dat → Prop) (v0 : Nat) (v1 : Int32) (g1 : Nat) : Nat → Int32 → Dat → Prop
  | 0 => fun _ _ => False
  | n + 1 => X2_layStep_l12_b G post v0 v1 g1 (X2_layStep_l12 G post v0 v1 g1 n)
set_option maxRecDepth 100000 in
set_option maxHeartbeats 4000000 in
theorem X2_layStep_l12_ok {κ : Ctx} {G : Shp} {post : Dat → Prop} {v0 : Nat} {v1 : Int32} {g1 : Nat} (C : Cx κ cX2_layStep RX2 (rmN 0) 3) (K : RtV κ cX2_layStep G post) (ho_v0 : isO G v0 2) (hr_g1 : G.2.2.2 v0 1 = some g1) (ho_g1 : isO G g1 17) : ∀ (n : Nat) (v2 : Int32) (D : Dat), X2_layStep_l12 G post v0 v1 g1 n v2 D → J κ 0 0 G D 12 [(0, .ref v0), (1, .int v1), (2, .int v2)] [] := by
  intro n
  induction n with
  | zero => intro v2 D hw; exact hw.elim
  | succ n ih =>
    intro v2 D hw
    have hw : X2_layStep_l12_b G post v0 v1 g1 (X2_layStep_l12 G post v0 v1 g1 n) v2 D := hw
    unfold X2_layStep_l12_b at hw
    refine j_iload_n C dX2_layStep_12 rfl 2 rfl ?_
    refine j_bipush (v := 80) C dX2_layStep_13 (by decide) ?_
    refine j_icmp_ge (tgt := 45) C dX2_layStep_15 (by decide) (fun hc => ?_) (fun hc => ?_)
    · have hw := hw.1 hc
      refine j_aload_n C dX2_layStep_45 rfl 0 rfl ?_
      refine j_dup C dX2_layStep_46 rfl ?_
      refine gf_2_11 C ho_v0 k_159 dX2_layStep_47 ?_
      refine j_iconst (v := 1) C dX2_layStep_50 (by decide) ?_
      refine j_iadd C dX2_layStep_51 ?_
      refine pf_2_11 C ho_v0 k_159 dX2_layStep_52 ?_
      exact K _ _ _ dX2_layStep_55 hw
    · have hw := hw.2 hc
      refine j_aload_n C dX2_layStep_18 rfl 0 rfl ?_
      refine gf_2_1 C ho_v0 hr_g1 k_147 dX2_layStep_19 ?_
      refine j_aload_n C dX2_layStep_22 rfl 0 rfl ?_
      refine gf_2_11 C ho_v0 k_159 dX2_layStep_23 ?_
      obtain ⟨hi1, hw⟩ := hw
      obtain ⟨y2, hr3, ho4, hw⟩ := hw
      refine j_aaldJ C ho_g1 hi1 hr3 dX2_layStep_26 ?_
      refine j_iload_n C dX2_layStep_27 rfl 2 rfl ?_
      refine j_iload_n C dX2_layStep_28 rfl 2 rfl ?_
      refine j_iload_n C dX2_layStep_29 rfl 1 rfl ?_
      refine j_icmp_lt (tgt := 37) C dX2_layStep_30 (by decide) (fun hc => ?_) (fun hc => ?_)
      · have hw := hw.1 hc
        refine j_lconst (v := 0) C dX2_layStep_37 (by decide) ?_
        exact J.sub (X2_layStep_j38_ok C K ho_v0 hr_g1 ho_g1 ih v2 0 v2 y2 D hw) [0, 1, 2] rfl
      · have hw := hw.2 hc
        refine j_lconst (v := 1) C dX2_layStep_33 (by decide) ?_
        refine j_goto (tgt := 38) C dX2_layStep_34 (by decide) ?_
        exact J.sub (X2_layStep_j38_ok C K ho_v0 hr_g1 ho_g1 ih v2 1 v2 y2 D hw) [0, 1, 2] rfl
def X2_layStep_wp (G : Shp) (D : Dat) (v0 : Nat) (v1 : Int32) (post : Dat → Prop) : Prop := isO G v0 2 ∧ ∃ g1, G.2.2.2 v0 1 = some g1 ∧ isO G g1 17 ∧ (((D.1 v0 11) < 6 → ∃ n, X2_layStep_l12 G post v0 v1 g1 n 0 D) ∧ (¬ ((D.1 v0 11) < 6) → post D))
set_option maxRecDepth 100000 in
set_option maxHeartbeats 4000000 in
theorem X2_layStep_ok (l : Launch) (G : Shp) (D : Dat) (v0 : Nat) (v1 : Int32) (post : Dat → Prop) (hw : X2_layStep_wp G D v0 v1 post) : CtV l yX2_layStep cX2_layStep 3 (rmN 0) [.ref v0, .int v1] G D post := by
  obtain ⟨ho_v0, g1, hr_g1, ho_g1, hw⟩ := hw
  refine ctV_of (by decide) rfl (Nat.le_of_ble_eq_true rfl) ?_
  intro κ hκ C K
  subst hκ
  have C : Cx κ cX2_layStep RX2 (rmN 0) 3 := C
  refine j_aload_n C dX2_layStep_0 rfl 0 rfl ?_
  refine gf_2_11 C ho_v0 k_159 dX2_layStep_1 ?_
  refine j_bipush (v := 6) C dX2_layStep_4 (by decide) ?_
  refine j_icmp_lt (tgt := 10) C dX2_layStep_6 (by decide) (fun hc => ?_) (fun hc => ?_)
  · have hw := hw.1 hc
    refine j_iconst (v := 0) C dX2_layStep_10 (by decide) ?_
    refine j_istore_n C dX2_layStep_11 rfl (by decide) rfl ?_
    obtain ⟨n, hw⟩ := hw
    exact J.sub (X2_layStep_l12_ok C K ho_v0 hr_g1 ho_g1 n 0 D hw) [1, 2, 0] rfl
  · have hw := hw.2 hc
    exact K _ _ _ dX2_layStep_9 hw
/-! X2_placeOf -/
def X2_placeOf_j21 (G : Shp) (post : Int32 → Dat → Prop) (v0 : Nat) (v1 : Int32) (s0 : Int32) (D : Dat) : Prop := post s0 D
set_option maxRecDepth 100000 in
set_option maxHeartbeats 4000000 in
theorem X2_placeOf_j21_ok {κ : Ctx} {G : Shp} {post : Int32 → Dat → Prop} {v0 : Nat} {v1 : Int32} (C : Cx κ cX2_placeOf RX2 (rmN 0) 2) (K : RtI κ cX2_placeOf .int G post) (ho_v0 : isO G v0 2) (s0 : Int32) (D : Dat) (hw : X2_placeOf_j21 G post v0 v1 s0 D) : J κ 0 0 G D 21 [] [.int s0] := by
  unfold X2_placeOf_j21 at hw
  exact K _ _ _ _ dX2_placeOf_21 rfl hw
def X2_placeOf_j20 (G : Shp) (post : Int32 → Dat → Prop) (v0 : Nat) (v1 : Int32) (D : Dat) : Prop := X2_placeOf_j21 G post v0 v1 0 D
set_option maxRecDepth 100000 in
set_option maxHeartbeats 4000000 in
theorem X2_placeOf_j20_ok {κ : Ctx} {G : Shp} {post : Int32 → Dat → Prop} {v0 : Nat} {v1 : Int32} (C : Cx κ cX2_placeOf RX2 (rmN 0) 2) (K : RtI κ cX2_placeOf .int G post) (ho_v0 : isO G v0 2) (D : Dat) (hw : X2_placeOf_j20 G post v0 v1 D) : J κ 0 0 G D 20 [] [] := by
  unfold X2_placeOf_j20 at hw
  refine j_iconst (v := 0) C dX2_placeOf_20 (by decide) ?_
  exact J.sub (X2_placeOf_j21_ok C K ho_v0 0 D hw) [] rfl
def X2_placeOf_wp (G : Shp) (D : Dat) (v0 : Nat) (v1 : Int32) (post : Int32 → Dat → Prop) : Prop := isO G v0 2 ∧ ((v1 < 0 → X2_placeOf_j20 G post v0 v1 D) ∧ (¬ (v1 < 0) → (((D.1 v0 10) ≤ 0 → X2_placeOf_j20 G post v0 v1 D) ∧ (¬ ((D.1 v0 10) ≤ 0) → (¬ (D.1 v0 10) = 0 ∧ X2_placeOf_j21 G post v0 v1 (v1 - v1 / (D.1 v0 10) * (D.1 v0 10)) D)))))
set_option maxRecDepth 100000 in
set_option maxHeartbeats 4000000 in
theorem X2_placeOf_ok (l : Launch) (G : Shp) (D : Dat) (v0 : Nat) (v1 : Int32) (post : Int32 → Dat → Prop) (hw : X2_placeOf_wp G D v0 v1 post) : CtI l yX2_placeOf cX2_placeOf 2 .int (rmN 0) [.ref v0, .int v1] G D post := by
  obtain ⟨ho_v0, hw⟩ := hw
  refine ctI_of (by decide) rfl (Nat.le_of_ble_eq_true rfl) ?_
  intro κ hκ C K
  subst hκ
  have C : Cx κ cX2_placeOf RX2 (rmN 0) 2 := C
  refine j_iload_n C dX2_placeOf_0 rfl 1 rfl ?_
  refine j_if_lt (tgt := 20) C dX2_placeOf_1 (by decide) (fun hc => ?_) (fun hc => ?_)
  · have hw := hw.1 hc
    exact J.sub (X2_placeOf_j20_ok C K ho_v0 D hw) [] rfl
  · have hw := hw.2 hc
    refine j_aload_n C dX2_placeOf_4 rfl 0 rfl ?_
    refine gf_2_10 C ho_v0 k_157 dX2_placeOf_5 ?_
    refine j_if_le (tgt := 20) C dX2_placeOf_8 (by decide) (fun hc => ?_) (fun hc => ?_)
    · have hw := hw.1 hc
      exact J.sub (X2_placeOf_j20_ok C K ho_v0 D hw) [] rfl
    · have hw := hw.2 hc
      refine j_iload_n C dX2_placeOf_11 rfl 1 rfl ?_
      refine j_aload_n C dX2_placeOf_12 rfl 0 rfl ?_
      refine gf_2_10 C ho_v0 k_157 dX2_placeOf_13 ?_
      obtain ⟨hz1, hw⟩ := hw
      refine j_irem C dX2_placeOf_16 hz1 ?_
      refine j_goto (tgt := 21) C dX2_placeOf_17 (by decide) ?_
      exact J.sub (X2_placeOf_j21_ok C K ho_v0 (v1 - v1 / (D.1 v0 10) * (D.1 v0 10)) D hw) [] rfl
/-! X3_hasFeast -/
def X3_hasFeast_j22 (G : Shp) (post : Int32 → Dat → Prop) (v0 : Nat) (v1 : Int32) (s0 : Int32) (D : Dat) : Prop := (isB s0 ∧ post s0 D)
set_option maxRecDepth 100000 in
set_option maxHeartbeats 4000000 in
theorem X3_hasFeast_j22_ok {κ : Ctx} {G : Shp} {post : Int32 → Dat → Prop} {v0 : Nat} {v1 : Int32} (C : Cx κ cX3_hasFeast RX3 (rmN 0) 2) (K : RtI κ cX3_hasFeast .boolean G post) (ho_v0 : isO G v0 3) (s0 : Int32) (D : Dat) (hw : X3_hasFeast_j22 G post v0 v1 s0 D) : J κ 0 0 G D 22 [] [.int s0] := by
  unfold X3_hasFeast_j22 at hw
  obtain ⟨hb1, hw⟩ := hw
  exact K _ _ _ _ dX3_hasFeast_22 (isB_n hb1) hw
def X3_hasFeast_j21 (G : Shp) (post : Int32 → Dat → Prop) (v0 : Nat) (v1 : Int32) (D : Dat) : Prop := X3_hasFeast_j22 G post v0 v1 0 D
set_option maxRecDepth 100000 in
set_option maxHeartbeats 4000000 in
theorem X3_hasFeast_j21_ok {κ : Ctx} {G : Shp} {post : Int32 → Dat → Prop} {v0 : Nat} {v1 : Int32} (C : Cx κ cX3_hasFeast RX3 (rmN 0) 2) (K : RtI κ cX3_hasFeast .boolean G post) (ho_v0 : isO G v0 3) (D : Dat) (hw : X3_hasFeast_j21 G post v0 v1 D) : J κ 0 0 G D 21 [] [] := by
  unfold X3_hasFeast_j21 at hw
  refine j_iconst (v := 0) C dX3_hasFeast_21 (by decide) ?_
  exact J.sub (X3_hasFeast_j22_ok C K ho_v0 0 D hw) [] rfl
def X3_hasFeast_wp (G : Shp) (D : Dat) (v0 : Nat) (v1 : Int32) (post : Int32 → Dat → Prop) : Prop := isO G v0 3 ∧ ((v1 < 0 → X3_hasFeast_j21 G post v0 v1 D) ∧ (¬ (v1 < 0) → (((D.1 v0 5) ≤ v1 → X3_hasFeast_j21 G post v0 v1 D) ∧ (¬ ((D.1 v0 5) ≤ v1) → ((2 ≤ v1 → X3_hasFeast_j21 G post v0 v1 D) ∧ (¬ (2 ≤ v1) → X3_hasFeast_j22 G post v0 v1 1 D))))))
set_option maxRecDepth 100000 in
set_option maxHeartbeats 4000000 in
theorem X3_hasFeast_ok (l : Launch) (G : Shp) (D : Dat) (v0 : Nat) (v1 : Int32) (post : Int32 → Dat → Prop) (hw : X3_hasFeast_wp G D v0 v1 post) : CtI l yX3_hasFeast cX3_hasFeast 2 .boolean (rmN 0) [.ref v0, .int v1] G D post := by
  obtain ⟨ho_v0, hw⟩ := hw
  refine ctI_of (by decide) rfl (Nat.le_of_ble_eq_true rfl) ?_
  intro κ hκ C K
  subst hκ
  have C : Cx κ cX3_hasFeast RX3 (rmN 0) 2 := C
  refine j_iload_n C dX3_hasFeast_0 rfl 1 rfl ?_
  refine j_if_lt (tgt := 21) C dX3_hasFeast_1 (by decide) (fun hc => ?_) (fun hc => ?_)
  · have hw := hw.1 hc
    exact J.sub (X3_hasFeast_j21_ok C K ho_v0 D hw) [] rfl
  · have hw := hw.2 hc
    refine j_iload_n C dX3_hasFeast_4 rfl 1 rfl ?_
    refine j_aload_n C dX3_hasFeast_5 rfl 0 rfl ?_
    refine gf_3_5 C ho_v0 k_97 dX3_hasFeast_6 ?_
    refine j_icmp_ge (tgt := 21) C dX3_hasFeast_9 (by decide) (fun hc => ?_) (fun hc => ?_)
    · have hw := hw.1 hc
      exact J.sub (X3_hasFeast_j21_ok C K ho_v0 D hw) [] rfl
    · have hw := hw.2 hc
      refine j_iload_n C dX3_hasFeast_12 rfl 1 rfl ?_
      refine j_iconst (v := 2) C dX3_hasFeast_13 (by decide) ?_
      refine j_icmp_ge (tgt := 21) C dX3_hasFeast_14 (by decide) (fun hc => ?_) (fun hc => ?_)
      · have hw := hw.1 hc
        exact J.sub (X3_hasFeast_j21_ok C K ho_v0 D hw) [] rfl
      · have hw := hw.2 hc
        refine j_iconst (v := 1) C dX3_hasFeast_17 (by decide) ?_
        refine j_goto (tgt := 22) C dX3_hasFeast_18 (by decide) ?_
        exact J.sub (X3_hasFeast_j22_ok C K ho_v0 1 D hw) [] rfl
/-! X4_length -/
def X4_length_wp (G : Shp) (D : Dat) (v0 : Nat) (post : Int32 → Dat → Prop) : Prop := isO G v0 4 ∧ post (256 - (D.1 v0 1)) D
set_option maxRecDepth 100000 in
set_option maxHeartbeats 4000000 in
theorem X4_length_ok (l : Launch) (G : Shp) (D : Dat) (v0 : Nat) (post : Int32 → Dat → Prop) (hw : X4_length_wp G D v0 post) : CtI l yX4_length cX4_length 1 .int (rmN 0) [.ref v0] G D post := by
  obtain ⟨ho_v0, hw⟩ := hw
  refine ctI_of (by decide) rfl (Nat.le_of_ble_eq_true rfl) ?_
  intro κ hκ C K
  subst hκ
  have C : Cx κ cX4_length RX4 (rmN 0) 1 := C
  refine j_sipush (v := 256) C dX4_length_0 (by decide) ?_
  refine j_aload_n C dX4_length_3 rfl 0 rfl ?_
  refine gf_4_1 C ho_v0 k_30 dX4_length_4 ?_
  refine j_isub C dX4_length_7 ?_
  exact K _ _ _ _ dX4_length_8 rfl hw
/-! X4_writeByte -/
def X4_writeByte_j28 (G : Shp) (post : Dat → Prop) (v0 : Nat) (v1 : Int32) (g1 : Nat) (D : Dat) : Prop := post D
set_option maxRecDepth 100000 in
set_option maxHeartbeats 4000000 in
theorem X4_writeByte_j28_ok {κ : Ctx} {G : Shp} {post : Dat → Prop} {v0 : Nat} {v1 : Int32} {g1 : Nat} (C : Cx κ cX4_writeByte RX4 (rmN 0) 2) (K : RtV κ cX4_writeByte G post) (ho_v0 : isO G v0 4) (hr_g1 : G.2.2.2 v0 0 = some g1) (ho_g1 : isO G g1 10) (D : Dat) (hw : X4_writeByte_j28 G post v0 v1 g1 D) : J κ 0 0 G D 28 [] [] := by
  unfold X4_writeByte_j28 at hw
  exact K _ _ _ dX4_writeByte_28 hw
def X4_writeByte_wp (G : Shp) (D : Dat) (v0 : Nat) (v1 : Int32) (post : Dat → Prop) : Prop := isO G v0 4 ∧ ∃ g1, G.2.2.2 v0 0 = some g1 ∧ isO G g1 10 ∧ (((D.1 v0 1) ≤ 0 → X4_writeByte_j28 G post v0 v1 g1 D) ∧ (¬ ((D.1 v0 1) ≤ 0) → (vp_in ((dI D v0 1 ((D.1 v0 1) - 1)).1 v0 1) (G.2.2.1 g1) ∧ X4_writeByte_j28 G post v0 v1 g1 (dI (dI D v0 1 ((D.1 v0 1) - 1)) g1 ((dI D v0 1 ((D.1 v0 1) - 1)).1 v0 1).toNatClampNeg (vp_nar .byte v1.toInt8.toInt32)))))
set_option maxRecDepth 100000 in
set_option maxHeartbeats 4000000 in
theorem X4_writeByte_ok (l : Launch) (G : Shp) (D : Dat) (v0 : Nat) (v1 : Int32) (post : Dat → Prop) (hw : X4_writeByte_wp G D v0 v1 post) : CtV l yX4_writeByte cX4_writeByte 2 (rmN 0) [.ref v0, .int v1] G D post := by
  obtain ⟨ho_v0, g1, hr_g1, ho_g1, hw⟩ := hw
  refine ctV_of (by decide) rfl (Nat.le_of_ble_eq_true rfl) ?_
  intro κ hκ C K
  subst hκ
  have C : Cx κ cX4_writeByte RX4 (rmN 0) 2 := C
  refine j_aload_n C dX4_writeByte_0 rfl 0 rfl ?_
  refine gf_4_1 C ho_v0 k_30 dX4_writeByte_1 ?_
  refine j_if_le (tgt := 28) C dX4_writeByte_4 (by decide) (fun hc => ?_) (fun hc => ?_)
  · have hw := hw.1 hc
    exact J.sub (X4_writeByte_j28_ok C K ho_v0 hr_g1 ho_g1 D hw) [] rfl
  · have hw := hw.2 hc
    refine j_aload_n C dX4_writeByte_7 rfl 0 rfl ?_
    refine j_dup C dX4_writeByte_8 rfl ?_
    refine gf_4_1 C ho_v0 k_30 dX4_writeByte_9 ?_
    refine j_iconst (v := 1) C dX4_writeByte_12 (by decide) ?_
    refine j_isub C dX4_writeByte_13 ?_
    refine pf_4_1 C ho_v0 k_30 dX4_writeByte_14 ?_
    refine j_aload_n C dX4_writeByte_17 rfl 0 rfl ?_
    refine gf_4_0 C ho_v0 hr_g1 k_29 dX4_writeByte_18 ?_
    refine j_aload_n C dX4_writeByte_21 rfl 0 rfl ?_
    refine gf_4_1 C ho_v0 k_30 dX4_writeByte_22 ?_
    refine j_iload_n C dX4_writeByte_25 rfl 1 rfl ?_
    refine j_i2b C dX4_writeByte_26 ?_
    obtain ⟨hi1, hw⟩ := hw
    refine j_bast C ho_g1 hi1 dX4_writeByte_27 ?_
    exact J.sub (X4_writeByte_j28_ok C K ho_v0 hr_g1 ho_g1 (dI (dI D v0 1 ((D.1 v0 1) - 1)) g1 ((dI D v0 1 ((D.1 v0 1) - 1)).1 v0 1).toNatClampNeg (vp_nar .byte v1.toInt8.toInt32)) hw) [] rfl
/-! X6_turnOver -/
def X6_turnOver_l5_b (G : Shp) (post : Dat → Prop) (v0 : Nat) (v1 : Int32) (g1 : Nat) (rec : Int64 → Int32 → Dat → Prop) (v2 : Int64) (v4 : Int32) (D : Dat) : Prop := ((v1 ≤ v4 → post D) ∧ (¬ (v1 ≤ v4) → (vp_in v4 (G.2.2.1 g1) ∧ vp_in v4 (G.2.2.1 g1) ∧ rec (((134217727 - (D.2 g1 v4.toNatClampNeg)) + v2) >>> ((27 : Int32).toInt64 &&& 63)) (v4 + 1) (dJ D g1 v4.toNatClampNeg (((134217727 - (D.2 g1 v4.toNatClampNeg)) + v2) &&& 134217727)))))
def X6_turnOver_l5 (G : Shp) (post : Dat → Prop) (v0 : Nat) (v1 : Int32) (g1 : Nat) : Nat → Int64 → Int32 → Dat → Prop
  | 0 => fun _ _ _ => False
  | n + 1 => X6_turnOver_l5_b G post v0 v1 g1 (X6_turnOver_l5 G post v0 v1 g1 n)
set_option maxRecDepth 100000 in
set_option maxHeartbeats 4000000 in
theorem X6_turnOver_l5_ok {κ : Ctx} {G : Shp} {post : Dat → Prop} {v0 : Nat} {v1 : Int32} {g1 : Nat} (C : Cx κ cX6_turnOver RX6 (rmN 0) 7) (K : RtV κ cX6_turnOver G post) (ho_v0 : isO G v0 0) (hr_g1 : G.2.2.2 v0 0 = some g1) (ho_g1 : isO G g1 12) : ∀ (n : Nat) (v2 : Int64) (v4 : Int32) (D : Dat), X6_turnOver_l5 G post v0 v1 g1 n v2 v4 D → J κ 0 0 G D 5 [(0, .ref v0), (1, .int v1), (2, .long v2), (4, .int v4)] [] := by
  intro n
  induction n with
  | zero => intro v2 v4 D hw; exact hw.elim
  | succ n ih =>
    intro v2 v4 D hw
    have hw : X6_turnOver_l5_b G post v0 v1 g1 (X6_turnOver_l5 G post v0 v1 g1 n) v2 v4 D := hw
    unfold X6_turnOver_l5_b at hw
    refine j_iload C dX6_turnOver_5 3 rfl ?_
    refine j_iload_n C dX6_turnOver_7 rfl 1 rfl ?_
    refine j_icmp_ge (tgt := 51) C dX6_turnOver_8 (by decide) (fun hc => ?_) (fun hc => ?_)
    · have hw := hw.1 hc
      exact K _ _ _ dX6_turnOver_51 hw
    · have hw := hw.2 hc
      refine j_ldc2 (v := 134217727) C k_510 dX6_turnOver_11 ?_
      refine j_aload_n C dX6_turnOver_14 rfl 0 rfl ?_
      refine gf_0_0 C ho_v0 hr_g1 k_44 dX6_turnOver_15 ?_
      refine j_iload C dX6_turnOver_18 3 rfl ?_
      obtain ⟨hi1, hw⟩ := hw
      refine j_lald C ho_g1 hi1 dX6_turnOver_20 ?_
      refine j_lsub C dX6_turnOver_21 ?_
      refine j_lload_n C dX6_turnOver_22 rfl 2 rfl ?_
      refine j_ladd C dX6_turnOver_23 ?_
      refine j_lstore C dX6_turnOver_24 (by decide) rfl ?_
      refine j_aload_n C dX6_turnOver_26 rfl 1 rfl ?_
      refine gf_0_0 C ho_v0 hr_g1 k_44 dX6_turnOver_27 ?_
      refine j_iload C dX6_turnOver_30 4 rfl ?_
      refine j_lload C dX6_turnOver_32 0 rfl ?_
      refine j_ldc2 (v := 134217727) C k_510 dX6_turnOver_34 ?_
      refine j_land C dX6_turnOver_37 ?_
      obtain ⟨hi2, hw⟩ := hw
      refine j_last C ho_g1 hi2 dX6_turnOver_38 ?_
      refine j_lload C dX6_turnOver_39 0 rfl ?_
      refine j_bipush (v := 27) C dX6_turnOver_41 (by decide) ?_
      refine j_lshr C dX6_turnOver_43 ?_
      refine j_lstore_n C dX6_turnOver_44 rfl (by decide) rfl ?_
      refine j_iinc (v := v4 + 1) C dX6_turnOver_45 4 rfl rfl (by decide) rfl ?_
      refine j_goto (tgt := 5) C dX6_turnOver_48 (by decide) ?_
      exact J.sub (ih (((134217727 - (D.2 g1 v4.toNatClampNeg)) + v2) >>> ((27 : Int32).toInt64 &&& 63)) (v4 + 1) (dJ D g1 v4.toNatClampNeg (((134217727 - (D.2 g1 v4.toNatClampNeg)) + v2) &&& 134217727)) hw) [3, 4, 1, 0] rfl
def X6_turnOver_wp (G : Shp) (D : Dat) (v0 : Nat) (v1 : Int32) (post : Dat → Prop) : Prop := isO G v0 0 ∧ ∃ g1, G.2.2.2 v0 0 = some g1 ∧ isO G g1 12 ∧ ∃ n, X6_turnOver_l5 G post v0 v1 g1 n 1 0 D
set_option maxRecDepth 100000 in
set_option maxHeartbeats 4000000 in
theorem X6_turnOver_ok (l : Launch) (G : Shp) (D : Dat) (v0 : Nat) (v1 : Int32) (post : Dat → Prop) (hw : X6_turnOver_wp G D v0 v1 post) : CtV l yX6_turnOver cX6_turnOver 7 (rmN 0) [.ref v0, .int v1] G D post := by
  obtain ⟨ho_v0, g1, hr_g1, ho_g1, hw⟩ := hw
  refine ctV_of (by decide) rfl (Nat.le_of_ble_eq_true rfl) ?_
  intro κ hκ C K
  subst hκ
  have C : Cx κ cX6_turnOver RX6 (rmN 0) 7 := C
  refine j_lconst (v := 1) C dX6_turnOver_0 (by decide) ?_
  refine j_lstore_n C dX6_turnOver_1 rfl (by decide) rfl ?_
  refine j_iconst (v := 0) C dX6_turnOver_2 (by decide) ?_
  refine j_istore C dX6_turnOver_3 (by decide) rfl ?_
  obtain ⟨n, hw⟩ := hw
  exact J.sub (X6_turnOver_l5_ok C K ho_v0 hr_g1 ho_g1 n 1 0 D hw) [2, 3, 1, 0] rfl
/-! X7_clear -/
def X7_clear_l2_b (G : Shp) (post : Dat → Prop) (v0 : Nat) (g1 : Nat) (rec : Int32 → Dat → Prop) (v1 : Int32) (D : Dat) : Prop := ((40 ≤ v1 → post (dI D v0 1 0)) ∧ (¬ (40 ≤ v1) → (vp_in v1 (G.2.2.1 g1) ∧ rec (v1 + 1) (dI D g1 v1.toNatClampNeg (vp_nar .boolean 0)))))
def X7_clear_l2 (G : Shp) (post : Dat → Prop) (v0 : Nat) (g1 : Nat) : Nat → Int32 → Dat → Prop
  | 0 => fun _ _ => False
  | n + 1 => X7_clear_l2_b G post v0 g1 (X7_clear_l2 G post v0 g1 n)
set_option maxRecDepth 100000 in
set_option maxHeartbeats 4000000 in
theorem X7_clear_l2_ok {κ : Ctx} {G : Shp} {post : Dat → Prop} {v0 : Nat} {g1 : Nat} (C : Cx κ cX7_clear RX7 (rmN 0) 2) (K : RtV κ cX7_clear G post) (ho_v0 : isO G v0 7) (hr_g1 : G.2.2.2 v0 0 = some g1) (ho_g1 : isO G g1 13) : ∀ (n : Nat) (v1 : Int32) (D : Dat), X7_clear_l2 G post v0 g1 n v1 D → J κ 0 0 G D 2 [(0, .ref v0), (1, .int v1)] [] := by
  intro n
  induction n with
  | zero => intro v1 D hw; exact hw.elim
  | succ n ih =>
    intro v1 D hw
    have hw : X7_clear_l2_b G post v0 g1 (X7_clear_l2 G post v0 g1 n) v1 D := hw
    unfold X7_clear_l2_b at hw
    refine j_iload_n C dX7_clear_2 rfl 1 rfl ?_
    refine j_bipush (v := 40) C dX7_clear_3 (by decide) ?_
    refine j_icmp_ge (tgt := 21) C dX7_clear_5 (by decide) (fun hc => ?_) (fun hc => ?_)
    · have hw := hw.1 hc
      refine j_aload_n C dX7_clear_21 rfl 0 rfl ?_
      refine j_iconst (v := 0) C dX7_clear_22 (by decide) ?_
      refine pf_7_1 C ho_v0 k_72 dX7_clear_23 ?_
      exact K _ _ _ dX7_clear_26 hw
    · have hw := hw.2 hc
      refine j_aload_n C dX7_clear_8 rfl 0 rfl ?_
      refine gf_7_0 C ho_v0 hr_g1 k_71 dX7_clear_9 ?_
      refine j_iload_n C dX7_clear_12 rfl 1 rfl ?_
      refine j_iconst (v := 0) C dX7_clear_13 (by decide) ?_
      obtain ⟨hi1, hw⟩ := hw
      refine j_zast C ho_g1 hi1 dX7_clear_14 ?_
      refine j_iinc (v := v1 + 1) C dX7_clear_15 1 rfl rfl (by decide) rfl ?_
      refine j_goto (tgt := 2) C dX7_clear_18 (by decide) ?_
      exact J.sub (ih (v1 + 1) (dI D g1 v1.toNatClampNeg (vp_nar .boolean 0)) hw) [1, 0] rfl
def X7_clear_wp (G : Shp) (D : Dat) (v0 : Nat) (post : Dat → Prop) : Prop := isO G v0 7 ∧ ∃ g1, G.2.2.2 v0 0 = some g1 ∧ isO G g1 13 ∧ ∃ n, X7_clear_l2 G post v0 g1 n 0 D
set_option maxRecDepth 100000 in
set_option maxHeartbeats 4000000 in
theorem X7_clear_ok (l : Launch) (G : Shp) (D : Dat) (v0 : Nat) (post : Dat → Prop) (hw : X7_clear_wp G D v0 post) : CtV l yX7_clear cX7_clear 2 (rmN 0) [.ref v0] G D post := by
  obtain ⟨ho_v0, g1, hr_g1, ho_g1, hw⟩ := hw
  refine ctV_of (by decide) rfl (Nat.le_of_ble_eq_true rfl) ?_
  intro κ hκ C K
  subst hκ
  have C : Cx κ cX7_clear RX7 (rmN 0) 2 := C
  refine j_iconst (v := 0) C dX7_clear_0 (by decide) ?_
  refine j_istore_n C dX7_clear_1 rfl (by decide) rfl ?_
  obtain ⟨n, hw⟩ := hw
  exact J.sub (X7_clear_l2_ok C K ho_v0 hr_g1 ho_g1 n 0 D hw) [1, 0] rfl
/-! X7_copy -/
def X7_copy_l2_b (G : Shp) (post : Dat → Prop) (v0 : Nat) (v1 : Nat) (g1 : Nat) (g2 : Nat) (rec : Int32 → Dat → Prop) (v2 : Int32) (D : Dat) : Prop := ((40 ≤ v2 → post (dI D v0 1 (D.1 v1 1))) ∧ (¬ (40 ≤ v2) → (vp_in v2 (G.2.2.1 g2) ∧ vp_in v2 (G.2.2.1 g1) ∧ rec (v2 + 1) (dI D g1 v2.toNatClampNeg (vp_nar .boolean (D.1 g2 v2.toNatClampNeg))))))
def X7_copy_l2 (G : Shp) (post : Dat → Prop) (v0 : Nat) (v1 : Nat) (g1 : Nat) (g2 : Nat) : Nat → Int32 → Dat → Prop
  | 0 => fun _ _ => False
  | n + 1 => X7_copy_l2_b G post v0 v1 g1 g2 (X7_copy_l2 G post v0 v1 g1 g2 n)
set_option maxRecDepth 100000 in
set_option maxHeartbeats 4000000 in
theorem X7_copy_l2_ok {κ : Ctx} {G : Shp} {post : Dat → Prop} {v0 : Nat} {v1 : Nat} {g1 : Nat} {g2 : Nat} (C : Cx κ cX7_copy RX7 (rmN 0) 3) (K : RtV κ cX7_copy G post) (ho_v0 : isO G v0 7) (ho_v1 : isO G v1 7) (hr_g1 : G.2.2.2 v0 0 = some g1) (ho_g1 : isO G g1 13) (hr_g2 : G.2.2.2 v1 0 = some g2) (ho_g2 : isO G g2 13) : ∀ (n : Nat) (v2 : Int32) (D : Dat), X7_copy_l2 G post v0 v1 g1 g2 n v2 D → J κ 0 0 G D 2 [(0, .ref v0), (1, .ref v1), (2, .int v2)] [] := by
  intro n
  induction n with
  | zero => intro v2 D hw; exact hw.elim
  | succ n ih =>
    intro v2 D hw
    have hw : X7_copy_l2_b G post v0 v1 g1 g2 (X7_copy_l2 G post v0 v1 g1 g2 n) v2 D := hw
    unfold X7_copy_l2_b at hw
    refine j_iload_n C dX7_copy_2 rfl 2 rfl ?_
    refine j_bipush (v := 40) C dX7_copy_3 (by decide) ?_
    refine j_icmp_ge (tgt := 26) C dX7_copy_5 (by decide) (fun hc => ?_) (fun hc => ?_)
    · have hw := hw.1 hc
      refine j_aload_n C dX7_copy_26 rfl 0 rfl ?_
      refine j_aload_n C dX7_copy_27 rfl 1 rfl ?_
      refine gf_7_1 C ho_v1 k_72 dX7_copy_28 ?_
      refine pf_7_1 C ho_v0 k_72 dX7_copy_31 ?_
      exact K _ _ _ dX7_copy_34 hw
    · have hw := hw.2 hc
      refine j_aload_n C dX7_copy_8 rfl 0 rfl ?_
      refine gf_7_0 C ho_v0 hr_g1 k_71 dX7_copy_9 ?_
      refine j_iload_n C dX7_copy_12 rfl 2 rfl ?_
      refine j_aload_n C dX7_copy_13 rfl 1 rfl ?_
      refine gf_7_0 C ho_v1 hr_g2 k_71 dX7_copy_14 ?_
      refine j_iload_n C dX7_copy_17 rfl 2 rfl ?_
      obtain ⟨hi1, hw⟩ := hw
      refine j_zald C ho_g2 hi1 dX7_copy_18 ?_
      obtain ⟨hi2, hw⟩ := hw
      refine j_zast C ho_g1 hi2 dX7_copy_19 ?_
      refine j_iinc (v := v2 + 1) C dX7_copy_20 2 rfl rfl (by decide) rfl ?_
      refine j_goto (tgt := 2) C dX7_copy_23 (by decide) ?_
      exact J.sub (ih (v2 + 1) (dI D g1 v2.toNatClampNeg (vp_nar .boolean (D.1 g2 v2.toNatClampNeg))) hw) [1, 2, 0] rfl
def X7_copy_wp (G : Shp) (D : Dat) (v0 : Nat) (v1 : Nat) (post : Dat → Prop) : Prop := isO G v0 7 ∧ isO G v1 7 ∧ ∃ g1, G.2.2.2 v0 0 = some g1 ∧ isO G g1 13 ∧ ∃ g2, G.2.2.2 v1 0 = some g2 ∧ isO G g2 13 ∧ ∃ n, X7_copy_l2 G post v0 v1 g1 g2 n 0 D
set_option maxRecDepth 100000 in
set_option maxHeartbeats 4000000 in
theorem X7_copy_ok (l : Launch) (G : Shp) (D : Dat) (v0 : Nat) (v1 : Nat) (post : Dat → Prop) (hw : X7_copy_wp G D v0 v1 post) : CtV l yX7_copy cX7_copy 3 (rmN 0) [.ref v0, .ref v1] G D post := by
  obtain ⟨ho_v0, ho_v1, g1, hr_g1, ho_g1, g2, hr_g2, ho_g2, hw⟩ := hw
  refine ctV_of (by decide) rfl (Nat.le_of_ble_eq_true rfl) ?_
  intro κ hκ C K
  subst hκ
  have C : Cx κ cX7_copy RX7 (rmN 0) 3 := C
  refine j_iconst (v := 0) C dX7_copy_0 (by decide) ?_
  refine j_istore_n C dX7_copy_1 rfl (by decide) rfl ?_
  obtain ⟨n, hw⟩ := hw
  exact J.sub (X7_copy_l2_ok C K ho_v0 ho_v1 hr_g1 ho_g1 hr_g2 ho_g2 n 0 D hw) [1, 2, 0] rfl
/-! X8_done -/
def X8_done_wp (G : Shp) (D : Dat) (v0 : Nat) (post : Int32 → Dat → Prop) : Prop := isO G v0 8 ∧ (isB 1 ∧ post 1 (dI D v0 8 0))
set_option maxRecDepth 100000 in
set_option maxHeartbeats 4000000 in
theorem X8_done_ok (l : Launch) (G : Shp) (D : Dat) (v0 : Nat) (post : Int32 → Dat → Prop) (hw : X8_done_wp G D v0 post) : CtI l yX8_done cX8_done 1 .boolean (rmN 0) [.ref v0] G D post := by
  obtain ⟨ho_v0, hw⟩ := hw
  refine ctI_of (by decide) rfl (Nat.le_of_ble_eq_true rfl) ?_
  intro κ hκ C K
  subst hκ
  have C : Cx κ cX8_done RX8 (rmN 0) 1 := C
  refine j_aload_n C dX8_done_0 rfl 0 rfl ?_
  refine j_iconst (v := 0) C dX8_done_1 (by decide) ?_
  refine pf_8_8 C ho_v0 k_259 dX8_done_2 ?_
  refine j_iconst (v := 1) C dX8_done_5 (by decide) ?_
  obtain ⟨hb1, hw⟩ := hw
  exact K _ _ _ _ dX8_done_6 (isB_n hb1) hw
/-! X8_give -/
def X8_give_wp (G : Shp) (D : Dat) (v0 : Nat) (v1 : Int32) (post : Int32 → Dat → Prop) : Prop := isO G v0 8 ∧ post v1 (dI D v0 8 0)
set_option maxRecDepth 100000 in
set_option maxHeartbeats 4000000 in
theorem X8_give_ok (l : Launch) (G : Shp) (D : Dat) (v0 : Nat) (v1 : Int32) (post : Int32 → Dat → Prop) (hw : X8_give_wp G D v0 v1 post) : CtI l yX8_give cX8_give 2 .int (rmN 0) [.ref v0, .int v1] G D post := by
  obtain ⟨ho_v0, hw⟩ := hw
  refine ctI_of (by decide) rfl (Nat.le_of_ble_eq_true rfl) ?_
  intro κ hκ C K
  subst hκ
  have C : Cx κ cX8_give RX8 (rmN 0) 2 := C
  refine j_aload_n C dX8_give_0 rfl 0 rfl ?_
  refine j_iconst (v := 0) C dX8_give_1 (by decide) ?_
  refine pf_8_8 C ho_v0 k_259 dX8_give_2 ?_
  refine j_iload_n C dX8_give_5 rfl 1 rfl ?_
  exact K _ _ _ _ dX8_give_6 rfl hw
/-! X8_giveNone -/
def X8_giveNone_wp (G : Shp) (D : Dat) (v0 : Nat) (v1 : Int32) (post : Int32 → Dat → Prop) : Prop := isO G v0 8 ∧ post (-1) (dI D v0 8 v1)
set_option maxRecDepth 100000 in
set_option maxHeartbeats 4000000 in
theorem X8_giveNone_ok (l : Launch) (G : Shp) (D : Dat) (v0 : Nat) (v1 : Int32) (post : Int32 → Dat → Prop) (hw : X8_giveNone_wp G D v0 v1 post) : CtI l yX8_giveNone cX8_giveNone 2 .int (rmN 0) [.ref v0, .int v1] G D post := by
  obtain ⟨ho_v0, hw⟩ := hw
  refine ctI_of (by decide) rfl (Nat.le_of_ble_eq_true rfl) ?_
  intro κ hκ C K
  subst hκ
  have C : Cx κ cX8_giveNone RX8 (rmN 0) 2 := C
  refine j_aload_n C dX8_giveNone_0 rfl 0 rfl ?_
  refine j_iload_n C dX8_giveNone_1 rfl 1 rfl ?_
  refine pf_8_8 C ho_v0 k_259 dX8_giveNone_2 ?_
  refine j_iconst (v := (-1)) C dX8_giveNone_5 (by decide) ?_
  exact K _ _ _ _ dX8_giveNone_6 rfl hw
/-! X8_isFarTick -/
def X8_isFarTick_j15 (G : Shp) (post : Int32 → Dat → Prop) (v0 : Int32) (s0 : Int32) (D : Dat) : Prop := (isB s0 ∧ post s0 D)
set_option maxRecDepth 100000 in
set_option maxHeartbeats 4000000 in
theorem X8_isFarTick_j15_ok {κ : Ctx} {G : Shp} {post : Int32 → Dat → Prop} {v0 : Int32} (C : Cx κ cX8_isFarTick RX8 (rmN 0) 1) (K : RtI κ cX8_isFarTick .boolean G post) (s0 : Int32) (D : Dat) (hw : X8_isFarTick_j15 G post v0 s0 D) : J κ 0 0 G D 15 [] [.int s0] := by
  unfold X8_isFarTick_j15 at hw
  obtain ⟨hb1, hw⟩ := hw
  exact K _ _ _ _ dX8_isFarTick_15 (isB_n hb1) hw
def X8_isFarTick_j14 (G : Shp) (post : Int32 → Dat → Prop) (v0 : Int32) (D : Dat) : Prop := X8_isFarTick_j15 G post v0 0 D
set_option maxRecDepth 100000 in
set_option maxHeartbeats 4000000 in
theorem X8_isFarTick_j14_ok {κ : Ctx} {G : Shp} {post : Int32 → Dat → Prop} {v0 : Int32} (C : Cx κ cX8_isFarTick RX8 (rmN 0) 1) (K : RtI κ cX8_isFarTick .boolean G post) (D : Dat) (hw : X8_isFarTick_j14 G post v0 D) : J κ 0 0 G D 14 [] [] := by
  unfold X8_isFarTick_j14 at hw
  refine j_iconst (v := 0) C dX8_isFarTick_14 (by decide) ?_
  exact J.sub (X8_isFarTick_j15_ok C K 0 D hw) [] rfl
def X8_isFarTick_wp (G : Shp) (D : Dat) (v0 : Int32) (post : Int32 → Dat → Prop) : Prop := ((v0 < 0 → X8_isFarTick_j14 G post v0 D) ∧ (¬ (v0 < 0) → ((80 ≤ v0 → X8_isFarTick_j14 G post v0 D) ∧ (¬ (80 ≤ v0) → X8_isFarTick_j15 G post v0 1 D))))
set_option maxRecDepth 100000 in
set_option maxHeartbeats 4000000 in
theorem X8_isFarTick_ok (l : Launch) (G : Shp) (D : Dat) (v0 : Int32) (post : Int32 → Dat → Prop) (hw : X8_isFarTick_wp G D v0 post) : CtI l yX8_isFarTick cX8_isFarTick 1 .boolean (rmN 0) [.int v0] G D post := by
  unfold X8_isFarTick_wp at hw
  refine ctI_of (by decide) rfl (Nat.le_of_ble_eq_true rfl) ?_
  intro κ hκ C K
  subst hκ
  have C : Cx κ cX8_isFarTick RX8 (rmN 0) 1 := C
  refine j_iload_n C dX8_isFarTick_0 rfl 0 rfl ?_
  refine j_if_lt (tgt := 14) C dX8_isFarTick_1 (by decide) (fun hc => ?_) (fun hc => ?_)
  · have hw := hw.1 hc
    exact J.sub (X8_isFarTick_j14_ok C K D hw) [] rfl
  · have hw := hw.2 hc
    refine j_iload_n C dX8_isFarTick_4 rfl 0 rfl ?_
    refine j_bipush (v := 80) C dX8_isFarTick_5 (by decide) ?_
    refine j_icmp_ge (tgt := 14) C dX8_isFarTick_7 (by decide) (fun hc => ?_) (fun hc => ?_)
    · have hw := hw.1 hc
      exact J.sub (X8_isFarTick_j14_ok C K D hw) [] rfl
    · have hw := hw.2 hc
      refine j_iconst (v := 1) C dX8_isFarTick_10 (by decide) ?_
      refine j_goto (tgt := 15) C dX8_isFarTick_11 (by decide) ?_
      exact J.sub (X8_isFarTick_j15_ok C K 1 D hw) [] rfl
/-! X8_isNumber -/
def X8_isNumber_j21 (G : Shp) (post : Int32 → Dat → Prop) (v0 : Int64) (s0 : Int32) (D : Dat) : Prop := (isB s0 ∧ post s0 D)
set_option maxRecDepth 100000 in
set_option maxHeartbeats 4000000 in
theorem X8_isNumber_j21_ok {κ : Ctx} {G : Shp} {post : Int32 → Dat → Prop} {v0 : Int64} (C : Cx κ cX8_isNumber RX8 (rmN 0) 2) (K : RtI κ cX8_isNumber .boolean G post) (s0 : Int32) (D : Dat) (hw : X8_isNumber_j21 G post v0 s0 D) : J κ 0 0 G D 21 [] [.int s0] := by
  unfold X8_isNumber_j21 at hw
  obtain ⟨hb1, hw⟩ := hw
  exact K _ _ _ _ dX8_isNumber_21 (isB_n hb1) hw
def X8_isNumber_j20 (G : Shp) (post : Int32 → Dat → Prop) (v0 : Int64) (D : Dat) : Prop := X8_isNumber_j21 G post v0 0 D
set_option maxRecDepth 100000 in
set_option maxHeartbeats 4000000 in
theorem X8_isNumber_j20_ok {κ : Ctx} {G : Shp} {post : Int32 → Dat → Prop} {v0 : Int64} (C : Cx κ cX8_isNumber RX8 (rmN 0) 2) (K : RtI κ cX8_isNumber .boolean G post) (D : Dat) (hw : X8_isNumber_j20 G post v0 D) : J κ 0 0 G D 20 [] [] := by
  unfold X8_isNumber_j20 at hw
  refine j_iconst (v := 0) C dX8_isNumber_20 (by decide) ?_
  exact J.sub (X8_isNumber_j21_ok C K 0 D hw) [] rfl
def X8_isNumber_wp (G : Shp) (D : Dat) (v0 : Int64) (post : Int32 → Dat → Prop) : Prop := ((v0 < (-10000) → X8_isNumber_j20 G post v0 D) ∧ (¬ (v0 < (-10000)) → ((10000 < v0 → X8_isNumber_j20 G post v0 D) ∧ (¬ (10000 < v0) → X8_isNumber_j21 G post v0 1 D))))
set_option maxRecDepth 100000 in
set_option maxHeartbeats 4000000 in
theorem X8_isNumber_ok (l : Launch) (G : Shp) (D : Dat) (v0 : Int64) (post : Int32 → Dat → Prop) (hw : X8_isNumber_wp G D v0 post) : CtI l yX8_isNumber cX8_isNumber 2 .boolean (rmN 0) [.long v0] G D post := by
  unfold X8_isNumber_wp at hw
  refine ctI_of (by decide) rfl (Nat.le_of_ble_eq_true rfl) ?_
  intro κ hκ C K
  subst hκ
  have C : Cx κ cX8_isNumber RX8 (rmN 0) 2 := C
  refine j_lload_n C dX8_isNumber_0 rfl 0 rfl ?_
  refine j_ldc2 (v := (-10000)) C k_313 dX8_isNumber_1 ?_
  refine j_lcmp_lt (tgt := 20) C dX8_isNumber_4 dX8_isNumber_5 (by decide) (fun hc => ?_) (fun hc => ?_)
  · have hw := hw.1 hc
    exact J.sub (X8_isNumber_j20_ok C K D hw) [] rfl
  · have hw := hw.2 hc
    refine j_lload_n C dX8_isNumber_8 rfl 0 rfl ?_
    refine j_ldc2 (v := 10000) C k_314 dX8_isNumber_9 ?_
    refine j_lcmp_gt (tgt := 20) C dX8_isNumber_12 dX8_isNumber_13 (by decide) (fun hc => ?_) (fun hc => ?_)
    · have hw := hw.1 hc
      exact J.sub (X8_isNumber_j20_ok C K D hw) [] rfl
    · have hw := hw.2 hc
      refine j_iconst (v := 1) C dX8_isNumber_16 (by decide) ?_
      refine j_goto (tgt := 21) C dX8_isNumber_17 (by decide) ?_
      exact J.sub (X8_isNumber_j21_ok C K 1 D hw) [] rfl
/-! X8_isShare -/
def X8_isShare_j17 (G : Shp) (post : Int32 → Dat → Prop) (v0 : Int32) (s0 : Int32) (D : Dat) : Prop := (isB s0 ∧ post s0 D)
set_option maxRecDepth 100000 in
set_option maxHeartbeats 4000000 in
theorem X8_isShare_j17_ok {κ : Ctx} {G : Shp} {post : Int32 → Dat → Prop} {v0 : Int32} (C : Cx κ cX8_isShare RX8 (rmN 0) 1) (K : RtI κ cX8_isShare .boolean G post) (s0 : Int32) (D : Dat) (hw : X8_isShare_j17 G post v0 s0 D) : J κ 0 0 G D 17 [] [.int s0] := by
  unfold X8_isShare_j17 at hw
  obtain ⟨hb1, hw⟩ := hw
  exact K _ _ _ _ dX8_isShare_17 (isB_n hb1) hw
def X8_isShare_j16 (G : Shp) (post : Int32 → Dat → Prop) (v0 : Int32) (D : Dat) : Prop := X8_isShare_j17 G post v0 0 D
set_option maxRecDepth 100000 in
set_option maxHeartbeats 4000000 in
theorem X8_isShare_j16_ok {κ : Ctx} {G : Shp} {post : Int32 → Dat → Prop} {v0 : Int32} (C : Cx κ cX8_isShare RX8 (rmN 0) 1) (K : RtI κ cX8_isShare .boolean G post) (D : Dat) (hw : X8_isShare_j16 G post v0 D) : J κ 0 0 G D 16 [] [] := by
  unfold X8_isShare_j16 at hw
  refine j_iconst (v := 0) C dX8_isShare_16 (by decide) ?_
  exact J.sub (X8_isShare_j17_ok C K 0 D hw) [] rfl
def X8_isShare_wp (G : Shp) (D : Dat) (v0 : Int32) (post : Int32 → Dat → Prop) : Prop := ((v0 < 1 → X8_isShare_j16 G post v0 D) ∧ (¬ (v0 < 1) → ((1000 < v0 → X8_isShare_j16 G post v0 D) ∧ (¬ (1000 < v0) → X8_isShare_j17 G post v0 1 D))))
set_option maxRecDepth 100000 in
set_option maxHeartbeats 4000000 in
theorem X8_isShare_ok (l : Launch) (G : Shp) (D : Dat) (v0 : Int32) (post : Int32 → Dat → Prop) (hw : X8_isShare_wp G D v0 post) : CtI l yX8_isShare cX8_isShare 1 .boolean (rmN 0) [.int v0] G D post := by
  unfold X8_isShare_wp at hw
  refine ctI_of (by decide) rfl (Nat.le_of_ble_eq_true rfl) ?_
  intro κ hκ C K
  subst hκ
  have C : Cx κ cX8_isShare RX8 (rmN 0) 1 := C
  refine j_iload_n C dX8_isShare_0 rfl 0 rfl ?_
  refine j_iconst (v := 1) C dX8_isShare_1 (by decide) ?_
  refine j_icmp_lt (tgt := 16) C dX8_isShare_2 (by decide) (fun hc => ?_) (fun hc => ?_)
  · have hw := hw.1 hc
    exact J.sub (X8_isShare_j16_ok C K D hw) [] rfl
  · have hw := hw.2 hc
    refine j_iload_n C dX8_isShare_5 rfl 0 rfl ?_
    refine j_sipush (v := 1000) C dX8_isShare_6 (by decide) ?_
    refine j_icmp_gt (tgt := 16) C dX8_isShare_9 (by decide) (fun hc => ?_) (fun hc => ?_)
    · have hw := hw.1 hc
      exact J.sub (X8_isShare_j16_ok C K D hw) [] rfl
    · have hw := hw.2 hc
      refine j_iconst (v := 1) C dX8_isShare_12 (by decide) ?_
      refine j_goto (tgt := 17) C dX8_isShare_13 (by decide) ?_
      exact J.sub (X8_isShare_j17_ok C K 1 D hw) [] rfl
/-! X8_isTick -/
def X8_isTick_j15 (G : Shp) (post : Int32 → Dat → Prop) (v0 : Int32) (s0 : Int32) (D : Dat) : Prop := (isB s0 ∧ post s0 D)
set_option maxRecDepth 100000 in
set_option maxHeartbeats 4000000 in
theorem X8_isTick_j15_ok {κ : Ctx} {G : Shp} {post : Int32 → Dat → Prop} {v0 : Int32} (C : Cx κ cX8_isTick RX8 (rmN 0) 1) (K : RtI κ cX8_isTick .boolean G post) (s0 : Int32) (D : Dat) (hw : X8_isTick_j15 G post v0 s0 D) : J κ 0 0 G D 15 [] [.int s0] := by
  unfold X8_isTick_j15 at hw
  obtain ⟨hb1, hw⟩ := hw
  exact K _ _ _ _ dX8_isTick_15 (isB_n hb1) hw
def X8_isTick_j14 (G : Shp) (post : Int32 → Dat → Prop) (v0 : Int32) (D : Dat) : Prop := X8_isTick_j15 G post v0 0 D
set_option maxRecDepth 100000 in
set_option maxHeartbeats 4000000 in
theorem X8_isTick_j14_ok {κ : Ctx} {G : Shp} {post : Int32 → Dat → Prop} {v0 : Int32} (C : Cx κ cX8_isTick RX8 (rmN 0) 1) (K : RtI κ cX8_isTick .boolean G post) (D : Dat) (hw : X8_isTick_j14 G post v0 D) : J κ 0 0 G D 14 [] [] := by
  unfold X8_isTick_j14 at hw
  refine j_iconst (v := 0) C dX8_isTick_14 (by decide) ?_
  exact J.sub (X8_isTick_j15_ok C K 0 D hw) [] rfl
def X8_isTick_wp (G : Shp) (D : Dat) (v0 : Int32) (post : Int32 → Dat → Prop) : Prop := ((v0 < 0 → X8_isTick_j14 G post v0 D) ∧ (¬ (v0 < 0) → ((40 ≤ v0 → X8_isTick_j14 G post v0 D) ∧ (¬ (40 ≤ v0) → X8_isTick_j15 G post v0 1 D))))
set_option maxRecDepth 100000 in
set_option maxHeartbeats 4000000 in
theorem X8_isTick_ok (l : Launch) (G : Shp) (D : Dat) (v0 : Int32) (post : Int32 → Dat → Prop) (hw : X8_isTick_wp G D v0 post) : CtI l yX8_isTick cX8_isTick 1 .boolean (rmN 0) [.int v0] G D post := by
  unfold X8_isTick_wp at hw
  refine ctI_of (by decide) rfl (Nat.le_of_ble_eq_true rfl) ?_
  intro κ hκ C K
  subst hκ
  have C : Cx κ cX8_isTick RX8 (rmN 0) 1 := C
  refine j_iload_n C dX8_isTick_0 rfl 0 rfl ?_
  refine j_if_lt (tgt := 14) C dX8_isTick_1 (by decide) (fun hc => ?_) (fun hc => ?_)
  · have hw := hw.1 hc
    exact J.sub (X8_isTick_j14_ok C K D hw) [] rfl
  · have hw := hw.2 hc
    refine j_iload_n C dX8_isTick_4 rfl 0 rfl ?_
    refine j_bipush (v := 40) C dX8_isTick_5 (by decide) ?_
    refine j_icmp_ge (tgt := 14) C dX8_isTick_7 (by decide) (fun hc => ?_) (fun hc => ?_)
    · have hw := hw.1 hc
      exact J.sub (X8_isTick_j14_ok C K D hw) [] rfl
    · have hw := hw.2 hc
      refine j_iconst (v := 1) C dX8_isTick_10 (by decide) ?_
      refine j_goto (tgt := 15) C dX8_isTick_11 (by decide) ?_
      exact J.sub (X8_isTick_j15_ok C K 1 D hw) [] rfl
