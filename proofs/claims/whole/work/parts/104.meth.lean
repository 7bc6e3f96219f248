/-! X9_look -/
def X9_look_j165 (G : Shp) (post : Dat → Prop) (v0 : Nat) (v1 : Int32) (v2 : Int32) (g1 : Nat) (g2 : Nat) (g3 : Nat) (g4 : Nat) (g5 : Nat) (g6 : Nat) (k130 : Int32 → Int32 → Dat → Prop) (v3 : Int32) (v4 : Int32) (s0 : Int32) (s1 : Nat) (D : Dat) : Prop := (isO G s1 9 ∧ X9_part0_wp G D s1 s0 1 (fun D3 => k130 v3 (v4 + 1) D3))
set_option maxRecDepth 100000 in
set_option maxHeartbeats 4000000 in
theorem X9_look_j165_ok {κ : Ctx} {G : Shp} {post : Dat → Prop} {v0 : Nat} {v1 : Int32} {v2 : Int32} {g1 : Nat} {g2 : Nat} {g3 : Nat} {g4 : Nat} {g5 : Nat} {g6 : Nat} (C : Cx κ cX9_look RX9 (rmN 1) 5) (K : RtV κ cX9_look G post) (ho_v0 : isO G v0 9) (hr_g1 : G.2.2.2 v0 17 = some g1) (ho_g1 : isO G g1 13) (hr_g2 : G.2.2.2 v0 12 = some g2) (ho_g2 : isO G g2 11) (hr_g3 : G.2.2.2 v0 13 = some g3) (ho_g3 : isO G g3 11) (hr_g4 : G.2.2.2 v0 14 = some g4) (ho_g4 : isO G g4 11) (hr_g5 : G.2.2.2 v0 11 = some g5) (ho_g5 : isO G g5 11) (hr_g6 : G.2.2.2 v0 18 = some g6) (ho_g6 : isO G g6 13) {k130 : Int32 → Int32 → Dat → Prop} (hk130 : ∀ (v3 : Int32) (v4 : Int32) (D : Dat), k130 v3 v4 D → J κ 0 0 G D 130 [(0, .ref v0), (2, .int v2), (3, .int v3), (4, .int v4)] []) (v3 : Int32) (v4 : Int32) (s0 : Int32) (s1 : Nat) (D : Dat) (hw : X9_look_j165 G post v0 v1 v2 g1 g2 g3 g4 g5 g6 k130 v3 v4 s0 s1 D) : J κ 0 0 G D 165 [(0, .ref v0), (2, .int v2), (3, .int v3), (4, .int v4)] [.int s0, .ref s1] := by
  unfold X9_look_j165 at hw
  refine j_iconst (v := 1) C dX9_look_165 (by decide) ?_
  obtain ⟨ho1, hw⟩ := hw
  refine j_cVV (As := [.int s0, .int 1]) (st := []) C (X9_part0_ok κ.2.1 G D s1 s0 1 _ hw) ho1 rfl k_969 mv_X9_part0 ⟨by decide, by decide⟩ ⟨rfl, rfl⟩ rfl rfl (Nat.le_of_ble_eq_true rfl) ⟨Nat.zero_le _, Nat.zero_le _⟩ dX9_look_166 (fun D3 hw => ?_)
  refine j_iinc (v := v4 + 1) C dX9_look_169 3 rfl rfl (by decide) rfl ?_
  refine j_goto (tgt := 130) C dX9_look_172 (by decide) ?_
  exact J.sub (hk130 v3 (v4 + 1) D3 hw) [1, 2, 3, 0] rfl
def X9_look_l130_b (G : Shp) (post : Dat → Prop) (v0 : Nat) (v1 : Int32) (v2 : Int32) (g1 : Nat) (g2 : Nat) (g3 : Nat) (g4 : Nat) (g5 : Nat) (g6 : Nat) (rec : Int32 → Int32 → Dat → Prop) (v3 : Int32) (v4 : Int32) (D : Dat) : Prop := (((v3 - 1) ≤ v4 → post D) ∧ (¬ ((v3 - 1) ≤ v4) → (¬ v3 = 0 ∧ ((¬ (v2 - v2 / v3 * v3) = v4 → (¬ v3 = 0 ∧ ((¬ (v2 - v2 / v3 * v3) = (v3 - 1) → X9_look_j165 G post v0 v1 v2 g1 g2 g3 g4 g5 g6 rec v3 v4 0 v0 D) ∧ ((v2 - v2 / v3 * v3) = (v3 - 1) → X9_look_j165 G post v0 v1 v2 g1 g2 g3 g4 g5 g6 rec v3 v4 (-1) v0 D)))) ∧ ((v2 - v2 / v3 * v3) = v4 → X9_look_j165 G post v0 v1 v2 g1 g2 g3 g4 g5 g6 rec v3 v4 1 v0 D)))))
def X9_look_l130 (G : Shp) (post : Dat → Prop) (v0 : Nat) (v1 : Int32) (v2 : Int32) (g1 : Nat) (g2 : Nat) (g3 : Nat) (g4 : Nat) (g5 : Nat) (g6 : Nat) : Nat → Int32 → Int32 → Dat → Prop
  | 0 => fun _ _ _ => False
  | n + 1 => X9_look_l130_b G post v0 v1 v2 g1 g2 g3 g4 g5 g6 (X9_look_l130 G post v0 v1 v2 g1 g2 g3 g4 g5 g6 n)
set_option maxRecDepth 100000 in
set_option maxHeartbeats 4000000 in
theorem X9_look_l130_ok {κ : Ctx} {G : Shp} {post : Dat → Prop} {v0 : Nat} {v1 : Int32} {v2 : Int32} {g1 : Nat} {g2 : Nat} {g3 : Nat} {g4 : Nat} {g5 : Nat} {g6 : Nat} (C : Cx κ cX9_look RX9 (rmN 1) 5) (K : RtV κ cX9_look G post) (ho_v0 : isO G v0 9) (hr_g1 : G.2.2.2 v0 17 = some g1) (ho_g1 : isO G g1 13) (hr_g2 : G.2.2.2 v0 12 = some g2) (ho_g2 : isO G g2 11) (hr_g3 : G.2.2.2 v0 13 = some g3) (ho_g3 : isO G g3 11) (hr_g4 : G.2.2.2 v0 14 = some g4) (ho_g4 : isO G g4 11) (hr_g5 : G.2.2.2 v0 11 = some g5) (ho_g5 : isO G g5 11) (hr_g6 : G.2.2.2 v0 18 = some g6) (ho_g6 : isO G g6 13) : ∀ (n : Nat) (v3 : Int32) (v4 : Int32) (D : Dat), X9_look_l130 G post v0 v1 v2 g1 g2 g3 g4 g5 g6 n v3 v4 D → J κ 0 0 G D 130 [(0, .ref v0), (2, .int v2), (3, .int v3), (4, .int v4)] [] := by
  intro n
  induction n with
  | zero => intro v3 v4 D hw; exact hw.elim
  | succ n ih =>
    intro v3 v4 D hw
    have hw : X9_look_l130_b G post v0 v1 v2 g1 g2 g3 g4 g5 g6 (X9_look_l130 G post v0 v1 v2 g1 g2 g3 g4 g5 g6 n) v3 v4 D := hw
    unfold X9_look_l130_b at hw
    refine j_iload C dX9_look_130 3 rfl ?_
    refine j_iload_n C dX9_look_132 rfl 2 rfl ?_
    refine j_iconst (v := 1) C dX9_look_133 (by decide) ?_
    refine j_isub C dX9_look_134 ?_
    refine j_icmp_ge (tgt := 175) C dX9_look_135 (by decide) (fun hc => ?_) (fun hc => ?_)
    · have hw := hw.1 hc
      exact K _ _ _ dX9_look_175 hw
    · have hw := hw.2 hc
      refine j_aload_n C dX9_look_138 rfl 0 rfl ?_
      refine j_iload_n C dX9_look_139 rfl 1 rfl ?_
      refine j_iload_n C dX9_look_140 rfl 2 rfl ?_
      obtain ⟨hz1, hw⟩ := hw
      refine j_irem C dX9_look_141 hz1 ?_
      refine j_iload C dX9_look_142 3 rfl ?_
      refine j_icmp_ne (tgt := 151) C dX9_look_144 (by decide) (fun hc => ?_) (fun hc => ?_)
      · have hw := hw.1 hc
        refine j_iload_n C dX9_look_151 rfl 1 rfl ?_
        refine j_iload_n C dX9_look_152 rfl 2 rfl ?_
        obtain ⟨hz2, hw⟩ := hw
        refine j_irem C dX9_look_153 hz2 ?_
        refine j_iload_n C dX9_look_154 rfl 2 rfl ?_
        refine j_iconst (v := 1) C dX9_look_155 (by decide) ?_
        refine j_isub C dX9_look_156 ?_
        refine j_icmp_ne (tgt := 164) C dX9_look_157 (by decide) (fun hc => ?_) (fun hc => ?_)
        · have hw := hw.1 hc
          refine j_iconst (v := 0) C dX9_look_164 (by decide) ?_
          exact J.sub (X9_look_j165_ok C K ho_v0 hr_g1 ho_g1 hr_g2 ho_g2 hr_g3 ho_g3 hr_g4 ho_g4 hr_g5 ho_g5 hr_g6 ho_g6 ih v3 v4 0 v0 D hw) [0, 1, 2, 3] rfl
        · have hw := hw.2 hc
          refine j_iconst (v := (-1)) C dX9_look_160 (by decide) ?_
          refine j_goto (tgt := 165) C dX9_look_161 (by decide) ?_
          exact J.sub (X9_look_j165_ok C K ho_v0 hr_g1 ho_g1 hr_g2 ho_g2 hr_g3 ho_g3 hr_g4 ho_g4 hr_g5 ho_g5 hr_g6 ho_g6 ih v3 v4 (-1) v0 D hw) [0, 1, 2, 3] rfl
      · have hw := hw.2 hc
        refine j_iconst (v := 1) C dX9_look_147 (by decide) ?_
        refine j_goto (tgt := 165) C dX9_look_148 (by decide) ?_
        exact J.sub (X9_look_j165_ok C K ho_v0 hr_g1 ho_g1 hr_g2 ho_g2 hr_g3 ho_g3 hr_g4 ho_g4 hr_g5 ho_g5 hr_g6 ho_g6 ih v3 v4 1 v0 D hw) [0, 1, 2, 3] rfl
def X9_look_j110 (G : Shp) (post : Dat → Prop) (v0 : Nat) (v1 : Int32) (v2 : Int32) (g1 : Nat) (g2 : Nat) (g3 : Nat) (g4 : Nat) (g5 : Nat) (g6 : Nat) (k70 : Int32 → Dat → Prop) (v3 : Int32) (s0 : Int32) (s1 : Nat) (D : Dat) : Prop := (isO G s1 9 ∧ X9_part0_wp G D s1 s0 2 (fun D3 => k70 (v3 + 1) D3))
set_option maxRecDepth 100000 in
set_option maxHeartbeats 4000000 in
theorem X9_look_j110_ok {κ : Ctx} {G : Shp} {post : Dat → Prop} {v0 : Nat} {v1 : Int32} {v2 : Int32} {g1 : Nat} {g2 : Nat} {g3 : Nat} {g4 : Nat} {g5 : Nat} {g6 : Nat} (C : Cx κ cX9_look RX9 (rmN 1) 5) (K : RtV κ cX9_look G post) (ho_v0 : isO G v0 9) (hr_g1 : G.2.2.2 v0 17 = some g1) (ho_g1 : isO G g1 13) (hr_g2 : G.2.2.2 v0 12 = some g2) (ho_g2 : isO G g2 11) (hr_g3 : G.2.2.2 v0 13 = some g3) (ho_g3 : isO G g3 11) (hr_g4 : G.2.2.2 v0 14 = some g4) (ho_g4 : isO G g4 11) (hr_g5 : G.2.2.2 v0 11 = some g5) (ho_g5 : isO G g5 11) (hr_g6 : G.2.2.2 v0 18 = some g6) (ho_g6 : isO G g6 13) {k70 : Int32 → Dat → Prop} (hk70 : ∀ (v3 : Int32) (D : Dat), k70 v3 D → J κ 0 0 G D 70 [(0, .ref v0), (1, .int v1), (2, .int v2), (3, .int v3)] []) (v3 : Int32) (s0 : Int32) (s1 : Nat) (D : Dat) (hw : X9_look_j110 G post v0 v1 v2 g1 g2 g3 g4 g5 g6 k70 v3 s0 s1 D) : J κ 0 0 G D 110 [(0, .ref v0), (1, .int v1), (2, .int v2), (3, .int v3)] [.int s0, .ref s1] := by
  unfold X9_look_j110 at hw
  refine j_iconst (v := 2) C dX9_look_110 (by decide) ?_
  obtain ⟨ho1, hw⟩ := hw
  refine j_cVV (As := [.int s0, .int 2]) (st := []) C (X9_part0_ok κ.2.1 G D s1 s0 2 _ hw) ho1 rfl k_969 mv_X9_part0 ⟨by decide, by decide⟩ ⟨rfl, rfl⟩ rfl rfl (Nat.le_of_ble_eq_true rfl) ⟨Nat.zero_le _, Nat.zero_le _⟩ dX9_look_111 (fun D3 hw => ?_)
  refine j_iinc (v := v3 + 1) C dX9_look_114 3 rfl rfl (by decide) rfl ?_
  refine j_goto (tgt := 70) C dX9_look_117 (by decide) ?_
  exact J.sub (hk70 (v3 + 1) D3 hw) [1, 2, 3, 0] rfl
def X9_look_j109 (G : Shp) (post : Dat → Prop) (v0 : Nat) (v1 : Int32) (v2 : Int32) (g1 : Nat) (g2 : Nat) (g3 : Nat) (g4 : Nat) (g5 : Nat) (g6 : Nat) (k70 : Int32 → Dat → Prop) (v3 : Int32) (s0 : Nat) (D : Dat) : Prop := X9_look_j110 G post v0 v1 v2 g1 g2 g3 g4 g5 g6 k70 v3 0 s0 D
set_option maxRecDepth 100000 in
set_option maxHeartbeats 4000000 in
theorem X9_look_j109_ok {κ : Ctx} {G : Shp} {post : Dat → Prop} {v0 : Nat} {v1 : Int32} {v2 : Int32} {g1 : Nat} {g2 : Nat} {g3 : Nat} {g4 : Nat} {g5 : Nat} {g6 : Nat} (C : Cx κ cX9_look RX9 (rmN 1) 5) (K : RtV κ cX9_look G post) (ho_v0 : isO G v0 9) (hr_g1 : G.2.2.2 v0 17 = some g1) (ho_g1 : isO G g1 13) (hr_g2 : G.2.2.2 v0 12 = some g2) (ho_g2 : isO G g2 11) (hr_g3 : G.2.2.2 v0 13 = some g3) (ho_g3 : isO G g3 11) (hr_g4 : G.2.2.2 v0 14 = some g4) (ho_g4 : isO G g4 11) (hr_g5 : G.2.2.2 v0 11 = some g5) (ho_g5 : isO G g5 11) (hr_g6 : G.2.2.2 v0 18 = some g6) (ho_g6 : isO G g6 13) {k70 : Int32 → Dat → Prop} (hk70 : ∀ (v3 : Int32) (D : Dat), k70 v3 D → J κ 0 0 G D 70 [(0, .ref v0), (1, .int v1), (2, .int v2), (3, .int v3)] []) (v3 : Int32) (s0 : Nat) (D : Dat) (hw : X9_look_j109 G post v0 v1 v2 g1 g2 g3 g4 g5 g6 k70 v3 s0 D) : J κ 0 0 G D 109 [(0, .ref v0), (1, .int v1), (2, .int v2), (3, .int v3)] [.ref s0] := by
  unfold X9_look_j109 at hw
  refine j_iconst (v := 0) C dX9_look_109 (by decide) ?_
  exact J.sub (X9_look_j110_ok C K ho_v0 hr_g1 ho_g1 hr_g2 ho_g2 hr_g3 ho_g3 hr_g4 ho_g4 hr_g5 ho_g5 hr_g6 ho_g6 hk70 v3 0 s0 D hw) [0, 1, 2, 3] rfl
def X9_look_l70_b (G : Shp) (post : Dat → Prop) (v0 : Nat) (v1 : Int32) (v2 : Int32) (g1 : Nat) (g2 : Nat) (g3 : Nat) (g4 : Nat) (g5 : Nat) (g6 : Nat) (rec : Int32 → Dat → Prop) (v3 : Int32) (D : Dat) : Prop := (vp_in v1 (G.2.2.1 g4) ∧ (((D.1 g4 v1.toNatClampNeg) ≤ v3 → (vp_in v1 (G.2.2.1 g5) ∧ ∃ n, X9_look_l130 G post v0 v1 v2 g1 g2 g3 g4 g5 g6 n (D.1 g5 v1.toNatClampNeg) 0 D)) ∧ (¬ ((D.1 g4 v1.toNatClampNeg) ≤ v3) → ((40 ≤ v2 → X9_look_j109 G post v0 v1 v2 g1 g2 g3 g4 g5 g6 rec v3 v0 D) ∧ (¬ (40 ≤ v2) → (vp_in ((40 * ((2 * v1) + v3)) + v2) (G.2.2.1 g6) ∧ (((D.1 g6 ((40 * ((2 * v1) + v3)) + v2).toNatClampNeg) = 0 → X9_look_j109 G post v0 v1 v2 g1 g2 g3 g4 g5 g6 rec v3 v0 D) ∧ (¬ ((D.1 g6 ((40 * ((2 * v1) + v3)) + v2).toNatClampNeg) = 0) → X9_look_j110 G post v0 v1 v2 g1 g2 g3 g4 g5 g6 rec v3 1 v0 D))))))))
def X9_look_l70 (G : Shp) (post : Dat → Prop) (v0 : Nat) (v1 : Int32) (v2 : Int32) (g1 : Nat) (g2 : Nat) (g3 : Nat) (g4 : Nat) (g5 : Nat) (g6 : Nat) : Nat → Int32 → Dat → Prop
  | 0 => fun _ _ => False
  | n + 1 => X9_look_l70_b G post v0 v1 v2 g1 g2 g3 g4 g5 g6 (X9_look_l70 G post v0 v1 v2 g1 g2 g3 g4 g5 g6 n)
set_option maxRecDepth 100000 in
set_option maxHeartbeats 4000000 in
theorem X9_look_l70_ok {κ : Ctx} {G : Shp} {post : Dat → Prop} {v0 : Nat} {v1 : Int32} {v2 : Int32} {g1 : Nat} {g2 : Nat} {g3 : Nat} {g4 : Nat} {g5 : Nat} {g6 : Nat} (C : Cx κ cX9_look RX9 (rmN 1) 5) (K : RtV κ cX9_look G post) (ho_v0 : isO G v0 9) (hr_g1 : G.2.2.2 v0 17 = some g1) (ho_g1 : isO G g1 13) (hr_g2 : G.2.2.2 v0 12 = some g2) (ho_g2 : isO G g2 11) (hr_g3 : G.2.2.2 v0 13 = some g3) (ho_g3 : isO G g3 11) (hr_g4 : G.2.2.2 v0 14 = some g4) (ho_g4 : isO G g4 11) (hr_g5 : G.2.2.2 v0 11 = some g5) (ho_g5 : isO G g5 11) (hr_g6 : G.2.2.2 v0 18 = some g6) (ho_g6 : isO G g6 13) : ∀ (n : Nat) (v3 : Int32) (D : Dat), X9_look_l70 G post v0 v1 v2 g1 g2 g3 g4 g5 g6 n v3 D → J κ 0 0 G D 70 [(0, .ref v0), (1, .int v1), (2, .int v2), (3, .int v3)] [] := by
  intro n
  induction n with
  | zero => intro v3 D hw; exact hw.elim
  | succ n ih =>
    intro v3 D hw
    have hw : X9_look_l70_b G post v0 v1 v2 g1 g2 g3 g4 g5 g6 (X9_look_l70 G post v0 v1 v2 g1 g2 g3 g4 g5 g6 n) v3 D := hw
    unfold X9_look_l70_b at hw
    refine j_iload_n C dX9_look_70 rfl 3 rfl ?_
    refine j_aload_n C dX9_look_71 rfl 0 rfl ?_
    refine gf_9_14 C ho_v0 hr_g4 k_778 dX9_look_72 ?_
    refine j_iload_n C dX9_look_75 rfl 1 rfl ?_
    obtain ⟨hi1, hw⟩ := hw
    refine j_iald C ho_g4 hi1 dX9_look_76 ?_
    refine j_icmp_ge (tgt := 120) C dX9_look_77 (by decide) (fun hc => ?_) (fun hc => ?_)
    · have hw := hw.1 hc
      refine j_aload_n C dX9_look_120 rfl 0 rfl ?_
      refine gf_9_11 C ho_v0 hr_g5 k_775 dX9_look_121 ?_
      refine j_iload_n C dX9_look_124 rfl 1 rfl ?_
      obtain ⟨hi2, hw⟩ := hw
      refine j_iald C ho_g5 hi2 dX9_look_125 ?_
      refine j_istore_n C dX9_look_126 rfl (by decide) rfl ?_
      refine j_iconst (v := 0) C dX9_look_127 (by decide) ?_
      refine j_istore C dX9_look_128 (by decide) rfl ?_
      obtain ⟨n, hw⟩ := hw
      exact J.sub (X9_look_l130_ok C K ho_v0 hr_g1 ho_g1 hr_g2 ho_g2 hr_g3 ho_g3 hr_g4 ho_g4 hr_g5 ho_g5 hr_g6 ho_g6 n (D.1 g5 v1.toNatClampNeg) 0 D hw) [2, 4, 1, 0] rfl
    · have hw := hw.2 hc
      refine j_aload_n C dX9_look_80 rfl 0 rfl ?_
      refine j_iload_n C dX9_look_81 rfl 2 rfl ?_
      refine j_bipush (v := 40) C dX9_look_82 (by decide) ?_
      refine j_icmp_ge (tgt := 109) C dX9_look_84 (by decide) (fun hc => ?_) (fun hc => ?_)
      · have hw := hw.1 hc
        exact J.sub (X9_look_j109_ok C K ho_v0 hr_g1 ho_g1 hr_g2 ho_g2 hr_g3 ho_g3 hr_g4 ho_g4 hr_g5 ho_g5 hr_g6 ho_g6 ih v3 v0 D hw) [0, 1, 2, 3] rfl
      · have hw := hw.2 hc
        refine j_aload_n C dX9_look_87 rfl 0 rfl ?_
        refine gf_9_18 C ho_v0 hr_g6 k_782 dX9_look_88 ?_
        refine j_bipush (v := 40) C dX9_look_91 (by decide) ?_
        refine j_iconst (v := 2) C dX9_look_93 (by decide) ?_
        refine j_iload_n C dX9_look_94 rfl 1 rfl ?_
        refine j_imul C dX9_look_95 ?_
        refine j_iload_n C dX9_look_96 rfl 3 rfl ?_
        refine j_iadd C dX9_look_97 ?_
        refine j_imul C dX9_look_98 ?_
        refine j_iload_n C dX9_look_99 rfl 2 rfl ?_
        refine j_iadd C dX9_look_100 ?_
        obtain ⟨hi3, hw⟩ := hw
        refine j_zald C ho_g6 hi3 dX9_look_101 ?_
        refine j_if_eq (tgt := 109) C dX9_look_102 (by decide) (fun hc => ?_) (fun hc => ?_)
        · have hw := hw.1 hc
          exact J.sub (X9_look_j109_ok C K ho_v0 hr_g1 ho_g1 hr_g2 ho_g2 hr_g3 ho_g3 hr_g4 ho_g4 hr_g5 ho_g5 hr_g6 ho_g6 ih v3 v0 D hw) [0, 1, 2, 3] rfl
        · have hw := hw.2 hc
          refine j_iconst (v := 1) C dX9_look_105 (by decide) ?_
          refine j_goto (tgt := 110) C dX9_look_106 (by decide) ?_
          exact J.sub (X9_look_j110_ok C K ho_v0 hr_g1 ho_g1 hr_g2 ho_g2 hr_g3 ho_g3 hr_g4 ho_g4 hr_g5 ho_g5 hr_g6 ho_g6 ih v3 1 v0 D hw) [0, 1, 2, 3] rfl
def X9_look_j58 (G : Shp) (post : Dat → Prop) (v0 : Nat) (v1 : Int32) (v2 : Int32) (g1 : Nat) (g2 : Nat) (g3 : Nat) (g4 : Nat) (g5 : Nat) (g6 : Nat) (k28 : Int32 → Dat → Prop) (v3 : Int32) (s0 : Int32) (s1 : Nat) (D : Dat) : Prop := (isO G s1 9 ∧ X9_part0_wp G D s1 s0 0 (fun D3 => k28 (v3 + 1) D3))
set_option maxRecDepth 100000 in
set_option maxHeartbeats 4000000 in
theorem X9_look_j58_ok {κ : Ctx} {G : Shp} {post : Dat → Prop} {v0 : Nat} {v1 : Int32} {v2 : Int32} {g1 : Nat} {g2 : Nat} {g3 : Nat} {g4 : Nat} {g5 : Nat} {g6 : Nat} (C : Cx κ cX9_look RX9 (rmN 1) 5) (K : RtV κ cX9_look G post) (ho_v0 : isO G v0 9) (hr_g1 : G.2.2.2 v0 17 = some g1) (ho_g1 : isO G g1 13) (hr_g2 : G.2.2.2 v0 12 = some g2) (ho_g2 : isO G g2 11) (hr_g3 : G.2.2.2 v0 13 = some g3) (ho_g3 : isO G g3 11) (hr_g4 : G.2.2.2 v0 14 = some g4) (ho_g4 : isO G g4 11) (hr_g5 : G.2.2.2 v0 11 = some g5) (ho_g5 : isO G g5 11) (hr_g6 : G.2.2.2 v0 18 = some g6) (ho_g6 : isO G g6 13) {k28 : Int32 → Dat → Prop} (hk28 : ∀ (v3 : Int32) (D : Dat), k28 v3 D → J κ 0 0 G D 28 [(0, .ref v0), (1, .int v1), (2, .int v2), (3, .int v3)] []) (v3 : Int32) (s0 : Int32) (s1 : Nat) (D : Dat) (hw : X9_look_j58 G post v0 v1 v2 g1 g2 g3 g4 g5 g6 k28 v3 s0 s1 D) : J κ 0 0 G D 58 [(0, .ref v0), (1, .int v1), (2, .int v2), (3, .int v3)] [.int s0, .ref s1] := by
  unfold X9_look_j58 at hw
  refine j_iconst (v := 0) C dX9_look_58 (by decide) ?_
  obtain ⟨ho1, hw⟩ := hw
  refine j_cVV (As := [.int s0, .int 0]) (st := []) C (X9_part0_ok κ.2.1 G D s1 s0 0 _ hw) ho1 rfl k_969 mv_X9_part0 ⟨by decide, by decide⟩ ⟨rfl, rfl⟩ rfl rfl (Nat.le_of_ble_eq_true rfl) ⟨Nat.zero_le _, Nat.zero_le _⟩ dX9_look_59 (fun D3 hw => ?_)
  refine j_iinc (v := v3 + 1) C dX9_look_62 3 rfl rfl (by decide) rfl ?_
  refine j_goto (tgt := 28) C dX9_look_65 (by decide) ?_
  exact J.sub (hk28 (v3 + 1) D3 hw) [1, 2, 3, 0] rfl
def X9_look_l28_b (G : Shp) (post : Dat → Prop) (v0 : Nat) (v1 : Int32) (v2 : Int32) (g1 : Nat) (g2 : Nat) (g3 : Nat) (g4 : Nat) (g5 : Nat) (g6 : Nat) (rec : Int32 → Dat → Prop) (v3 : Int32) (D : Dat) : Prop := (vp_in v1 (G.2.2.1 g2) ∧ (((D.1 g2 v1.toNatClampNeg) ≤ v3 → ∃ n, X9_look_l70 G post v0 v1 v2 g1 g2 g3 g4 g5 g6 n 0 D) ∧ (¬ ((D.1 g2 v1.toNatClampNeg) ≤ v3) → (vp_in ((3 * v1) + v3) (G.2.2.1 g3) ∧ ((v2 < (D.1 g3 ((3 * v1) + v3).toNatClampNeg) → X9_look_j58 G post v0 v1 v2 g1 g2 g3 g4 g5 g6 rec v3 0 v0 D) ∧ (¬ (v2 < (D.1 g3 ((3 * v1) + v3).toNatClampNeg)) → X9_look_j58 G post v0 v1 v2 g1 g2 g3 g4 g5 g6 rec v3 1 v0 D))))))
def X9_look_l28 (G : Shp) (post : Dat → Prop) (v0 : Nat) (v1 : Int32) (v2 : Int32) (g1 : Nat) (g2 : Nat) (g3 : Nat) (g4 : Nat) (g5 : Nat) (g6 : Nat) : Nat → Int32 → Dat → Prop
  | 0 => fun _ _ => False
  | n + 1 => X9_look_l28_b G post v0 v1 v2 g1 g2 g3 g4 g5 g6 (X9_look_l28 G post v0 v1 v2 g1 g2 g3 g4 g5 g6 n)
set_option maxRecDepth 100000 in
set_option maxHeartbeats 4000000 in
theorem X9_look_l28_ok {κ : Ctx} {G : Shp} {post : Dat → Prop} {v0 : Nat} {v1 : Int32} {v2 : Int32} {g1 : Nat} {g2 : Nat} {g3 : Nat} {g4 : Nat} {g5 : Nat} {g6 : Nat} (C : Cx κ cX9_look RX9 (rmN 1) 5) (K : RtV κ cX9_look G post) (ho_v0 : isO G v0 9) (hr_g1 : G.2.2.2 v0 17 = some g1) (ho_g1 : isO G g1 13) (hr_g2 : G.2.2.2 v0 12 = some g2) (ho_g2 : isO G g2 11) (hr_g3 : G.2.2.2 v0 13 = some g3) (ho_g3 : isO G g3 11) (hr_g4 : G.2.2.2 v0 14 = some g4) (ho_g4 : isO G g4 11) (hr_g5 : G.2.2.2 v0 11 = some g5) (ho_g5 : isO G g5 11) (hr_g6 : G.2.2.2 v0 18 = some g6) (ho_g6 : isO G g6 13) : ∀ (n : Nat) (v3 : Int32) (D : Dat), X9_look_l28 G post v0 v1 v2 g1 g2 g3 g4 g5 g6 n v3 D → J κ 0 0 G D 28 [(0, .ref v0), (1, .int v1), (2, .int v2), (3, .int v3)] [] := by
  intro n
  induction n with
  | zero => intro v3 D hw; exact hw.elim
  | succ n ih =>
    intro v3 D hw
    have hw : X9_look_l28_b G post v0 v1 v2 g1 g2 g3 g4 g5 g6 (X9_look_l28 G post v0 v1 v2 g1 g2 g3 g4 g5 g6 n) v3 D := hw
    unfold X9_look_l28_b at hw
    refine j_iload_n C dX9_look_28 rfl 3 rfl ?_
    refine j_aload_n C dX9_look_29 rfl 0 rfl ?_
    refine gf_9_12 C ho_v0 hr_g2 k_776 dX9_look_30 ?_
    refine j_iload_n C dX9_look_33 rfl 1 rfl ?_
    obtain ⟨hi1, hw⟩ := hw
    refine j_iald C ho_g2 hi1 dX9_look_34 ?_
    refine j_icmp_ge (tgt := 68) C dX9_look_35 (by decide) (fun hc => ?_) (fun hc => ?_)
    · have hw := hw.1 hc
      refine j_iconst (v := 0) C dX9_look_68 (by decide) ?_
      refine j_istore_n C dX9_look_69 rfl (by decide) rfl ?_
      obtain ⟨n, hw⟩ := hw
      exact J.sub (X9_look_l70_ok C K ho_v0 hr_g1 ho_g1 hr_g2 ho_g2 hr_g3 ho_g3 hr_g4 ho_g4 hr_g5 ho_g5 hr_g6 ho_g6 n 0 D hw) [1, 2, 3, 0] rfl
    · have hw := hw.2 hc
      refine j_aload_n C dX9_look_38 rfl 0 rfl ?_
      refine j_iload_n C dX9_look_39 rfl 2 rfl ?_
      refine j_aload_n C dX9_look_40 rfl 0 rfl ?_
      refine gf_9_13 C ho_v0 hr_g3 k_777 dX9_look_41 ?_
      refine j_iconst (v := 3) C dX9_look_44 (by decide) ?_
      refine j_iload_n C dX9_look_45 rfl 1 rfl ?_
      refine j_imul C dX9_look_46 ?_
      refine j_iload_n C dX9_look_47 rfl 3 rfl ?_
      refine j_iadd C dX9_look_48 ?_
      obtain ⟨hi2, hw⟩ := hw
      refine j_iald C ho_g3 hi2 dX9_look_49 ?_
      refine j_icmp_lt (tgt := 57) C dX9_look_50 (by decide) (fun hc => ?_) (fun hc => ?_)
      · have hw := hw.1 hc
        refine j_iconst (v := 0) C dX9_look_57 (by decide) ?_
        exact J.sub (X9_look_j58_ok C K ho_v0 hr_g1 ho_g1 hr_g2 ho_g2 hr_g3 ho_g3 hr_g4 ho_g4 hr_g5 ho_g5 hr_g6 ho_g6 ih v3 0 v0 D hw) [0, 1, 2, 3] rfl
      · have hw := hw.2 hc
        refine j_iconst (v := 1) C dX9_look_53 (by decide) ?_
        refine j_goto (tgt := 58) C dX9_look_54 (by decide) ?_
        exact J.sub (X9_look_j58_ok C K ho_v0 hr_g1 ho_g1 hr_g2 ho_g2 hr_g3 ho_g3 hr_g4 ho_g4 hr_g5 ho_g5 hr_g6 ho_g6 ih v3 1 v0 D hw) [0, 1, 2, 3] rfl
def X9_look_j26 (G : Shp) (post : Dat → Prop) (v0 : Nat) (v1 : Int32) (v2 : Int32) (g1 : Nat) (g2 : Nat) (g3 : Nat) (g4 : Nat) (g5 : Nat) (g6 : Nat) (D : Dat) : Prop := ∃ n, X9_look_l28 G post v0 v1 v2 g1 g2 g3 g4 g5 g6 n 0 D
set_option maxRecDepth 100000 in
set_option maxHeartbeats 4000000 in
theorem X9_look_j26_ok {κ : Ctx} {G : Shp} {post : Dat → Prop} {v0 : Nat} {v1 : Int32} {v2 : Int32} {g1 : Nat} {g2 : Nat} {g3 : Nat} {g4 : Nat} {g5 : Nat} {g6 : Nat} (C : Cx κ cX9_look RX9 (rmN 1) 5) (K : RtV κ cX9_look G post) (ho_v0 : isO G v0 9) (hr_g1 : G.2.2.2 v0 17 = some g1) (ho_g1 : isO G g1 13) (hr_g2 : G.2.2.2 v0 12 = some g2) (ho_g2 : isO G g2 11) (hr_g3 : G.2.2.2 v0 13 = some g3) (ho_g3 : isO G g3 11) (hr_g4 : G.2.2.2 v0 14 = some g4) (ho_g4 : isO G g4 11) (hr_g5 : G.2.2.2 v0 11 = some g5) (ho_g5 : isO G g5 11) (hr_g6 : G.2.2.2 v0 18 = some g6) (ho_g6 : isO G g6 13) (D : Dat) (hw : X9_look_j26 G post v0 v1 v2 g1 g2 g3 g4 g5 g6 D) : J κ 0 0 G D 26 [(0, .ref v0), (1, .int v1), (2, .int v2)] [] := by
  unfold X9_look_j26 at hw
  refine j_iconst (v := 0) C dX9_look_26 (by decide) ?_
  refine j_istore_n C dX9_look_27 rfl (by decide) rfl ?_
  obtain ⟨n, hw⟩ := hw
  exact J.sub (X9_look_l28_ok C K ho_v0 hr_g1 ho_g1 hr_g2 ho_g2 hr_g3 ho_g3 hr_g4 ho_g4 hr_g5 ho_g5 hr_g6 ho_g6 n 0 D hw) [1, 2, 3, 0] rfl
def X9_look_wp (G : Shp) (D : Dat) (v0 : Nat) (v1 : Int32) (v2 : Int32) (post : Dat → Prop) : Prop := isO G v0 9 ∧ ∃ g1, G.2.2.2 v0 17 = some g1 ∧ isO G g1 13 ∧ ∃ g2, G.2.2.2 v0 12 = some g2 ∧ isO G g2 11 ∧ ∃ g3, G.2.2.2 v0 13 = some g3 ∧ isO G g3 11 ∧ ∃ g4, G.2.2.2 v0 14 = some g4 ∧ isO G g4 11 ∧ ∃ g5, G.2.2.2 v0 11 = some g5 ∧ isO G g5 11 ∧ ∃ g6, G.2.2.2 v0 18 = some g6 ∧ isO G g6 13 ∧ X9_part0_wp G (dI D v0 21 0) v0 1 0 (fun D2 => (vp_in v1 (G.2.2.1 g1) ∧ (((D2.1 g1 v1.toNatClampNeg) = 0 → X9_look_j26 G post v0 v1 v2 g1 g2 g3 g4 g5 g6 D2) ∧ (¬ ((D2.1 g1 v1.toNatClampNeg) = 0) → X9_part0_wp G D2 v0 v2 0 (fun D5 => X9_look_j26 G post v0 v1 v2 g1 g2 g3 g4 g5 g6 D5)))))
set_option maxRecDepth 100000 in
set_option maxHeartbeats 4000000 in
theorem X9_look_ok (l : Launch) (G : Shp) (D : Dat) (v0 : Nat) (v1 : Int32) (v2 : Int32) (post : Dat → Prop) (hw : X9_look_wp G D v0 v1 v2 post) : CtV l yX9_look cX9_look 5 (rmN 1) [.ref v0, .int v1, .int v2] G D post := by
  obtain ⟨ho_v0, g1, hr_g1, ho_g1, g2, hr_g2, ho_g2, g3, hr_g3, ho_g3, g4, hr_g4, ho_g4, g5, hr_g5, ho_g5, g6, hr_g6, ho_g6, hw⟩ := hw
  refine ctV_of (by decide) rfl (Nat.le_of_ble_eq_true rfl) ?_
  intro κ hκ C K
  subst hκ
  have C : Cx κ cX9_look RX9 (rmN 1) 5 := C
  refine j_aload_n C dX9_look_0 rfl 0 rfl ?_
  refine j_iconst (v := 0) C dX9_look_1 (by decide) ?_
  refine pf_9_21 C ho_v0 k_785 dX9_look_2 ?_
  refine j_aload_n C dX9_look_5 rfl 0 rfl ?_
  refine j_iconst (v := 1) C dX9_look_6 (by decide) ?_
  refine j_iconst (v := 0) C dX9_look_7 (by decide) ?_
  refine j_cVV (As := [.int 1, .int 0]) (st := []) C (X9_part0_ok κ.2.1 G (dI D v0 21 0) v0 1 0 _ hw) ho_v0 rfl k_969 mv_X9_part0 ⟨by decide, by decide⟩ ⟨rfl, rfl⟩ rfl rfl (Nat.le_of_ble_eq_true rfl) ⟨Nat.zero_le _, Nat.zero_le _⟩ dX9_look_8 (fun D2 hw => ?_)
  refine j_aload_n C dX9_look_11 rfl 0 rfl ?_
  refine gf_9_17 C ho_v0 hr_g1 k_781 dX9_look_12 ?_
  refine j_iload_n C dX9_look_15 rfl 1 rfl ?_
  obtain ⟨hi3, hw⟩ := hw
  refine j_zald C ho_g1 hi3 dX9_look_16 ?_
  refine j_if_eq (tgt := 26) C dX9_look_17 (by decide) (fun hc => ?_) (fun hc => ?_)
  · have hw := hw.1 hc
    exact J.sub (X9_look_j26_ok C K ho_v0 hr_g1 ho_g1 hr_g2 ho_g2 hr_g3 ho_g3 hr_g4 ho_g4 hr_g5 ho_g5 hr_g6 ho_g6 D2 hw) [0, 1, 2] rfl
  · have hw := hw.2 hc
    refine j_aload_n C dX9_look_20 rfl 0 rfl ?_
    refine j_iload_n C dX9_look_21 rfl 2 rfl ?_
    refine j_iconst (v := 0) C dX9_look_22 (by decide) ?_
    refine j_cVV (As := [.int v2, .int 0]) (st := []) C (X9_part0_ok κ.2.1 G D2 v0 v2 0 _ hw) ho_v0 rfl k_969 mv_X9_part0 ⟨by decide, by decide⟩ ⟨rfl, rfl⟩ rfl rfl (Nat.le_of_ble_eq_true rfl) ⟨Nat.zero_le _, Nat.zero_le _⟩ dX9_look_23 (fun D5 hw => ?_)
    exact J.sub (X9_look_j26_ok C K ho_v0 hr_g1 ho_g1 hr_g2 ho_g2 hr_g3 ho_g3 hr_g4 ho_g4 hr_g5 ho_g5 hr_g6 ho_g6 D5 hw) [0, 1, 2] rfl
/-! X9_model -/
def X9_model_j34 (G : Shp) (post : Int32 → Dat → Prop) (v0 : Nat) (v1 : Int32) (v2 : Int32) (v3 : Int32) (g1 : Nat) (g2 : Nat) (D : Dat) : Prop := (vp_in v1 (G.2.2.1 g1) ∧ vp_in v1 (G.2.2.1 g2) ∧ X9_is_wp G (dI (dI D g1 v1.toNatClampNeg (vp_nar .boolean v2)) g2 v1.toNatClampNeg v3) v0 0 (fun r3 D4 => (isB r3 ∧ post r3 D4)))
set_option maxRecDepth 100000 in
set_option maxHeartbeats 4000000 in
theorem X9_model_j34_ok {κ : Ctx} {G : Shp} {post : Int32 → Dat → Prop} {v0 : Nat} {v1 : Int32} {v2 : Int32} {v3 : Int32} {g1 : Nat} {g2 : Nat} (C : Cx κ cX9_model RX9 (rmN 1) 4) (K : RtI κ cX9_model .boolean G post) (ho_v0 : isO G v0 9) (hr_g1 : G.2.2.2 v0 17 = some g1) (ho_g1 : isO G g1 13) (hr_g2 : G.2.2.2 v0 11 = some g2) (ho_g2 : isO G g2 11) (D : Dat) (hw : X9_model_j34 G post v0 v1 v2 v3 g1 g2 D) : J κ 0 0 G D 34 [(0, .ref v0), (1, .int v1), (2, .int v2), (3, .int v3)] [] := by
  unfold X9_model_j34 at hw
  refine j_aload_n C dX9_model_34 rfl 0 rfl ?_
  refine gf_9_17 C ho_v0 hr_g1 k_781 dX9_model_35 ?_
  refine j_iload_n C dX9_model_38 rfl 1 rfl ?_
  refine j_iload_n C dX9_model_39 rfl 2 rfl ?_
  obtain ⟨hi1, hw⟩ := hw
  refine j_zast C ho_g1 hi1 dX9_model_40 ?_
  refine j_aload_n C dX9_model_41 rfl 0 rfl ?_
  refine gf_9_11 C ho_v0 hr_g2 k_775 dX9_model_42 ?_
  refine j_iload_n C dX9_model_45 rfl 1 rfl ?_
  refine j_iload_n C dX9_model_46 rfl 3 rfl ?_
  obtain ⟨hi2, hw⟩ := hw
  refine j_iast C ho_g2 hi2 dX9_model_47 ?_
  refine j_aload_n C dX9_model_48 rfl 0 rfl ?_
  refine j_iconst (v := 0) C dX9_model_49 (by decide) ?_
  refine j_cVI (As := [.int 0]) (st := []) C (X9_is_ok κ.2.1 G (dI (dI D g1 v1.toNatClampNeg (vp_nar .boolean v2)) g2 v1.toNatClampNeg v3) v0 0 _ hw) ho_v0 rfl k_873 mv_X9_is ⟨by decide, by decide⟩ ⟨rfl, rfl⟩ rfl rfl (Nat.le_of_ble_eq_true rfl) ⟨Nat.zero_le _, Nat.zero_le _⟩ dX9_model_50 (fun r3 D4 hw => ?_)
  obtain ⟨hb5, hw⟩ := hw
  exact K _ _ _ _ dX9_model_53 (isB_n hb5) hw
def X9_model_j28 (G : Shp) (post : Int32 → Dat → Prop) (v0 : Nat) (v1 : Int32) (v2 : Int32) (v3 : Int32) (g1 : Nat) (g2 : Nat) (D : Dat) : Prop := X9_is_wp G D v0 2 (fun r1 D2 => (isB r1 ∧ post r1 D2))
set_option maxRecDepth 100000 in
set_option maxHeartbeats 4000000 in
theorem X9_model_j28_ok {κ : Ctx} {G : Shp} {post : Int32 → Dat → Prop} {v0 : Nat} {v1 : Int32} {v2 : Int32} {v3 : Int32} {g1 : Nat} {g2 : Nat} (C : Cx κ cX9_model RX9 (rmN 1) 4) (K : RtI κ cX9_model .boolean G post) (ho_v0 : isO G v0 9) (hr_g1 : G.2.2.2 v0 17 = some g1) (ho_g1 : isO G g1 13) (hr_g2 : G.2.2.2 v0 11 = some g2) (ho_g2 : isO G g2 11) (D : Dat) (hw : X9_model_j28 G post v0 v1 v2 v3 g1 g2 D) : J κ 0 0 G D 28 [(0, .ref v0)] [] := by
  unfold X9_model_j28 at hw
  refine j_aload_n C dX9_model_28 rfl 0 rfl ?_
  refine j_iconst (v := 2) C dX9_model_29 (by decide) ?_
  refine j_cVI (As := [.int 2]) (st := []) C (X9_is_ok κ.2.1 G D v0 2 _ hw) ho_v0 rfl k_873 mv_X9_is ⟨by decide, by decide⟩ ⟨rfl, rfl⟩ rfl rfl (Nat.le_of_ble_eq_true rfl) ⟨Nat.zero_le _, Nat.zero_le _⟩ dX9_model_30 (fun r1 D2 hw => ?_)
  obtain ⟨hb3, hw⟩ := hw
  exact K _ _ _ _ dX9_model_33 (isB_n hb3) hw
def X9_model_wp (G : Shp) (D : Dat) (v0 : Nat) (v1 : Int32) (v2 : Int32) (v3 : Int32) (post : Int32 → Dat → Prop) : Prop := isO G v0 9 ∧ ∃ g1, G.2.2.2 v0 17 = some g1 ∧ isO G g1 13 ∧ ∃ g2, G.2.2.2 v0 11 = some g2 ∧ isO G g2 11 ∧ X9_isRow_wp G D v1 (fun r1 D2 => ((¬ r1 = 0 → ((v3 = 0 → X9_model_j34 G post v0 v1 v2 v3 g1 g2 D2) ∧ (¬ (v3 = 0) → ((v3 < 2 → X9_model_j28 G post v0 v1 v2 v3 g1 g2 D2) ∧ (¬ (v3 < 2) → ((v3 ≤ 7 → X9_model_j34 G post v0 v1 v2 v3 g1 g2 D2) ∧ (¬ (v3 ≤ 7) → X9_model_j28 G post v0 v1 v2 v3 g1 g2 D2))))))) ∧ (r1 = 0 → X9_is_wp G D2 v0 1 (fun r3 D4 => (isB r3 ∧ post r3 D4)))))
set_option maxRecDepth 100000 in
set_option maxHeartbeats 4000000 in
theorem X9_model_ok (l : Launch) (G : Shp) (D : Dat) (v0 : Nat) (v1 : Int32) (v2 : Int32) (v3 : Int32) (post : Int32 → Dat → Prop) (hw : X9_model_wp G D v0 v1 v2 v3 post) : CtI l yX9_model cX9_model 4 .boolean (rmN 1) [.ref v0, .int v1, .int v2, .int v3] G D post := by
  obtain ⟨ho_v0, g1, hr_g1, ho_g1, g2, hr_g2, ho_g2, hw⟩ := hw
  refine ctI_of (by decide) rfl (Nat.le_of_ble_eq_true rfl) ?_
  intro κ hκ C K
  subst hκ
  have C : Cx κ cX9_model RX9 (rmN 1) 4 := C
  refine j_iload_n C dX9_model_0 rfl 1 rfl ?_
  refine j_cSI (As := [.int v1]) (st := []) C (X9_isRow_ok κ.2.1 G D v1 _ hw) k_867 ms_X9_isRow ⟨by decide, by decide⟩ ⟨rfl, rfl⟩ rfl rfl (Nat.le_of_ble_eq_true rfl) ⟨Nat.zero_le _, Nat.zero_le _⟩ dX9_model_1 (fun r1 D2 hw => ?_)
  refine j_if_ne (tgt := 13) C dX9_model_4 (by decide) (fun hc => ?_) (fun hc => ?_)
  · have hw := hw.1 hc
    refine j_iload_n C dX9_model_13 rfl 3 rfl ?_
    refine j_if_eq (tgt := 34) C dX9_model_14 (by decide) (fun hc => ?_) (fun hc => ?_)
    · have hw := hw.1 hc
      exact J.sub (X9_model_j34_ok C K ho_v0 hr_g1 ho_g1 hr_g2 ho_g2 D2 hw) [0, 1, 2, 3] rfl
    · have hw := hw.2 hc
      refine j_iload_n C dX9_model_17 rfl 3 rfl ?_
      refine j_iconst (v := 2) C dX9_model_18 (by decide) ?_
      refine j_icmp_lt (tgt := 28) C dX9_model_19 (by decide) (fun hc => ?_) (fun hc => ?_)
      · have hw := hw.1 hc
        exact J.sub (X9_model_j28_ok C K ho_v0 hr_g1 ho_g1 hr_g2 ho_g2 D2 hw) [0] rfl
      · have hw := hw.2 hc
        refine j_iload_n C dX9_model_22 rfl 3 rfl ?_
        refine j_bipush (v := 7) C dX9_model_23 (by decide) ?_
        refine j_icmp_le (tgt := 34) C dX9_model_25 (by decide) (fun hc => ?_) (fun hc => ?_)
        · have hw := hw.1 hc
          exact J.sub (X9_model_j34_ok C K ho_v0 hr_g1 ho_g1 hr_g2 ho_g2 D2 hw) [0, 1, 2, 3] rfl
        · have hw := hw.2 hc
          exact J.sub (X9_model_j28_ok C K ho_v0 hr_g1 ho_g1 hr_g2 ho_g2 D2 hw) [0] rfl
  · have hw := hw.2 hc
    refine j_aload_n C dX9_model_7 rfl 0 rfl ?_
    refine j_iconst (v := 1) C dX9_model_8 (by decide) ?_
    refine j_cVI (As := [.int 1]) (st := []) C (X9_is_ok κ.2.1 G D2 v0 1 _ hw) ho_v0 rfl k_873 mv_X9_is ⟨by decide, by decide⟩ ⟨rfl, rfl⟩ rfl rfl (Nat.le_of_ble_eq_true rfl) ⟨Nat.zero_le _, Nat.zero_le _⟩ dX9_model_9 (fun r3 D4 hw => ?_)
    obtain ⟨hb5, hw⟩ := hw
    exact K _ _ _ _ dX9_model_12 (isB_n hb5) hw
/-! X9_number -/
def X9_number_j14 (G : Shp) (post : Int32 → Dat → Prop) (v0 : Nat) (v1 : Int32) (v2 : Int32) (g1 : Nat) (g2 : Nat) (D : Dat) : Prop := X9_refuse_wp G D v0 1 (fun r1 D2 => post r1 D2)
set_option maxRecDepth 100000 in
set_option maxHeartbeats 4000000 in
theorem X9_number_j14_ok {κ : Ctx} {G : Shp} {post : Int32 → Dat → Prop} {v0 : Nat} {v1 : Int32} {v2 : Int32} {g1 : Nat} {g2 : Nat} (C : Cx κ cX9_number RX9 (rmN 1) 3) (K : RtI κ cX9_number .int G post) (ho_v0 : isO G v0 9) (hr_g1 : G.2.2.2 v0 15 = some g1) (ho_g1 : isO G g1 13) (hr_g2 : G.2.2.2 v0 10 = some g2) (ho_g2 : isO G g2 11) (D : Dat) (hw : X9_number_j14 G post v0 v1 v2 g1 g2 D) : J κ 0 0 G D 14 [(0, .ref v0)] [] := by
  unfold X9_number_j14 at hw
  refine j_aload_n C dX9_number_14 rfl 0 rfl ?_
  refine j_iconst (v := 1) C dX9_number_15 (by decide) ?_
  refine j_cVI (As := [.int 1]) (st := []) C (X9_refuse_ok κ.2.1 G D v0 1 _ hw) ho_v0 rfl k_897 mv_X9_refuse ⟨by decide, by decide⟩ ⟨rfl, rfl⟩ rfl rfl (Nat.le_of_ble_eq_true rfl) ⟨Nat.zero_le _, Nat.zero_le _⟩ dX9_number_16 (fun r1 D2 hw => ?_)
  exact K _ _ _ _ dX9_number_19 rfl hw
def X9_number_wp (G : Shp) (D : Dat) (v0 : Nat) (v1 : Int32) (v2 : Int32) (post : Int32 → Dat → Prop) : Prop := isO G v0 9 ∧ ∃ g1, G.2.2.2 v0 15 = some g1 ∧ isO G g1 13 ∧ ∃ g2, G.2.2.2 v0 10 = some g2 ∧ isO G g2 11 ∧ X9_isRow_wp G D v1 (fun r1 D2 => ((r1 = 0 → X9_number_j14 G post v0 v1 v2 g1 g2 D2) ∧ (¬ (r1 = 0) → X9_isTick_wp G D2 v2 (fun r3 D4 => ((¬ r3 = 0 → X9_spot_wp G D4 v1 v2 (fun r5 D6 => (vp_in r5 (G.2.2.1 g1) ∧ ((¬ (D6.1 g1 r5.toNatClampNeg) = 0 → X9_spot_wp G (dI D6 v0 0 0) v1 v2 (fun r8 D9 => (vp_in r8 (G.2.2.1 g2) ∧ post (D9.1 g2 r8.toNatClampNeg) D9))) ∧ ((D6.1 g1 r5.toNatClampNeg) = 0 → X9_refuse_wp G D6 v0 7 (fun r11 D12 => post r11 D12)))))) ∧ (r3 = 0 → X9_number_j14 G post v0 v1 v2 g1 g2 D4))))))
set_option maxRecDepth 100000 in
set_option maxHeartbeats 4000000 in
theorem X9_number_ok (l : Launch) (G : Shp) (D : Dat) (v0 : Nat) (v1 : Int32) (v2 : Int32) (post : Int32 → Dat → Prop) (hw : X9_number_wp G D v0 v1 v2 post) : CtI l yX9_number cX9_number 3 .int (rmN 1) [.ref v0, .int v1, .int v2] G D post := by
  obtain ⟨ho_v0, g1, hr_g1, ho_g1, g2, hr_g2, ho_g2, hw⟩ := hw
  refine ctI_of (by decide) rfl (Nat.le_of_ble_eq_true rfl) ?_
  intro κ hκ C K
  subst hκ
  have C : Cx κ cX9_number RX9 (rmN 1) 3 := C
  refine j_iload_n C dX9_number_0 rfl 1 rfl ?_
  refine j_cSI (As := [.int v1]) (st := []) C (X9_isRow_ok κ.2.1 G D v1 _ hw) k_867 ms_X9_isRow ⟨by decide, by decide⟩ ⟨rfl, rfl⟩ rfl rfl (Nat.le_of_ble_eq_true rfl) ⟨Nat.zero_le _, Nat.zero_le _⟩ dX9_number_1 (fun r1 D2 hw => ?_)
  refine j_if_eq (tgt := 14) C dX9_number_4 (by decide) (fun hc => ?_) (fun hc => ?_)
  · have hw := hw.1 hc
    exact J.sub (X9_number_j14_ok C K ho_v0 hr_g1 ho_g1 hr_g2 ho_g2 D2 hw) [0] rfl
  · have hw := hw.2 hc
    refine j_iload_n C dX9_number_7 rfl 2 rfl ?_
    refine j_cSI (As := [.int v2]) (st := []) C (X9_isTick_ok κ.2.1 G D2 v2 _ hw) k_870 ms_X9_isTick ⟨by decide, by decide⟩ ⟨rfl, rfl⟩ rfl rfl (Nat.le_of_ble_eq_true rfl) ⟨Nat.zero_le _, Nat.zero_le _⟩ dX9_number_8 (fun r3 D4 hw => ?_)
    refine j_if_ne (tgt := 20) C dX9_number_11 (by decide) (fun hc => ?_) (fun hc => ?_)
    · have hw := hw.1 hc
      refine j_aload_n C dX9_number_20 rfl 0 rfl ?_
      refine gf_9_15 C ho_v0 hr_g1 k_779 dX9_number_21 ?_
      refine j_iload_n C dX9_number_24 rfl 1 rfl ?_
      refine j_iload_n C dX9_number_25 rfl 2 rfl ?_
      refine j_cSI (As := [.int v1, .int v2]) (st := [.ref g1]) C (X9_spot_ok κ.2.1 G D4 v1 v2 _ hw) k_882 ms_X9_spot ⟨by decide, by decide⟩ ⟨rfl, rfl⟩ rfl rfl (Nat.le_of_ble_eq_true rfl) ⟨Nat.zero_le _, Nat.zero_le _⟩ dX9_number_26 (fun r5 D6 hw => ?_)
      obtain ⟨hi7, hw⟩ := hw
      refine j_zald C ho_g1 hi7 dX9_number_29 ?_
      refine j_if_ne (tgt := 40) C dX9_number_30 (by decide) (fun hc => ?_) (fun hc => ?_)
      · have hw := hw.1 hc
        refine j_aload_n C dX9_number_40 rfl 0 rfl ?_
        refine j_iconst (v := 0) C dX9_number_41 (by decide) ?_
        refine pf_9_0 C ho_v0 k_764 dX9_number_42 ?_
        refine j_aload_n C dX9_number_45 rfl 0 rfl ?_
        refine gf_9_10 C ho_v0 hr_g2 k_774 dX9_number_46 ?_
        refine j_iload_n C dX9_number_49 rfl 1 rfl ?_
        refine j_iload_n C dX9_number_50 rfl 2 rfl ?_
        refine j_cSI (As := [.int v1, .int v2]) (st := [.ref g2]) C (X9_spot_ok κ.2.1 G (dI D6 v0 0 0) v1 v2 _ hw) k_882 ms_X9_spot ⟨by decide, by decide⟩ ⟨rfl, rfl⟩ rfl rfl (Nat.le_of_ble_eq_true rfl) ⟨Nat.zero_le _, Nat.zero_le _⟩ dX9_number_51 (fun r8 D9 hw => ?_)
        obtain ⟨hi10, hw⟩ := hw
        refine j_iald C ho_g2 hi10 dX9_number_54 ?_
        exact K _ _ _ _ dX9_number_55 rfl hw
      · have hw := hw.2 hc
        refine j_aload_n C dX9_number_33 rfl 0 rfl ?_
        refine j_bipush (v := 7) C dX9_number_34 (by decide) ?_
        refine j_cVI (As := [.int 7]) (st := []) C (X9_refuse_ok κ.2.1 G D6 v0 7 _ hw) ho_v0 rfl k_897 mv_X9_refuse ⟨by decide, by decide⟩ ⟨rfl, rfl⟩ rfl rfl (Nat.le_of_ble_eq_true rfl) ⟨Nat.zero_le _, Nat.zero_le _⟩ dX9_number_36 (fun r11 D12 hw => ?_)
        exact K _ _ _ _ dX9_number_39 rfl hw
    · have hw := hw.2 hc
      exact J.sub (X9_number_j14_ok C K ho_v0 hr_g1 ho_g1 hr_g2 ho_g2 D4 hw) [0] rfl
/-! X9_on -/
def X9_on_j83 (G : Shp) (post : Int32 → Dat → Prop) (v0 : Nat) (v1 : Int32) (v2 : Int32) (v3 : Int32) (g1 : Nat) (g2 : Nat) (k56 : Int32 → Int32 → Int32 → Dat → Prop) (v5 : Int32) (v6 : Int32) (s0 : Int32) (s1 : Int32) (D : Dat) : Prop := k56 (s1 + s0) v5 (v6 + 1) D
set_option maxRecDepth 100000 in
set_option maxHeartbeats 4000000 in
theorem X9_on_j83_ok {κ : Ctx} {G : Shp} {post : Int32 → Dat → Prop} {v0 : Nat} {v1 : Int32} {v2 : Int32} {v3 : Int32} {g1 : Nat} {g2 : Nat} (C : Cx κ cX9_on RX9 (rmN 1) 7) (K : RtI κ cX9_on .boolean G post) (ho_v0 : isO G v0 9) (hr_g1 : G.2.2.2 v0 14 = some g1) (ho_g1 : isO G g1 11) (hr_g2 : G.2.2.2 v0 18 = some g2) (ho_g2 : isO G g2 13) {k56 : Int32 → Int32 → Int32 → Dat → Prop} (hk56 : ∀ (v4 : Int32) (v5 : Int32) (v6 : Int32) (D : Dat), k56 v4 v5 v6 D → J κ 0 0 G D 56 [(0, .ref v0), (3, .int v3), (4, .int v4), (5, .int v5), (6, .int v6)] []) (v5 : Int32) (v6 : Int32) (s0 : Int32) (s1 : Int32) (D : Dat) (hw : X9_on_j83 G post v0 v1 v2 v3 g1 g2 k56 v5 v6 s0 s1 D) : J κ 0 0 G D 83 [(0, .ref v0), (3, .int v3), (5, .int v5), (6, .int v6)] [.int s0, .int s1] := by
  unfold X9_on_j83 at hw
  refine j_iadd C dX9_on_83 ?_
  refine j_istore C dX9_on_84 (by decide) rfl ?_
  refine j_iinc (v := v6 + 1) C dX9_on_86 4 rfl rfl (by decide) rfl ?_
  refine j_goto (tgt := 56) C dX9_on_89 (by decide) ?_
  exact J.sub (hk56 (s1 + s0) v5 (v6 + 1) D hw) [2, 3, 1, 4, 0] rfl
def X9_on_l56_b (G : Shp) (post : Int32 → Dat → Prop) (v0 : Nat) (v1 : Int32) (v2 : Int32) (v3 : Int32) (g1 : Nat) (g2 : Nat) (rec : Int32 → Int32 → Int32 → Dat → Prop) (v4 : Int32) (v5 : Int32) (v6 : Int32) (D : Dat) : Prop := ((40 ≤ v6 → ((¬ v4 = 8 → (vp_in (v5 + v3) (G.2.2.1 g2) ∧ (((D.1 g2 (v5 + v3).toNatClampNeg) = 0 → (vp_in (v5 + v3) (G.2.2.1 g2) ∧ X9_is_wp G (dI D g2 (v5 + v3).toNatClampNeg (vp_nar .boolean 1)) v0 0 (fun r3 D4 => (isB r3 ∧ post r3 D4)))) ∧ (¬ ((D.1 g2 (v5 + v3).toNatClampNeg) = 0) → X9_is_wp G D v0 4 (fun r6 D7 => (isB r6 ∧ post r6 D7)))))) ∧ (v4 = 8 → X9_is_wp G D v0 3 (fun r9 D10 => (isB r9 ∧ post r9 D10))))) ∧ (¬ (40 ≤ v6) → (vp_in (v5 + v6) (G.2.2.1 g2) ∧ (((D.1 g2 (v5 + v6).toNatClampNeg) = 0 → X9_on_j83 G post v0 v1 v2 v3 g1 g2 rec v5 v6 0 v4 D) ∧ (¬ ((D.1 g2 (v5 + v6).toNatClampNeg) = 0) → X9_on_j83 G post v0 v1 v2 v3 g1 g2 rec v5 v6 1 v4 D)))))
def X9_on_l56 (G : Shp) (post : Int32 → Dat → Prop) (v0 : Nat) (v1 : Int32) (v2 : Int32) (v3 : Int32) (g1 : Nat) (g2 : Nat) : Nat → Int32 → Int32 → Int32 → Dat → Prop
  | 0 => fun _ _ _ _ => False
  | n + 1 => X9_on_l56_b G post v0 v1 v2 v3 g1 g2 (X9_on_l56 G post v0 v1 v2 v3 g1 g2 n)
set_option maxRecDepth 100000 in
set_option maxHeartbeats 4000000 in
theorem X9_on_l56_ok {κ : Ctx} {G : Shp} {post : Int32 → Dat → Prop} {v0 : Nat} {v1 : Int32} {v2 : Int32} {v3 : Int32} {g1 : Nat} {g2 : Nat} (C : Cx κ cX9_on RX9 (rmN 1) 7) (K : RtI κ cX9_on .boolean G post) (ho_v0 : isO G v0 9) (hr_g1 : G.2.2.2 v0 14 = some g1) (ho_g1 : isO G g1 11) (hr_g2 : G.2.2.2 v0 18 = some g2) (ho_g2 : isO G g2 13) : ∀ (n : Nat) (v4 : Int32) (v5 : Int32) (v6 : Int32) (D : Dat), X9_on_l56 G post v0 v1 v2 v3 g1 g2 n v4 v5 v6 D → J κ 0 0 G D 56 [(0, .ref v0), (3, .int v3), (4, .int v4), (5, .int v5), (6, .int v6)] [] := by
  intro n
  induction n with
  | zero => intro v4 v5 v6 D hw; exact hw.elim
  | succ n ih =>
    intro v4 v5 v6 D hw
    have hw : X9_on_l56_b G post v0 v1 v2 v3 g1 g2 (X9_on_l56 G post v0 v1 v2 v3 g1 g2 n) v4 v5 v6 D := hw
    unfold X9_on_l56_b at hw
    refine j_iload C dX9_on_56 4 rfl ?_
    refine j_bipush (v := 40) C dX9_on_58 (by decide) ?_
    refine j_icmp_ge (tgt := 92) C dX9_on_60 (by decide) (fun hc => ?_) (fun hc => ?_)
    · have hw := hw.1 hc
      refine j_iload C dX9_on_92 2 rfl ?_
      refine j_bipush (v := 8) C dX9_on_94 (by decide) ?_
      refine j_icmp_ne (tgt := 105) C dX9_on_96 (by decide) (fun hc => ?_) (fun hc => ?_)
      · have hw := hw.1 hc
        refine j_aload_n C dX9_on_105 rfl 0 rfl ?_
        refine gf_9_18 C ho_v0 hr_g2 k_782 dX9_on_106 ?_
        refine j_iload C dX9_on_109 3 rfl ?_
        refine j_iload_n C dX9_on_111 rfl 1 rfl ?_
        refine j_iadd C dX9_on_112 ?_
        obtain ⟨hi1, hw⟩ := hw
        refine j_zald C ho_g2 hi1 dX9_on_113 ?_
        refine j_if_eq (tgt := 123) C dX9_on_114 (by decide) (fun hc => ?_) (fun hc => ?_)
        · have hw := hw.1 hc
          refine j_aload_n C dX9_on_123 rfl 0 rfl ?_
          refine gf_9_18 C ho_v0 hr_g2 k_782 dX9_on_124 ?_
          refine j_iload C dX9_on_127 3 rfl ?_
          refine j_iload_n C dX9_on_129 rfl 1 rfl ?_
          refine j_iadd C dX9_on_130 ?_
          refine j_iconst (v := 1) C dX9_on_131 (by decide) ?_
          obtain ⟨hi2, hw⟩ := hw
          refine j_zast C ho_g2 hi2 dX9_on_132 ?_
          refine j_aload_n C dX9_on_133 rfl 0 rfl ?_
          refine j_iconst (v := 0) C dX9_on_134 (by decide) ?_
          refine j_cVI (As := [.int 0]) (st := []) C (X9_is_ok κ.2.1 G (dI D g2 (v5 + v3).toNatClampNeg (vp_nar .boolean 1)) v0 0 _ hw) ho_v0 rfl k_873 mv_X9_is ⟨by decide, by decide⟩ ⟨rfl, rfl⟩ rfl rfl (Nat.le_of_ble_eq_true rfl) ⟨Nat.zero_le _, Nat.zero_le _⟩ dX9_on_135 (fun r3 D4 hw => ?_)
          obtain ⟨hb5, hw⟩ := hw
          exact K _ _ _ _ dX9_on_138 (isB_n hb5) hw
        · have hw := hw.2 hc
          refine j_aload_n C dX9_on_117 rfl 0 rfl ?_
          refine j_iconst (v := 4) C dX9_on_118 (by decide) ?_
          refine j_cVI (As := [.int 4]) (st := []) C (X9_is_ok κ.2.1 G D v0 4 _ hw) ho_v0 rfl k_873 mv_X9_is ⟨by decide, by decide⟩ ⟨rfl, rfl⟩ rfl rfl (Nat.le_of_ble_eq_true rfl) ⟨Nat.zero_le _, Nat.zero_le _⟩ dX9_on_119 (fun r6 D7 hw => ?_)
          obtain ⟨hb8, hw⟩ := hw
          exact K _ _ _ _ dX9_on_122 (isB_n hb8) hw
      · have hw := hw.2 hc
        refine j_aload_n C dX9_on_99 rfl 0 rfl ?_
        refine j_iconst (v := 3) C dX9_on_100 (by decide) ?_
        refine j_cVI (As := [.int 3]) (st := []) C (X9_is_ok κ.2.1 G D v0 3 _ hw) ho_v0 rfl k_873 mv_X9_is ⟨by decide, by decide⟩ ⟨rfl, rfl⟩ rfl rfl (Nat.le_of_ble_eq_true rfl) ⟨Nat.zero_le _, Nat.zero_le _⟩ dX9_on_101 (fun r9 D10 hw => ?_)
        obtain ⟨hb11, hw⟩ := hw
        exact K _ _ _ _ dX9_on_104 (isB_n hb11) hw
    · have hw := hw.2 hc
      refine j_iload C dX9_on_63 2 rfl ?_
      refine j_aload_n C dX9_on_65 rfl 0 rfl ?_
      refine gf_9_18 C ho_v0 hr_g2 k_782 dX9_on_66 ?_
      refine j_iload C dX9_on_69 3 rfl ?_
      refine j_iload C dX9_on_71 4 rfl ?_
      refine j_iadd C dX9_on_73 ?_
      obtain ⟨hi12, hw⟩ := hw
      refine j_zald C ho_g2 hi12 dX9_on_74 ?_
      refine j_if_eq (tgt := 82) C dX9_on_75 (by decide) (fun hc => ?_) (fun hc => ?_)
      · have hw := hw.1 hc
        refine j_iconst (v := 0) C dX9_on_82 (by decide) ?_
        exact J.sub (X9_on_j83_ok C K ho_v0 hr_g1 ho_g1 hr_g2 ho_g2 ih v5 v6 0 v4 D hw) [0, 1, 3, 4] rfl
      · have hw := hw.2 hc
        refine j_iconst (v := 1) C dX9_on_78 (by decide) ?_
        refine j_goto (tgt := 83) C dX9_on_79 (by decide) ?_
        exact J.sub (X9_on_j83_ok C K ho_v0 hr_g1 ho_g1 hr_g2 ho_g2 ih v5 v6 1 v4 D hw) [0, 1, 3, 4] rfl
def X9_on_j34 (G : Shp) (post : Int32 → Dat → Prop) (v0 : Nat) (v1 : Int32) (v2 : Int32) (v3 : Int32) (g1 : Nat) (g2 : Nat) (D : Dat) : Prop := X9_is_wp G D v0 5 (fun r1 D2 => (isB r1 ∧ post r1 D2))
set_option maxRecDepth 100000 in
set_option maxHeartbeats 4000000 in
theorem X9_on_j34_ok {κ : Ctx} {G : Shp} {post : Int32 → Dat → Prop} {v0 : Nat} {v1 : Int32} {v2 : Int32} {v3 : Int32} {g1 : Nat} {g2 : Nat} (C : Cx κ cX9_on RX9 (rmN 1) 7) (K : RtI κ cX9_on .boolean G post) (ho_v0 : isO G v0 9) (hr_g1 : G.2.2.2 v0 14 = some g1) (ho_g1 : isO G g1 11) (hr_g2 : G.2.2.2 v0 18 = some g2) (ho_g2 : isO G g2 13) (D : Dat) (hw : X9_on_j34 G post v0 v1 v2 v3 g1 g2 D) : J κ 0 0 G D 34 [(0, .ref v0)] [] := by
  unfold X9_on_j34 at hw
  refine j_aload_n C dX9_on_34 rfl 0 rfl ?_
  refine j_iconst (v := 5) C dX9_on_35 (by decide) ?_
  refine j_cVI (As := [.int 5]) (st := []) C (X9_is_ok κ.2.1 G D v0 5 _ hw) ho_v0 rfl k_873 mv_X9_is ⟨by decide, by decide⟩ ⟨rfl, rfl⟩ rfl rfl (Nat.le_of_ble_eq_true rfl) ⟨Nat.zero_le _, Nat.zero_le _⟩ dX9_on_36 (fun r1 D2 hw => ?_)
  obtain ⟨hb3, hw⟩ := hw
  exact K _ _ _ _ dX9_on_39 (isB_n hb3) hw
def X9_on_j14 (G : Shp) (post : Int32 → Dat → Prop) (v0 : Nat) (v1 : Int32) (v2 : Int32) (v3 : Int32) (g1 : Nat) (g2 : Nat) (D : Dat) : Prop := X9_is_wp G D v0 1 (fun r1 D2 => (isB r1 ∧ post r1 D2))
set_option maxRecDepth 100000 in
set_option maxHeartbeats 4000000 in
theorem X9_on_j14_ok {κ : Ctx} {G : Shp} {post : Int32 → Dat → Prop} {v0 : Nat} {v1 : Int32} {v2 : Int32} {v3 : Int32} {g1 : Nat} {g2 : Nat} (C : Cx κ cX9_on RX9 (rmN 1) 7) (K : RtI κ cX9_on .boolean G post) (ho_v0 : isO G v0 9) (hr_g1 : G.2.2.2 v0 14 = some g1) (ho_g1 : isO G g1 11) (hr_g2 : G.2.2.2 v0 18 = some g2) (ho_g2 : isO G g2 13) (D : Dat) (hw : X9_on_j14 G post v0 v1 v2 v3 g1 g2 D) : J κ 0 0 G D 14 [(0, .ref v0)] [] := by
  unfold X9_on_j14 at hw
  refine j_aload_n C dX9_on_14 rfl 0 rfl ?_
  refine j_iconst (v := 1) C dX9_on_15 (by decide) ?_
  refine j_cVI (As := [.int 1]) (st := []) C (X9_is_ok κ.2.1 G D v0 1 _ hw) ho_v0 rfl k_873 mv_X9_is ⟨by decide, by decide⟩ ⟨rfl, rfl⟩ rfl rfl (Nat.le_of_ble_eq_true rfl) ⟨Nat.zero_le _, Nat.zero_le _⟩ dX9_on_16 (fun r1 D2 hw => ?_)
  obtain ⟨hb3, hw⟩ := hw
  exact K _ _ _ _ dX9_on_19 (isB_n hb3) hw
def X9_on_wp (G : Shp) (D : Dat) (v0 : Nat) (v1 : Int32) (v2 : Int32) (v3 : Int32) (post : Int32 → Dat → Prop) : Prop := isO G v0 9 ∧ ∃ g1, G.2.2.2 v0 14 = some g1 ∧ isO G g1 11 ∧ ∃ g2, G.2.2.2 v0 18 = some g2 ∧ isO G g2 13 ∧ X9_isRow_wp G D v1 (fun r1 D2 => ((r1 = 0 → X9_on_j14 G post v0 v1 v2 v3 g1 g2 D2) ∧ (¬ (r1 = 0) → X9_isTick_wp G D2 v3 (fun r3 D4 => ((¬ r3 = 0 → ((v2 < 0 → X9_on_j34 G post v0 v1 v2 v3 g1 g2 D4) ∧ (¬ (v2 < 0) → (vp_in v1 (G.2.2.1 g1) ∧ ((v2 < (D4.1 g1 v1.toNatClampNeg) → ∃ n, X9_on_l56 G post v0 v1 v2 v3 g1 g2 n 0 (40 * ((2 * v1) + v2)) 0 D4) ∧ (¬ (v2 < (D4.1 g1 v1.toNatClampNeg)) → X9_on_j34 G post v0 v1 v2 v3 g1 g2 D4)))))) ∧ (r3 = 0 → X9_on_j14 G post v0 v1 v2 v3 g1 g2 D4))))))
set_option maxRecDepth 100000 in
set_option maxHeartbeats 4000000 in
theorem X9_on_ok (l : Launch) (G : Shp) (D : Dat) (v0 : Nat) (v1 : Int32) (v2 : Int32) (v3 : Int32) (post : Int32 → Dat → Prop) (hw : X9_on_wp G D v0 v1 v2 v3 post) : CtI l yX9_on cX9_on 7 .boolean (rmN 1) [.ref v0, .int v1, .int v2, .int v3] G D post := by
  obtain ⟨ho_v0, g1, hr_g1, ho_g1, g2, hr_g2, ho_g2, hw⟩ := hw
  refine ctI_of (by decide) rfl (Nat.le_of_ble_eq_true rfl) ?_
  intro κ hκ C K
  subst hκ
  have C : Cx κ cX9_on RX9 (rmN 1) 7 := C
  refine j_iload_n C dX9_on_0 rfl 1 rfl ?_
  refine j_cSI (As := [.int v1]) (st := []) C (X9_isRow_ok κ.2.1 G D v1 _ hw) k_867 ms_X9_isRow ⟨by decide, by decide⟩ ⟨rfl, rfl⟩ rfl rfl (Nat.le_of_ble_eq_true rfl) ⟨Nat.zero_le _, Nat.zero_le _⟩ dX9_on_1 (fun r1 D2 hw => ?_)
  refine j_if_eq (tgt := 14) C dX9_on_4 (by decide) (fun hc => ?_) (fun hc => ?_)
  · have hw := hw.1 hc
    exact J.sub (X9_on_j14_ok C K ho_v0 hr_g1 ho_g1 hr_g2 ho_g2 D2 hw) [0] rfl
  · have hw := hw.2 hc
    refine j_iload_n C dX9_on_7 rfl 3 rfl ?_
    refine j_cSI (As := [.int v3]) (st := []) C (X9_isTick_ok κ.2.1 G D2 v3 _ hw) k_870 ms_X9_isTick ⟨by decide, by decide⟩ ⟨rfl, rfl⟩ rfl rfl (Nat.le_of_ble_eq_true rfl) ⟨Nat.zero_le _, Nat.zero_le _⟩ dX9_on_8 (fun r3 D4 hw => ?_)
    refine j_if_ne (tgt := 20) C dX9_on_11 (by decide) (fun hc => ?_) (fun hc => ?_)
    · have hw := hw.1 hc
      refine j_iload_n C dX9_on_20 rfl 2 rfl ?_
      refine j_if_lt (tgt := 34) C dX9_on_21 (by decide) (fun hc => ?_) (fun hc => ?_)
      · have hw := hw.1 hc
        exact J.sub (X9_on_j34_ok C K ho_v0 hr_g1 ho_g1 hr_g2 ho_g2 D4 hw) [0] rfl
      · have hw := hw.2 hc
        refine j_iload_n C dX9_on_24 rfl 2 rfl ?_
        refine j_aload_n C dX9_on_25 rfl 0 rfl ?_
        refine gf_9_14 C ho_v0 hr_g1 k_778 dX9_on_26 ?_
        refine j_iload_n C dX9_on_29 rfl 1 rfl ?_
        obtain ⟨hi5, hw⟩ := hw
        refine j_iald C ho_g1 hi5 dX9_on_30 ?_
        refine j_icmp_lt (tgt := 40) C dX9_on_31 (by decide) (fun hc => ?_) (fun hc => ?_)
        · have hw := hw.1 hc
          refine j_iconst (v := 0) C dX9_on_40 (by decide) ?_
          refine j_istore C dX9_on_41 (by decide) rfl ?_
          refine j_bipush (v := 40) C dX9_on_43 (by decide) ?_
          refine j_iconst (v := 2) C dX9_on_45 (by decide) ?_
          refine j_iload_n C dX9_on_46 rfl 2 rfl ?_
          refine j_imul C dX9_on_47 ?_
          refine j_iload_n C dX9_on_48 rfl 3 rfl ?_
          refine j_iadd C dX9_on_49 ?_
          refine j_imul C dX9_on_50 ?_
          refine j_istore C dX9_on_51 (by decide) rfl ?_
          refine j_iconst (v := 0) C dX9_on_53 (by decide) ?_
          refine j_istore C dX9_on_54 (by decide) rfl ?_
          obtain ⟨n, hw⟩ := hw
          exact J.sub (X9_on_l56_ok C K ho_v0 hr_g1 ho_g1 hr_g2 ho_g2 n 0 (40 * ((2 * v1) + v2)) 0 D4 hw) [3, 6, 2, 1, 0] rfl
        · have hw := hw.2 hc
          exact J.sub (X9_on_j34_ok C K ho_v0 hr_g1 ho_g1 hr_g2 ho_g2 D4 hw) [0] rfl
    · have hw := hw.2 hc
      exact J.sub (X9_on_j14_ok C K ho_v0 hr_g1 ho_g1 hr_g2 ho_g2 D4 hw) [0] rfl
/-! X9_plain -/
def X9_plain_wp (G : Shp) (D : Dat) (v0 : Nat) (v1 : Int32) (post : Int32 → Dat → Prop) : Prop := isO G v0 9 ∧ ∃ g1, G.2.2.2 v0 12 = some g1 ∧ isO G g1 11 ∧ ∃ g2, G.2.2.2 v0 14 = some g2 ∧ isO G g2 11 ∧ X9_isRow_wp G D v1 (fun r1 D2 => ((¬ r1 = 0 → (vp_in v1 (G.2.2.1 g1) ∧ vp_in v1 (G.2.2.1 g2) ∧ X9_is_wp G (dI (dI D2 g1 v1.toNatClampNeg 0) g2 v1.toNatClampNeg 0) v0 0 (fun r5 D6 => (isB r5 ∧ post r5 D6)))) ∧ (r1 = 0 → X9_is_wp G D2 v0 1 (fun r8 D9 => (isB r8 ∧ post r8 D9)))))
set_option maxRecDepth 100000 in
set_option maxHeartbeats 4000000 in
theorem X9_plain_ok (l : Launch) (G : Shp) (D : Dat) (v0 : Nat) (v1 : Int32) (post : Int32 → Dat → Prop) (hw : X9_plain_wp G D v0 v1 post) : CtI l yX9_plain cX9_plain 2 .boolean (rmN 1) [.ref v0, .int v1] G D post := by
  obtain ⟨ho_v0, g1, hr_g1, ho_g1, g2, hr_g2, ho_g2, hw⟩ := hw
  refine ctI_of (by decide) rfl (Nat.le_of_ble_eq_true rfl) ?_
  intro κ hκ C K
  subst hκ
  have C : Cx κ cX9_plain RX9 (rmN 1) 2 := C
  refine j_iload_n C dX9_plain_0 rfl 1 rfl ?_
  refine j_cSI (As := [.int v1]) (st := []) C (X9_isRow_ok κ.2.1 G D v1 _ hw) k_867 ms_X9_isRow ⟨by decide, by decide⟩ ⟨rfl, rfl⟩ rfl rfl (Nat.le_of_ble_eq_true rfl) ⟨Nat.zero_le _, Nat.zero_le _⟩ dX9_plain_1 (fun r1 D2 hw => ?_)
  refine j_if_ne (tgt := 13) C dX9_plain_4 (by decide) (fun hc => ?_) (fun hc => ?_)
  · have hw := hw.1 hc
    refine j_aload_n C dX9_plain_13 rfl 0 rfl ?_
    refine gf_9_12 C ho_v0 hr_g1 k_776 dX9_plain_14 ?_
    refine j_iload_n C dX9_plain_17 rfl 1 rfl ?_
    refine j_iconst (v := 0) C dX9_plain_18 (by decide) ?_
    obtain ⟨hi3, hw⟩ := hw
    refine j_iast C ho_g1 hi3 dX9_plain_19 ?_
    refine j_aload_n C dX9_plain_20 rfl 0 rfl ?_
    refine gf_9_14 C ho_v0 hr_g2 k_778 dX9_plain_21 ?_
    refine j_iload_n C dX9_plain_24 rfl 1 rfl ?_
    refine j_iconst (v := 0) C dX9_plain_25 (by decide) ?_
    obtain ⟨hi4, hw⟩ := hw
    refine j_iast C ho_g2 hi4 dX9_plain_26 ?_
    refine j_aload_n C dX9_plain_27 rfl 0 rfl ?_
    refine j_iconst (v := 0) C dX9_plain_28 (by decide) ?_
    refine j_cVI (As := [.int 0]) (st := []) C (X9_is_ok κ.2.1 G (dI (dI D2 g1 v1.toNatClampNeg 0) g2 v1.toNatClampNeg 0) v0 0 _ hw) ho_v0 rfl k_873 mv_X9_is ⟨by decide, by decide⟩ ⟨rfl, rfl⟩ rfl rfl (Nat.le_of_ble_eq_true rfl) ⟨Nat.zero_le _, Nat.zero_le _⟩ dX9_plain_29 (fun r5 D6 hw => ?_)
    obtain ⟨hb7, hw⟩ := hw
    exact K _ _ _ _ dX9_plain_32 (isB_n hb7) hw
  · have hw := hw.2 hc
    refine j_aload_n C dX9_plain_7 rfl 0 rfl ?_
    refine j_iconst (v := 1) C dX9_plain_8 (by decide) ?_
    refine j_cVI (As := [.int 1]) (st := []) C (X9_is_ok κ.2.1 G D2 v0 1 _ hw) ho_v0 rfl k_873 mv_X9_is ⟨by decide, by decide⟩ ⟨rfl, rfl⟩ rfl rfl (Nat.le_of_ble_eq_true rfl) ⟨Nat.zero_le _, Nat.zero_le _⟩ dX9_plain_9 (fun r8 D9 hw => ?_)
    obtain ⟨hb10, hw⟩ := hw
    exact K _ _ _ _ dX9_plain_12 (isB_n hb10) hw
/-! X9_put -/
def X9_put_j14 (G : Shp) (post : Int32 → Dat → Prop) (v0 : Nat) (v1 : Int32) (v2 : Int32) (v3 : Int32) (g1 : Nat) (g2 : Nat) (D : Dat) : Prop := X9_is_wp G D v0 1 (fun r1 D2 => (isB r1 ∧ post r1 D2))
set_option maxRecDepth 100000 in
set_option maxHeartbeats 4000000 in
theorem X9_put_j14_ok {κ : Ctx} {G : Shp} {post : Int32 → Dat → Prop} {v0 : Nat} {v1 : Int32} {v2 : Int32} {v3 : Int32} {g1 : Nat} {g2 : Nat} (C : Cx κ cX9_put RX9 (rmN 1) 4) (K : RtI κ cX9_put .boolean G post) (ho_v0 : isO G v0 9) (hr_g1 : G.2.2.2 v0 10 = some g1) (ho_g1 : isO G g1 11) (hr_g2 : G.2.2.2 v0 15 = some g2) (ho_g2 : isO G g2 13) (D : Dat) (hw : X9_put_j14 G post v0 v1 v2 v3 g1 g2 D) : J κ 0 0 G D 14 [(0, .ref v0)] [] := by
  unfold X9_put_j14 at hw
  refine j_aload_n C dX9_put_14 rfl 0 rfl ?_
  refine j_iconst (v := 1) C dX9_put_15 (by decide) ?_
  refine j_cVI (As := [.int 1]) (st := []) C (X9_is_ok κ.2.1 G D v0 1 _ hw) ho_v0 rfl k_873 mv_X9_is ⟨by decide, by decide⟩ ⟨rfl, rfl⟩ rfl rfl (Nat.le_of_ble_eq_true rfl) ⟨Nat.zero_le _, Nat.zero_le _⟩ dX9_put_16 (fun r1 D2 hw => ?_)
  obtain ⟨hb3, hw⟩ := hw
  exact K _ _ _ _ dX9_put_19 (isB_n hb3) hw
def X9_put_wp (G : Shp) (D : Dat) (v0 : Nat) (v1 : Int32) (v2 : Int32) (v3 : Int32) (post : Int32 → Dat → Prop) : Prop := isO G v0 9 ∧ ∃ g1, G.2.2.2 v0 10 = some g1 ∧ isO G g1 11 ∧ ∃ g2, G.2.2.2 v0 15 = some g2 ∧ isO G g2 13 ∧ X9_isRow_wp G D v1 (fun r1 D2 => ((r1 = 0 → X9_put_j14 G post v0 v1 v2 v3 g1 g2 D2) ∧ (¬ (r1 = 0) → X9_isTick_wp G D2 v2 (fun r3 D4 => ((¬ r3 = 0 → X9_isNumber_wp G D4 v3.toInt64 (fun r5 D6 => ((¬ r5 = 0 → X9_spot_wp G D6 v1 v2 (fun r7 D8 => (vp_in r7 (G.2.2.1 g1) ∧ X9_spot_wp G (dI D8 g1 r7.toNatClampNeg v3) v1 v2 (fun r10 D11 => (vp_in r10 (G.2.2.1 g2) ∧ X9_is_wp G (dI D11 g2 r10.toNatClampNeg (vp_nar .boolean 1)) v0 0 (fun r13 D14 => (isB r13 ∧ post r13 D14))))))) ∧ (r5 = 0 → X9_is_wp G D6 v0 2 (fun r16 D17 => (isB r16 ∧ post r16 D17)))))) ∧ (r3 = 0 → X9_put_j14 G post v0 v1 v2 v3 g1 g2 D4))))))
set_option maxRecDepth 100000 in
set_option maxHeartbeats 4000000 in
theorem X9_put_ok (l : Launch) (G : Shp) (D : Dat) (v0 : Nat) (v1 : Int32) (v2 : Int32) (v3 : Int32) (post : Int32 → Dat → Prop) (hw : X9_put_wp G D v0 v1 v2 v3 post) : CtI l yX9_put cX9_put 4 .boolean (rmN 1) [.ref v0, .int v1, .int v2, .int v3] G D post := by
  obtain ⟨ho_v0, g1, hr_g1, ho_g1, g2, hr_g2, ho_g2, hw⟩ := hw
  refine ctI_of (by decide) rfl (Nat.le_of_ble_eq_true rfl) ?_
  intro κ hκ C K
  subst hκ
  have C : Cx κ cX9_put RX9 (rmN 1) 4 := C
  refine j_iload_n C dX9_put_0 rfl 1 rfl ?_
  refine j_cSI (As := [.int v1]) (st := []) C (X9_isRow_ok κ.2.1 G D v1 _ hw) k_867 ms_X9_isRow ⟨by decide, by decide⟩ ⟨rfl, rfl⟩ rfl rfl (Nat.le_of_ble_eq_true rfl) ⟨Nat.zero_le _, Nat.zero_le _⟩ dX9_put_1 (fun r1 D2 hw => ?_)
  refine j_if_eq (tgt := 14) C dX9_put_4 (by decide) (fun hc => ?_) (fun hc => ?_)
  · have hw := hw.1 hc
    exact J.sub (X9_put_j14_ok C K ho_v0 hr_g1 ho_g1 hr_g2 ho_g2 D2 hw) [0] rfl
  · have hw := hw.2 hc
    refine j_iload_n C dX9_put_7 rfl 2 rfl ?_
    refine j_cSI (As := [.int v2]) (st := []) C (X9_isTick_ok κ.2.1 G D2 v2 _ hw) k_870 ms_X9_isTick ⟨by decide, by decide⟩ ⟨rfl, rfl⟩ rfl rfl (Nat.le_of_ble_eq_true rfl) ⟨Nat.zero_le _, Nat.zero_le _⟩ dX9_put_8 (fun r3 D4 hw => ?_)
    refine j_if_ne (tgt := 20) C dX9_put_11 (by decide) (fun hc => ?_) (fun hc => ?_)
    · have hw := hw.1 hc
      refine j_iload_n C dX9_put_20 rfl 3 rfl ?_
      refine j_i2l C dX9_put_21 ?_
      refine j_cSI (As := [.long v3.toInt64]) (st := []) C (X9_isNumber_ok κ.2.1 G D4 v3.toInt64 _ hw) k_877 ms_X9_isNumber ⟨by decide, by decide⟩ ⟨rfl, rfl⟩ rfl rfl (Nat.le_of_ble_eq_true rfl) ⟨Nat.zero_le _, Nat.zero_le _⟩ dX9_put_22 (fun r5 D6 hw => ?_)
      refine j_if_ne (tgt := 34) C dX9_put_25 (by decide) (fun hc => ?_) (fun hc => ?_)
      · have hw := hw.1 hc
        refine j_aload_n C dX9_put_34 rfl 0 rfl ?_
        refine gf_9_10 C ho_v0 hr_g1 k_774 dX9_put_35 ?_
        refine j_iload_n C dX9_put_38 rfl 1 rfl ?_
        refine j_iload_n C dX9_put_39 rfl 2 rfl ?_
        refine j_cSI (As := [.int v1, .int v2]) (st := [.ref g1]) C (X9_spot_ok κ.2.1 G D6 v1 v2 _ hw) k_882 ms_X9_spot ⟨by decide, by decide⟩ ⟨rfl, rfl⟩ rfl rfl (Nat.le_of_ble_eq_true rfl) ⟨Nat.zero_le _, Nat.zero_le _⟩ dX9_put_40 (fun r7 D8 hw => ?_)
        refine j_iload_n C dX9_put_43 rfl 3 rfl ?_
        obtain ⟨hi9, hw⟩ := hw
        refine j_iast C ho_g1 hi9 dX9_put_44 ?_
        refine j_aload_n C dX9_put_45 rfl 0 rfl ?_
        refine gf_9_15 C ho_v0 hr_g2 k_779 dX9_put_46 ?_
        refine j_iload_n C dX9_put_49 rfl 1 rfl ?_
        refine j_iload_n C dX9_put_50 rfl 2 rfl ?_
        refine j_cSI (As := [.int v1, .int v2]) (st := [.ref g2]) C (X9_spot_ok κ.2.1 G (dI D8 g1 r7.toNatClampNeg v3) v1 v2 _ hw) k_882 ms_X9_spot ⟨by decide, by decide⟩ ⟨rfl, rfl⟩ rfl rfl (Nat.le_of_ble_eq_true rfl) ⟨Nat.zero_le _, Nat.zero_le _⟩ dX9_put_51 (fun r10 D11 hw => ?_)
        refine j_iconst (v := 1) C dX9_put_54 (by decide) ?_
        obtain ⟨hi12, hw⟩ := hw
        refine j_zast C ho_g2 hi12 dX9_put_55 ?_
        refine j_aload_n C dX9_put_56 rfl 0 rfl ?_
        refine j_iconst (v := 0) C dX9_put_57 (by decide) ?_
        refine j_cVI (As := [.int 0]) (st := []) C (X9_is_ok κ.2.1 G (dI D11 g2 r10.toNatClampNeg (vp_nar .boolean 1)) v0 0 _ hw) ho_v0 rfl k_873 mv_X9_is ⟨by decide, by decide⟩ ⟨rfl, rfl⟩ rfl rfl (Nat.le_of_ble_eq_true rfl) ⟨Nat.zero_le _, Nat.zero_le _⟩ dX9_put_58 (fun r13 D14 hw => ?_)
        obtain ⟨hb15, hw⟩ := hw
        exact K _ _ _ _ dX9_put_61 (isB_n hb15) hw
      · have hw := hw.2 hc
        refine j_aload_n C dX9_put_28 rfl 0 rfl ?_
        refine j_iconst (v := 2) C dX9_put_29 (by decide) ?_
        refine j_cVI (As := [.int 2]) (st := []) C (X9_is_ok κ.2.1 G D6 v0 2 _ hw) ho_v0 rfl k_873 mv_X9_is ⟨by decide, by decide⟩ ⟨rfl, rfl⟩ rfl rfl (Nat.le_of_ble_eq_true rfl) ⟨Nat.zero_le _, Nat.zero_le _⟩ dX9_put_30 (fun r16 D17 hw => ?_)
        obtain ⟨hb18, hw⟩ := hw
        exact K _ _ _ _ dX9_put_33 (isB_n hb18) hw
    · have hw := hw.2 hc
      exact J.sub (X9_put_j14_ok C K ho_v0 hr_g1 ho_g1 hr_g2 ho_g2 D4 hw) [0] rfl
/-! X9_putOff -/
def X9_putOff_l16_b (G : Shp) (post : Dat → Prop) (v0 : Nat) (v1 : Int32) (v2 : Int32) (g1 : Nat) (rec : Int32 → Int32 → Dat → Prop) (v3 : Int32) (v4 : Int32) (D : Dat) : Prop := ((v3 < v4 → post D) ∧ (¬ (v3 < v4) → (vp_in (v2 + v4) (G.2.2.1 g1) ∧ vp_in (v1 + v4) (G.2.2.1 g1) ∧ rec v3 (v4 + 1) (dI D g1 (v1 + v4).toNatClampNeg (D.1 g1 (v2 + v4).toNatClampNeg)))))
def X9_putOff_l16 (G : Shp) (post : Dat → Prop) (v0 : Nat) (v1 : Int32) (v2 : Int32) (g1 : Nat) : Nat → Int32 → Int32 → Dat → Prop
  | 0 => fun _ _ _ => False
  | n + 1 => X9_putOff_l16_b G post v0 v1 v2 g1 (X9_putOff_l16 G post v0 v1 v2 g1 n)
set_option maxRecDepth 100000 in
set_option maxHeartbeats 4000000 in
theorem X9_putOff_l16_ok {κ : Ctx} {G : Shp} {post : Dat → Prop} {v0 : Nat} {v1 : Int32} {v2 : Int32} {g1 : Nat} (C : Cx κ cX9_putOff RX9 (rmN 1) 5) (K : RtV κ cX9_putOff G post) (ho_v0 : isO G v0 9) (hr_g1 : G.2.2.2 v0 1 = some g1) (ho_g1 : isO G g1 11) : ∀ (n : Nat) (v3 : Int32) (v4 : Int32) (D : Dat), X9_putOff_l16 G post v0 v1 v2 g1 n v3 v4 D → J κ 0 0 G D 16 [(0, .ref v0), (1, .int v1), (2, .int v2), (3, .int v3), (4, .int v4)] [] := by
  intro n
  induction n with
  | zero => intro v3 v4 D hw; exact hw.elim
  | succ n ih =>
    intro v3 v4 D hw
    have hw : X9_putOff_l16_b G post v0 v1 v2 g1 (X9_putOff_l16 G post v0 v1 v2 g1 n) v3 v4 D := hw
    unfold X9_putOff_l16_b at hw
    refine j_iload C dX9_putOff_16 4 rfl ?_
    refine j_iload_n C dX9_putOff_18 rfl 3 rfl ?_
    refine j_icmp_gt (tgt := 46) C dX9_putOff_19 (by decide) (fun hc => ?_) (fun hc => ?_)
    · have hw := hw.1 hc
      exact K _ _ _ dX9_putOff_46 hw
    · have hw := hw.2 hc
      refine j_aload_n C dX9_putOff_22 rfl 0 rfl ?_
      refine gf_9_1 C ho_v0 hr_g1 k_765 dX9_putOff_23 ?_
      refine j_iload_n C dX9_putOff_26 rfl 1 rfl ?_
      refine j_iload C dX9_putOff_27 4 rfl ?_
      refine j_iadd C dX9_putOff_29 ?_
      refine j_aload_n C dX9_putOff_30 rfl 0 rfl ?_
      refine gf_9_1 C ho_v0 hr_g1 k_765 dX9_putOff_31 ?_
      refine j_iload_n C dX9_putOff_34 rfl 2 rfl ?_
      refine j_iload C dX9_putOff_35 4 rfl ?_
      refine j_iadd C dX9_putOff_37 ?_
      obtain ⟨hi1, hw⟩ := hw
      refine j_iald C ho_g1 hi1 dX9_putOff_38 ?_
      obtain ⟨hi2, hw⟩ := hw
      refine j_iast C ho_g1 hi2 dX9_putOff_39 ?_
      refine j_iinc (v := v4 + 1) C dX9_putOff_40 4 rfl rfl (by decide) rfl ?_
      refine j_goto (tgt := 16) C dX9_putOff_43 (by decide) ?_
      exact J.sub (ih v3 (v4 + 1) (dI D g1 (v1 + v4).toNatClampNeg (D.1 g1 (v2 + v4).toNatClampNeg)) hw) [1, 2, 3, 4, 0] rfl
def X9_putOff_wp (G : Shp) (D : Dat) (v0 : Nat) (v1 : Int32) (v2 : Int32) (post : Dat → Prop) : Prop := isO G v0 9 ∧ ∃ g1, G.2.2.2 v0 1 = some g1 ∧ isO G g1 11 ∧ X9_size_wp G D v0 v2 (fun r1 D2 => (vp_in v1 (G.2.2.1 g1) ∧ ∃ n, X9_putOff_l16 G post v0 v1 v2 g1 n r1 1 (dI D2 g1 v1.toNatClampNeg r1)))
set_option maxRecDepth 100000 in
set_option maxHeartbeats 4000000 in
theorem X9_putOff_ok (l : Launch) (G : Shp) (D : Dat) (v0 : Nat) (v1 : Int32) (v2 : Int32) (post : Dat → Prop) (hw : X9_putOff_wp G D v0 v1 v2 post) : CtV l yX9_putOff cX9_putOff 5 (rmN 1) [.ref v0, .int v1, .int v2] G D post := by
  obtain ⟨ho_v0, g1, hr_g1, ho_g1, hw⟩ := hw
  refine ctV_of (by decide) rfl (Nat.le_of_ble_eq_true rfl) ?_
  intro κ hκ C K
  subst hκ
  have C : Cx κ cX9_putOff RX9 (rmN 1) 5 := C
  refine j_aload_n C dX9_putOff_0 rfl 0 rfl ?_
  refine j_iload_n C dX9_putOff_1 rfl 2 rfl ?_
  refine j_cVI (As := [.int v2]) (st := []) C (X9_size_ok κ.2.1 G D v0 v2 _ hw) ho_v0 rfl k_998 mv_X9_size ⟨by decide, by decide⟩ ⟨rfl, rfl⟩ rfl rfl (Nat.le_of_ble_eq_true rfl) ⟨Nat.zero_le _, Nat.zero_le _⟩ dX9_putOff_2 (fun r1 D2 hw => ?_)
  refine j_istore_n C dX9_putOff_5 rfl (by decide) rfl ?_
  refine j_aload_n C dX9_putOff_6 rfl 1 rfl ?_
  refine gf_9_1 C ho_v0 hr_g1 k_765 dX9_putOff_7 ?_
  refine j_iload_n C dX9_putOff_10 rfl 2 rfl ?_
  refine j_iload_n C dX9_putOff_11 rfl 0 rfl ?_
  obtain ⟨hi3, hw⟩ := hw
  refine j_iast C ho_g1 hi3 dX9_putOff_12 ?_
  refine j_iconst (v := 1) C dX9_putOff_13 (by decide) ?_
  refine j_istore C dX9_putOff_14 (by decide) rfl ?_
  obtain ⟨n, hw⟩ := hw
  exact J.sub (X9_putOff_l16_ok C K ho_v0 hr_g1 ho_g1 n r1 1 (dI D2 g1 v1.toNatClampNeg r1) hw) [2, 3, 4, 1, 0] rfl
/-! X9_step -/
def X9_step_j14 (G : Shp) (post : Int32 → Dat → Prop) (v0 : Nat) (v1 : Int32) (v2 : Int32) (g1 : Nat) (D : Dat) : Prop := X9_is_wp G D v0 1 (fun r1 D2 => (isB r1 ∧ post r1 D2))
set_option maxRecDepth 100000 in
set_option maxHeartbeats 4000000 in
theorem X9_step_j14_ok {κ : Ctx} {G : Shp} {post : Int32 → Dat → Prop} {v0 : Nat} {v1 : Int32} {v2 : Int32} {g1 : Nat} (C : Cx κ cX9_step RX9 (rmN 1) 3) (K : RtI κ cX9_step .boolean G post) (ho_v0 : isO G v0 9) (hr_g1 : G.2.2.2 v0 12 = some g1) (ho_g1 : isO G g1 11) (D : Dat) (hw : X9_step_j14 G post v0 v1 v2 g1 D) : J κ 0 0 G D 14 [(0, .ref v0)] [] := by
  unfold X9_step_j14 at hw
  refine j_aload_n C dX9_step_14 rfl 0 rfl ?_
  refine j_iconst (v := 1) C dX9_step_15 (by decide) ?_
  refine j_cVI (As := [.int 1]) (st := []) C (X9_is_ok κ.2.1 G D v0 1 _ hw) ho_v0 rfl k_873 mv_X9_is ⟨by decide, by decide⟩ ⟨rfl, rfl⟩ rfl rfl (Nat.le_of_ble_eq_true rfl) ⟨Nat.zero_le _, Nat.zero_le _⟩ dX9_step_16 (fun r1 D2 hw => ?_)
  obtain ⟨hb3, hw⟩ := hw
  exact K _ _ _ _ dX9_step_19 (isB_n hb3) hw
def X9_step_wp (G : Shp) (D : Dat) (v0 : Nat) (v1 : Int32) (v2 : Int32) (post : Int32 → Dat → Prop) : Prop := isO G v0 9 ∧ ∃ g1, G.2.2.2 v0 12 = some g1 ∧ isO G g1 11 ∧ X9_isRow_wp G D v1 (fun r1 D2 => ((r1 = 0 → X9_step_j14 G post v0 v1 v2 g1 D2) ∧ (¬ (r1 = 0) → X9_isTick_wp G D2 v2 (fun r3 D4 => ((¬ r3 = 0 → ((¬ v2 = 0 → (vp_in v1 (G.2.2.1 g1) ∧ ((¬ (D4.1 g1 v1.toNatClampNeg) = 3 → X9_findStep_wp G D4 v0 v1 v2 (fun r6 D7 => ((r6 = (-1) → X9_addStep_wp G D7 v0 v1 v2 (fun D9 => X9_is_wp G D9 v0 0 (fun r10 D11 => (isB r10 ∧ post r10 D11)))) ∧ (¬ (r6 = (-1)) → X9_is_wp G D7 v0 4 (fun r13 D14 => (isB r13 ∧ post r13 D14)))))) ∧ ((D4.1 g1 v1.toNatClampNeg) = 3 → X9_is_wp G D4 v0 3 (fun r16 D17 => (isB r16 ∧ post r16 D17)))))) ∧ (v2 = 0 → X9_is_wp G D4 v0 2 (fun r19 D20 => (isB r19 ∧ post r19 D20))))) ∧ (r3 = 0 → X9_step_j14 G post v0 v1 v2 g1 D4))))))
set_option maxRecDepth 100000 in
set_option maxHeartbeats 4000000 in
theorem X9_step_ok (l : Launch) (G : Shp) (D : Dat) (v0 : Nat) (v1 : Int32) (v2 : Int32) (post : Int32 → Dat → Prop) (hw : X9_step_wp G D v0 v1 v2 post) : CtI l yX9_step cX9_step 3 .boolean (rmN 1) [.ref v0, .int v1, .int v2] G D post := by
  obtain ⟨ho_v0, g1, hr_g1, ho_g1, hw⟩ := hw
  refine ctI_of (by decide) rfl (Nat.le_of_ble_eq_true rfl) ?_
  intro κ hκ C K
  subst hκ
  have C : Cx κ cX9_step RX9 (rmN 1) 3 := C
  refine j_iload_n C dX9_step_0 rfl 1 rfl ?_
  refine j_cSI (As := [.int v1]) (st := []) C (X9_isRow_ok κ.2.1 G D v1 _ hw) k_867 ms_X9_isRow ⟨by decide, by decide⟩ ⟨rfl, rfl⟩ rfl rfl (Nat.le_of_ble_eq_true rfl) ⟨Nat.zero_le _, Nat.zero_le _⟩ dX9_step_1 (fun r1 D2 hw => ?_)
  refine j_if_eq (tgt := 14) C dX9_step_4 (by decide) (fun hc => ?_) (fun hc => ?_)
  · have hw := hw.1 hc
    exact J.sub (X9_step_j14_ok C K ho_v0 hr_g1 ho_g1 D2 hw) [0] rfl
  · have hw := hw.2 hc
    refine j_iload_n C dX9_step_7 rfl 2 rfl ?_
    refine j_cSI (As := [.int v2]) (st := []) C (X9_isTick_ok κ.2.1 G D2 v2 _ hw) k_870 ms_X9_isTick ⟨by decide, by decide⟩ ⟨rfl, rfl⟩ rfl rfl (Nat.le_of_ble_eq_true rfl) ⟨Nat.zero_le _, Nat.zero_le _⟩ dX9_step_8 (fun r3 D4 hw => ?_)
    refine j_if_ne (tgt := 20) C dX9_step_11 (by decide) (fun hc => ?_) (fun hc => ?_)
    · have hw := hw.1 hc
      refine j_iload_n C dX9_step_20 rfl 2 rfl ?_
      refine j_if_ne (tgt := 30) C dX9_step_21 (by decide) (fun hc => ?_) (fun hc => ?_)
      · have hw := hw.1 hc
        refine j_aload_n C dX9_step_30 rfl 0 rfl ?_
        refine gf_9_12 C ho_v0 hr_g1 k_776 dX9_step_31 ?_
        refine j_iload_n C dX9_step_34 rfl 1 rfl ?_
        obtain ⟨hi5, hw⟩ := hw
        refine j_iald C ho_g1 hi5 dX9_step_35 ?_
        refine j_iconst (v := 3) C dX9_step_36 (by decide) ?_
        refine j_icmp_ne (tgt := 46) C dX9_step_37 (by decide) (fun hc => ?_) (fun hc => ?_)
        · have hw := hw.1 hc
          refine j_aload_n C dX9_step_46 rfl 0 rfl ?_
          refine j_iload_n C dX9_step_47 rfl 1 rfl ?_
          refine j_iload_n C dX9_step_48 rfl 2 rfl ?_
          refine j_cVI (As := [.int v1, .int v2]) (st := []) C (X9_findStep_ok κ.2.1 G D4 v0 v1 v2 _ hw) ho_v0 rfl k_917 mv_X9_findStep ⟨by decide, by decide⟩ ⟨rfl, rfl⟩ rfl rfl (Nat.le_of_ble_eq_true rfl) ⟨Nat.zero_le _, Nat.zero_le _⟩ dX9_step_49 (fun r6 D7 hw => ?_)
          refine j_iconst (v := (-1)) C dX9_step_52 (by decide) ?_
          refine j_icmp_eq (tgt := 62) C dX9_step_53 (by decide) (fun hc => ?_) (fun hc => ?_)
          · have hw := hw.1 hc
            refine j_aload_n C dX9_step_62 rfl 0 rfl ?_
            refine j_iload_n C dX9_step_63 rfl 1 rfl ?_
            refine j_iload_n C dX9_step_64 rfl 2 rfl ?_
            refine j_cVV (As := [.int v1, .int v2]) (st := []) C (X9_addStep_ok κ.2.1 G D7 v0 v1 v2 _ hw) ho_v0 rfl k_921 mv_X9_addStep ⟨by decide, by decide⟩ ⟨rfl, rfl⟩ rfl rfl (Nat.le_of_ble_eq_true rfl) ⟨Nat.zero_le _, Nat.zero_le _⟩ dX9_step_65 (fun D9 hw => ?_)
            refine j_aload_n C dX9_step_68 rfl 0 rfl ?_
            refine j_iconst (v := 0) C dX9_step_69 (by decide) ?_
            refine j_cVI (As := [.int 0]) (st := []) C (X9_is_ok κ.2.1 G D9 v0 0 _ hw) ho_v0 rfl k_873 mv_X9_is ⟨by decide, by decide⟩ ⟨rfl, rfl⟩ rfl rfl (Nat.le_of_ble_eq_true rfl) ⟨Nat.zero_le _, Nat.zero_le _⟩ dX9_step_70 (fun r10 D11 hw => ?_)
            obtain ⟨hb12, hw⟩ := hw
            exact K _ _ _ _ dX9_step_73 (isB_n hb12) hw
          · have hw := hw.2 hc
            refine j_aload_n C dX9_step_56 rfl 0 rfl ?_
            refine j_iconst (v := 4) C dX9_step_57 (by decide) ?_
            refine j_cVI (As := [.int 4]) (st := []) C (X9_is_ok κ.2.1 G D7 v0 4 _ hw) ho_v0 rfl k_873 mv_X9_is ⟨by decide, by decide⟩ ⟨rfl, rfl⟩ rfl rfl (Nat.le_of_ble_eq_true rfl) ⟨Nat.zero_le _, Nat.zero_le _⟩ dX9_step_58 (fun r13 D14 hw => ?_)
            obtain ⟨hb15, hw⟩ := hw
            exact K _ _ _ _ dX9_step_61 (isB_n hb15) hw
        · have hw := hw.2 hc
          refine j_aload_n C dX9_step_40 rfl 0 rfl ?_
          refine j_iconst (v := 3) C dX9_step_41 (by decide) ?_
          refine j_cVI (As := [.int 3]) (st := []) C (X9_is_ok κ.2.1 G D4 v0 3 _ hw) ho_v0 rfl k_873 mv_X9_is ⟨by decide, by decide⟩ ⟨rfl, rfl⟩ rfl rfl (Nat.le_of_ble_eq_true rfl) ⟨Nat.zero_le _, Nat.zero_le _⟩ dX9_step_42 (fun r16 D17 hw => ?_)
          obtain ⟨hb18, hw⟩ := hw
          exact K _ _ _ _ dX9_step_45 (isB_n hb18) hw
      · have hw := hw.2 hc
        refine j_aload_n C dX9_step_24 rfl 0 rfl ?_
        refine j_iconst (v := 2) C dX9_step_25 (by decide) ?_
        refine j_cVI (As := [.int 2]) (st := []) C (X9_is_ok κ.2.1 G D4 v0 2 _ hw) ho_v0 rfl k_873 mv_X9_is ⟨by decide, by decide⟩ ⟨rfl, rfl⟩ rfl rfl (Nat.le_of_ble_eq_true rfl) ⟨Nat.zero_le _, Nat.zero_le _⟩ dX9_step_26 (fun r19 D20 hw => ?_)
        obtain ⟨hb21, hw⟩ := hw
        exact K _ _ _ _ dX9_step_29 (isB_n hb21) hw
    · have hw := hw.2 hc
      exact J.sub (X9_step_j14_ok C K ho_v0 hr_g1 ho_g1 D4 hw) [0] rfl
/-! X9_stepOff -/
def X9_stepOff_l176_b (G : Shp) (post : Int32 → Dat → Prop) (v0 : Nat) (v1 : Int32) (v2 : Int32) (g1 : Nat) (g2 : Nat) (k157 : Int64 → Int64 → Dat → Prop) (rec : Int64 → Int64 → Int64 → Int32 → Dat → Prop) (v5 : Int64) (v11 : Int64) (v13 : Int64) (v15 : Int32) (D : Dat) : Prop := ((v2 ≤ v15 → k157 v5 (v11 + v13) D) ∧ (¬ (v2 ≤ v15) → (vp_in (v1 + v15) (G.2.2.1 g1) ∧ vp_in v15 (G.2.2.1 g2) ∧ vp_in (v1 + v15) (G.2.2.1 g1) ∧ rec v5 v11 (((v13 + (((D.1 g1 (v1 + v15).toNatClampNeg).toInt64) + ((D.1 g2 v15.toNatClampNeg).toInt64))).toUInt64 >>> ((30 : Int32).toInt64.toUInt64 &&& Int64.toUInt64 63)).toInt64) (v15 + 1) (dI D g1 (v1 + v15).toNatClampNeg (((v13 + (((D.1 g1 (v1 + v15).toNatClampNeg).toInt64) + ((D.1 g2 v15.toNatClampNeg).toInt64))) &&& 1073741823).toInt32)))))
def X9_stepOff_l176 (G : Shp) (post : Int32 → Dat → Prop) (v0 : Nat) (v1 : Int32) (v2 : Int32) (g1 : Nat) (g2 : Nat) (k157 : Int64 → Int64 → Dat → Prop) : Nat → Int64 → Int64 → Int64 → Int32 → Dat → Prop
  | 0 => fun _ _ _ _ _ => False
  | n + 1 => X9_stepOff_l176_b G post v0 v1 v2 g1 g2 k157 (X9_stepOff_l176 G post v0 v1 v2 g1 g2 k157 n)
set_option maxRecDepth 100000 in
set_option maxHeartbeats 4000000 in
theorem X9_stepOff_l176_ok {κ : Ctx} {G : Shp} {post : Int32 → Dat → Prop} {v0 : Nat} {v1 : Int32} {v2 : Int32} {g1 : Nat} {g2 : Nat} (C : Cx κ cX9_stepOff RX9 (rmN 1) 16) (K : RtI κ cX9_stepOff .int G post) (ho_v0 : isO G v0 9) (hr_g1 : G.2.2.2 v0 3 = some g1) (ho_g1 : isO G g1 11) (hr_g2 : G.2.2.2 v0 4 = some g2) (ho_g2 : isO G g2 11) {k157 : Int64 → Int64 → Dat → Prop} (hk157 : ∀ (v5 : Int64) (v11 : Int64) (D : Dat), k157 v5 v11 D → J κ 0 0 G D 157 [(0, .ref v0), (1, .int v1), (2, .int v2), (5, .long v5), (11, .long v11)] []) : ∀ (n : Nat) (v5 : Int64) (v11 : Int64) (v13 : Int64) (v15 : Int32) (D : Dat), X9_stepOff_l176 G post v0 v1 v2 g1 g2 k157 n v5 v11 v13 v15 D → J κ 0 0 G D 176 [(0, .ref v0), (1, .int v1), (2, .int v2), (5, .long v5), (11, .long v11), (13, .long v13), (15, .int v15)] [] := by
  intro n
  induction n with
  | zero => intro v5 v11 v13 v15 D hw; exact hw.elim
  | succ n ih =>
    intro v5 v11 v13 v15 D hw
    have hw : X9_stepOff_l176_b G post v0 v1 v2 g1 g2 k157 (X9_stepOff_l176 G post v0 v1 v2 g1 g2 k157 n) v5 v11 v13 v15 D := hw
    unfold X9_stepOff_l176_b at hw
    refine j_iload C dX9_stepOff_176 6 rfl ?_
    refine j_iload_n C dX9_stepOff_178 rfl 2 rfl ?_
    refine j_icmp_ge (tgt := 235) C dX9_stepOff_179 (by decide) (fun hc => ?_) (fun hc => ?_)
    · have hw := hw.1 hc
      refine j_lload C dX9_stepOff_235 4 rfl ?_
      refine j_lload C dX9_stepOff_237 5 rfl ?_
      refine j_ladd C dX9_stepOff_239 ?_
      refine j_lstore C dX9_stepOff_240 (by decide) rfl ?_
      refine j_goto (tgt := 157) C dX9_stepOff_242 (by decide) ?_
      exact J.sub (hk157 v5 (v11 + v13) D hw) [1, 2, 3, 4, 0] rfl
    · have hw := hw.2 hc
      refine j_lload C dX9_stepOff_182 5 rfl ?_
      refine j_aload_n C dX9_stepOff_184 rfl 0 rfl ?_
      refine gf_9_3 C ho_v0 hr_g1 k_767 dX9_stepOff_185 ?_
      refine j_iload_n C dX9_stepOff_188 rfl 1 rfl ?_
      refine j_iload C dX9_stepOff_189 6 rfl ?_
      refine j_iadd C dX9_stepOff_191 ?_
      obtain ⟨hi1, hw⟩ := hw
      refine j_iald C ho_g1 hi1 dX9_stepOff_192 ?_
      refine j_i2l C dX9_stepOff_193 ?_
      refine j_aload_n C dX9_stepOff_194 rfl 0 rfl ?_
      refine gf_9_4 C ho_v0 hr_g2 k_768 dX9_stepOff_195 ?_
      refine j_iload C dX9_stepOff_198 6 rfl ?_
      obtain ⟨hi2, hw⟩ := hw
      refine j_iald C ho_g2 hi2 dX9_stepOff_200 ?_
      refine j_i2l C dX9_stepOff_201 ?_
      refine j_ladd C dX9_stepOff_202 ?_
      refine j_ladd C dX9_stepOff_203 ?_
      refine j_lstore C dX9_stepOff_204 (by decide) rfl ?_
      refine j_aload_n C dX9_stepOff_206 rfl 1 rfl ?_
      refine gf_9_3 C ho_v0 hr_g1 k_767 dX9_stepOff_207 ?_
      refine j_iload_n C dX9_stepOff_210 rfl 2 rfl ?_
      refine j_iload C dX9_stepOff_211 6 rfl ?_
      refine j_iadd C dX9_stepOff_213 ?_
      refine j_lload C dX9_stepOff_214 0 rfl ?_
      refine j_ldc2 (v := 1073741823) C k_985 dX9_stepOff_216 ?_
      refine j_land C dX9_stepOff_219 ?_
      refine j_l2i C dX9_stepOff_220 ?_
      obtain ⟨hi3, hw⟩ := hw
      refine j_iast C ho_g1 hi3 dX9_stepOff_221 ?_
      refine j_lload C dX9_stepOff_222 0 rfl ?_
      refine j_bipush (v := 30) C dX9_stepOff_224 (by decide) ?_
      refine j_lushr C dX9_stepOff_226 ?_
      refine j_lstore C dX9_stepOff_227 (by decide) rfl ?_
      refine j_iinc (v := v15 + 1) C dX9_stepOff_229 6 rfl rfl (by decide) rfl ?_
      refine j_goto (tgt := 176) C dX9_stepOff_232 (by decide) ?_
      exact J.sub (ih v5 v11 (((v13 + (((D.1 g1 (v1 + v15).toNatClampNeg).toInt64) + ((D.1 g2 v15.toNatClampNeg).toInt64))).toUInt64 >>> ((30 : Int32).toInt64.toUInt64 &&& Int64.toUInt64 63)).toInt64) (v15 + 1) (dI D g1 (v1 + v15).toNatClampNeg (((v13 + (((D.1 g1 (v1 + v15).toNatClampNeg).toInt64) + ((D.1 g2 v15.toNatClampNeg).toInt64))) &&& 1073741823).toInt32)) hw) [2, 3, 4, 5, 6, 1, 0] rfl
def X9_stepOff_l157_b (G : Shp) (post : Int32 → Dat → Prop) (v0 : Nat) (v1 : Int32) (v2 : Int32) (g1 : Nat) (g2 : Nat) (rec : Int64 → Int64 → Dat → Prop) (v5 : Int64) (v11 : Int64) (D : Dat) : Prop := ((0 ≤ v11 → (vp_in (v1 + v2) (G.2.2.1 g1) ∧ post v5.toInt32 (dI D g1 (v1 + v2).toNatClampNeg v11.toInt32))) ∧ (¬ (0 ≤ v11) → ∃ n, X9_stepOff_l176 G post v0 v1 v2 g1 g2 rec n (v5 - 1) v11 0 0 D))
def X9_stepOff_l157 (G : Shp) (post : Int32 → Dat → Prop) (v0 : Nat) (v1 : Int32) (v2 : Int32) (g1 : Nat) (g2 : Nat) : Nat → Int64 → Int64 → Dat → Prop
  | 0 => fun _ _ _ => False
  | n + 1 => X9_stepOff_l157_b G post v0 v1 v2 g1 g2 (X9_stepOff_l157 G post v0 v1 v2 g1 g2 n)
set_option maxRecDepth 100000 in
set_option maxHeartbeats 4000000 in
theorem X9_stepOff_l157_ok {κ : Ctx} {G : Shp} {post : Int32 → Dat → Prop} {v0 : Nat} {v1 : Int32} {v2 : Int32} {g1 : Nat} {g2 : Nat} (C : Cx κ cX9_stepOff RX9 (rmN 1) 16) (K : RtI κ cX9_stepOff .int G post) (ho_v0 : isO G v0 9) (hr_g1 : G.2.2.2 v0 3 = some g1) (ho_g1 : isO G g1 11) (hr_g2 : G.2.2.2 v0 4 = some g2) (ho_g2 : isO G g2 11) : ∀ (n : Nat) (v5 : Int64) (v11 : Int64) (D : Dat), X9_stepOff_l157 G post v0 v1 v2 g1 g2 n v5 v11 D → J κ 0 0 G D 157 [(0, .ref v0), (1, .int v1), (2, .int v2), (5, .long v5), (11, .long v11)] [] := by
  intro n
  induction n with
  | zero => intro v5 v11 D hw; exact hw.elim
  | succ n ih =>
    intro v5 v11 D hw
    have hw : X9_stepOff_l157_b G post v0 v1 v2 g1 g2 (X9_stepOff_l157 G post v0 v1 v2 g1 g2 n) v5 v11 D := hw
    unfold X9_stepOff_l157_b at hw
    refine j_lload C dX9_stepOff_157 4 rfl ?_
    refine j_lconst (v := 0) C dX9_stepOff_159 (by decide) ?_
    refine j_lcmp_ge (tgt := 245) C dX9_stepOff_160 dX9_stepOff_161 (by decide) (fun hc => ?_) (fun hc => ?_)
    · have hw := hw.1 hc
      refine j_aload_n C dX9_stepOff_245 rfl 0 rfl ?_
      refine gf_9_3 C ho_v0 hr_g1 k_767 dX9_stepOff_246 ?_
      refine j_iload_n C dX9_stepOff_249 rfl 1 rfl ?_
      refine j_iload_n C dX9_stepOff_250 rfl 2 rfl ?_
      refine j_iadd C dX9_stepOff_251 ?_
      refine j_lload C dX9_stepOff_252 4 rfl ?_
      refine j_l2i C dX9_stepOff_254 ?_
      obtain ⟨hi1, hw⟩ := hw
      refine j_iast C ho_g1 hi1 dX9_stepOff_255 ?_
      refine j_lload C dX9_stepOff_256 3 rfl ?_
      refine j_l2i C dX9_stepOff_258 ?_
      exact K _ _ _ _ dX9_stepOff_259 rfl hw
    · have hw := hw.2 hc
      refine j_lload C dX9_stepOff_164 3 rfl ?_
      refine j_lconst (v := 1) C dX9_stepOff_166 (by decide) ?_
      refine j_lsub C dX9_stepOff_167 ?_
      refine j_lstore C dX9_stepOff_168 (by decide) rfl ?_
      refine j_lconst (v := 0) C dX9_stepOff_170 (by decide) ?_
      refine j_lstore C dX9_stepOff_171 (by decide) rfl ?_
      refine j_iconst (v := 0) C dX9_stepOff_173 (by decide) ?_
      refine j_istore C dX9_stepOff_174 (by decide) rfl ?_
      obtain ⟨n, hw⟩ := hw
      exact J.sub (X9_stepOff_l176_ok C K ho_v0 hr_g1 ho_g1 hr_g2 ho_g2 ih n (v5 - 1) v11 0 0 D hw) [3, 4, 5, 2, 6, 1, 0] rfl
def X9_stepOff_j116 (G : Shp) (post : Int32 → Dat → Prop) (v0 : Nat) (v1 : Int32) (v2 : Int32) (g1 : Nat) (g2 : Nat) (k53 : Int64 → Int64 → Int64 → Int32 → Dat → Prop) (v5 : Int64) (v7 : Int64) (v11 : Int32) (v12 : Int64) (s0 : Int64) (D : Dat) : Prop := (vp_in (v1 + v11) (G.2.2.1 g1) ∧ k53 v5 v7 s0 (v11 + 1) (dI D g1 (v1 + v11).toNatClampNeg ((v12 &&& 1073741823).toInt32)))
set_option maxRecDepth 100000 in
set_option maxHeartbeats 4000000 in
theorem X9_stepOff_j116_ok {κ : Ctx} {G : Shp} {post : Int32 → Dat → Prop} {v0 : Nat} {v1 : Int32} {v2 : Int32} {g1 : Nat} {g2 : Nat} (C : Cx κ cX9_stepOff RX9 (rmN 1) 16) (K : RtI κ cX9_stepOff .int G post) (ho_v0 : isO G v0 9) (hr_g1 : G.2.2.2 v0 3 = some g1) (ho_g1 : isO G g1 11) (hr_g2 : G.2.2.2 v0 4 = some g2) (ho_g2 : isO G g2 11) {k53 : Int64 → Int64 → Int64 → Int32 → Dat → Prop} (hk53 : ∀ (v5 : Int64) (v7 : Int64) (v9 : Int64) (v11 : Int32) (D : Dat), k53 v5 v7 v9 v11 D → J κ 0 0 G D 53 [(0, .ref v0), (1, .int v1), (2, .int v2), (5, .long v5), (7, .long v7), (9, .long v9), (11, .int v11)] []) (v5 : Int64) (v7 : Int64) (v11 : Int32) (v12 : Int64) (s0 : Int64) (D : Dat) (hw : X9_stepOff_j116 G post v0 v1 v2 g1 g2 k53 v5 v7 v11 v12 s0 D) : J κ 0 0 G D 116 [(0, .ref v0), (1, .int v1), (2, .int v2), (5, .long v5), (7, .long v7), (11, .int v11), (12, .long v12)] [.long s0] := by
  unfold X9_stepOff_j116 at hw
  refine j_lstore C dX9_stepOff_116 (by decide) rfl ?_
  refine j_aload_n C dX9_stepOff_118 rfl 1 rfl ?_
  refine gf_9_3 C ho_v0 hr_g1 k_767 dX9_stepOff_119 ?_
  refine j_iload_n C dX9_stepOff_122 rfl 2 rfl ?_
  refine j_iload C dX9_stepOff_123 6 rfl ?_
  refine j_iadd C dX9_stepOff_125 ?_
  refine j_lload C dX9_stepOff_126 7 rfl ?_
  refine j_ldc2 (v := 1073741823) C k_985 dX9_stepOff_128 ?_
  refine j_land C dX9_stepOff_131 ?_
  refine j_l2i C dX9_stepOff_132 ?_
  obtain ⟨hi1, hw⟩ := hw
  refine j_iast C ho_g1 hi1 dX9_stepOff_133 ?_
  refine j_iinc (v := v11 + 1) C dX9_stepOff_134 6 rfl rfl (by decide) rfl ?_
  refine j_goto (tgt := 53) C dX9_stepOff_137 (by decide) ?_
  exact J.sub (hk53 v5 v7 s0 (v11 + 1) (dI D g1 (v1 + v11).toNatClampNeg ((v12 &&& 1073741823).toInt32)) hw) [2, 3, 4, 5, 6, 1, 0] rfl
def X9_stepOff_l53_b (G : Shp) (post : Int32 → Dat → Prop) (v0 : Nat) (v1 : Int32) (v2 : Int32) (g1 : Nat) (g2 : Nat) (rec : Int64 → Int64 → Int64 → Int32 → Dat → Prop) (v5 : Int64) (v7 : Int64) (v9 : Int64) (v11 : Int32) (D : Dat) : Prop := ((v2 ≤ v11 → (vp_in (v1 + v2) (G.2.2.1 g1) ∧ ∃ n, X9_stepOff_l157 G post v0 v1 v2 g1 g2 n v5 ((((D.1 g1 (v1 + v2).toNatClampNeg).toInt64) - v7) - v9) D)) ∧ (¬ (v2 ≤ v11) → (vp_in v11 (G.2.2.1 g2) ∧ vp_in (v1 + v11) (G.2.2.1 g1) ∧ ((0 ≤ ((((D.1 g1 (v1 + v11).toNatClampNeg).toInt64) - ((v7 + (v5 * ((D.1 g2 v11.toNatClampNeg).toInt64))) &&& 1073741823)) - v9) → X9_stepOff_j116 G post v0 v1 v2 g1 g2 rec v5 (((v7 + (v5 * ((D.1 g2 v11.toNatClampNeg).toInt64))).toUInt64 >>> ((30 : Int32).toInt64.toUInt64 &&& Int64.toUInt64 63)).toInt64) v11 ((((D.1 g1 (v1 + v11).toNatClampNeg).toInt64) - ((v7 + (v5 * ((D.1 g2 v11.toNatClampNeg).toInt64))) &&& 1073741823)) - v9) 0 D) ∧ (¬ (0 ≤ ((((D.1 g1 (v1 + v11).toNatClampNeg).toInt64) - ((v7 + (v5 * ((D.1 g2 v11.toNatClampNeg).toInt64))) &&& 1073741823)) - v9)) → X9_stepOff_j116 G post v0 v1 v2 g1 g2 rec v5 (((v7 + (v5 * ((D.1 g2 v11.toNatClampNeg).toInt64))).toUInt64 >>> ((30 : Int32).toInt64.toUInt64 &&& Int64.toUInt64 63)).toInt64) v11 ((((D.1 g1 (v1 + v11).toNatClampNeg).toInt64) - ((v7 + (v5 * ((D.1 g2 v11.toNatClampNeg).toInt64))) &&& 1073741823)) - v9) 1 D)))))
def X9_stepOff_l53 (G : Shp) (post : Int32 → Dat → Prop) (v0 : Nat) (v1 : Int32) (v2 : Int32) (g1 : Nat) (g2 : Nat) : Nat → Int64 → Int64 → Int64 → Int32 → Dat → Prop
  | 0 => fun _ _ _ _ _ => False
  | n + 1 => X9_stepOff_l53_b G post v0 v1 v2 g1 g2 (X9_stepOff_l53 G post v0 v1 v2 g1 g2 n)
set_option maxRecDepth 100000 in
set_option maxHeartbeats 4000000 in
theorem X9_stepOff_l53_ok {κ : Ctx} {G : Shp} {post : Int32 → Dat → Prop} {v0 : Nat} {v1 : Int32} {v2 : Int32} {g1 : Nat} {g2 : Nat} (C : Cx κ cX9_stepOff RX9 (rmN 1) 16) (K : RtI κ cX9_stepOff .int G post) (ho_v0 : isO G v0 9) (hr_g1 : G.2.2.2 v0 3 = some g1) (ho_g1 : isO G g1 11) (hr_g2 : G.2.2.2 v0 4 = some g2) (ho_g2 : isO G g2 11) : ∀ (n : Nat) (v5 : Int64) (v7 : Int64) (v9 : Int64) (v11 : Int32) (D : Dat), X9_stepOff_l53 G post v0 v1 v2 g1 g2 n v5 v7 v9 v11 D → J κ 0 0 G D 53 [(0, .ref v0), (1, .int v1), (2, .int v2), (5, .long v5), (7, .long v7), (9, .long v9), (11, .int v11)] [] := by
  intro n
  induction n with
  | zero => intro v5 v7 v9 v11 D hw; exact hw.elim
  | succ n ih =>
    intro v5 v7 v9 v11 D hw
    have hw : X9_stepOff_l53_b G post v0 v1 v2 g1 g2 (X9_stepOff_l53 G post v0 v1 v2 g1 g2 n) v5 v7 v9 v11 D := hw
    unfold X9_stepOff_l53_b at hw
    refine j_iload C dX9_stepOff_53 6 rfl ?_
    refine j_iload_n C dX9_stepOff_55 rfl 2 rfl ?_
    refine j_icmp_ge (tgt := 140) C dX9_stepOff_56 (by decide) (fun hc => ?_) (fun hc => ?_)
    · have hw := hw.1 hc
      refine j_aload_n C dX9_stepOff_140 rfl 0 rfl ?_
      refine gf_9_3 C ho_v0 hr_g1 k_767 dX9_stepOff_141 ?_
      refine j_iload_n C dX9_stepOff_144 rfl 1 rfl ?_
      refine j_iload_n C dX9_stepOff_145 rfl 2 rfl ?_
      refine j_iadd C dX9_stepOff_146 ?_
      obtain ⟨hi1, hw⟩ := hw
      refine j_iald C ho_g1 hi1 dX9_stepOff_147 ?_
      refine j_i2l C dX9_stepOff_148 ?_
      refine j_lload C dX9_stepOff_149 4 rfl ?_
      refine j_lsub C dX9_stepOff_151 ?_
      refine j_lload C dX9_stepOff_152 5 rfl ?_
      refine j_lsub C dX9_stepOff_154 ?_
      refine j_lstore C dX9_stepOff_155 (by decide) rfl ?_
      obtain ⟨n, hw⟩ := hw
      exact J.sub (X9_stepOff_l157_ok C K ho_v0 hr_g1 ho_g1 hr_g2 ho_g2 n v5 ((((D.1 g1 (v1 + v2).toNatClampNeg).toInt64) - v7) - v9) D hw) [1, 2, 3, 4, 0] rfl
    · have hw := hw.2 hc
      refine j_lload C dX9_stepOff_59 4 rfl ?_
      refine j_lload C dX9_stepOff_61 3 rfl ?_
      refine j_aload_n C dX9_stepOff_63 rfl 0 rfl ?_
      refine gf_9_4 C ho_v0 hr_g2 k_768 dX9_stepOff_64 ?_
      refine j_iload C dX9_stepOff_67 6 rfl ?_
      obtain ⟨hi2, hw⟩ := hw
      refine j_iald C ho_g2 hi2 dX9_stepOff_69 ?_
      refine j_i2l C dX9_stepOff_70 ?_
      refine j_lmul C dX9_stepOff_71 ?_
      refine j_ladd C dX9_stepOff_72 ?_
      refine j_lstore C dX9_stepOff_73 (by decide) rfl ?_
      refine j_aload_n C dX9_stepOff_75 rfl 1 rfl ?_
      refine gf_9_3 C ho_v0 hr_g1 k_767 dX9_stepOff_76 ?_
      refine j_iload_n C dX9_stepOff_79 rfl 2 rfl ?_
      refine j_iload C dX9_stepOff_80 6 rfl ?_
      refine j_iadd C dX9_stepOff_82 ?_
      obtain ⟨hi3, hw⟩ := hw
      refine j_iald C ho_g1 hi3 dX9_stepOff_83 ?_
      refine j_i2l C dX9_stepOff_84 ?_
      refine j_lload C dX9_stepOff_85 0 rfl ?_
      refine j_ldc2 (v := 1073741823) C k_985 dX9_stepOff_87 ?_
      refine j_land C dX9_stepOff_90 ?_
      refine j_lsub C dX9_stepOff_91 ?_
      refine j_lload C dX9_stepOff_92 5 rfl ?_
      refine j_lsub C dX9_stepOff_94 ?_
      refine j_lstore C dX9_stepOff_95 (by decide) rfl ?_
      refine j_lload C dX9_stepOff_97 1 rfl ?_
      refine j_bipush (v := 30) C dX9_stepOff_99 (by decide) ?_
      refine j_lushr C dX9_stepOff_101 ?_
      refine j_lstore C dX9_stepOff_102 (by decide) rfl ?_
      refine j_lload C dX9_stepOff_104 1 rfl ?_
      refine j_lconst (v := 0) C dX9_stepOff_106 (by decide) ?_
      refine j_lcmp_ge (tgt := 115) C dX9_stepOff_107 dX9_stepOff_108 (by decide) (fun hc => ?_) (fun hc => ?_)
      · have hw := hw.1 hc
        refine j_lconst (v := 0) C dX9_stepOff_115 (by decide) ?_
        exact J.sub (X9_stepOff_j116_ok C K ho_v0 hr_g1 ho_g1 hr_g2 ho_g2 ih v5 (((v7 + (v5 * ((D.1 g2 v11.toNatClampNeg).toInt64))).toUInt64 >>> ((30 : Int32).toInt64.toUInt64 &&& Int64.toUInt64 63)).toInt64) v11 ((((D.1 g1 (v1 + v11).toNatClampNeg).toInt64) - ((v7 + (v5 * ((D.1 g2 v11.toNatClampNeg).toInt64))) &&& 1073741823)) - v9) 0 D hw) [2, 3, 4, 5, 0, 7, 1] rfl
      · have hw := hw.2 hc
        refine j_lconst (v := 1) C dX9_stepOff_111 (by decide) ?_
        refine j_goto (tgt := 116) C dX9_stepOff_112 (by decide) ?_
        exact J.sub (X9_stepOff_j116_ok C K ho_v0 hr_g1 ho_g1 hr_g2 ho_g2 ih v5 (((v7 + (v5 * ((D.1 g2 v11.toNatClampNeg).toInt64))).toUInt64 >>> ((30 : Int32).toInt64.toUInt64 &&& Int64.toUInt64 63)).toInt64) v11 ((((D.1 g1 (v1 + v11).toNatClampNeg).toInt64) - ((v7 + (v5 * ((D.1 g2 v11.toNatClampNeg).toInt64))) &&& 1073741823)) - v9) 1 D hw) [2, 3, 4, 5, 0, 7, 1] rfl
def X9_stepOff_wp (G : Shp) (D : Dat) (v0 : Nat) (v1 : Int32) (v2 : Int32) (post : Int32 → Dat → Prop) : Prop := isO G v0 9 ∧ ∃ g1, G.2.2.2 v0 3 = some g1 ∧ isO G g1 11 ∧ ∃ g2, G.2.2.2 v0 4 = some g2 ∧ isO G g2 11 ∧ (vp_in (v1 + v2) (G.2.2.1 g1) ∧ vp_in ((v1 + v2) - 1) (G.2.2.1 g1) ∧ vp_in (v2 - 1) (G.2.2.1 g2) ∧ ¬ ((D.1 g2 (v2 - 1).toNatClampNeg).toInt64) = 0 ∧ ∃ n, X9_stepOff_l53 G post v0 v1 v2 g1 g2 n (mnL (((((D.1 g1 (v1 + v2).toNatClampNeg).toInt64) <<< ((30 : Int32).toInt64 &&& 63)) ||| ((D.1 g1 ((v1 + v2) - 1).toNatClampNeg).toInt64)) / ((D.1 g2 (v2 - 1).toNatClampNeg).toInt64)) 1073741823) 0 0 0 D)
set_option maxRecDepth 100000 in
set_option maxHeartbeats 4000000 in
theorem X9_stepOff_ok (l : Launch) (G : Shp) (D : Dat) (v0 : Nat) (v1 : Int32) (v2 : Int32) (post : Int32 → Dat → Prop) (hw : X9_stepOff_wp G D v0 v1 v2 post) : CtI l yX9_stepOff cX9_stepOff 16 .int (rmN 1) [.ref v0, .int v1, .int v2] G D post := by
  obtain ⟨ho_v0, g1, hr_g1, ho_g1, g2, hr_g2, ho_g2, hw⟩ := hw
  refine ctI_of (by decide) rfl (Nat.le_of_ble_eq_true rfl) ?_
  intro κ hκ C K
  subst hκ
  have C : Cx κ cX9_stepOff RX9 (rmN 1) 16 := C
  refine j_aload_n C dX9_stepOff_0 rfl 0 rfl ?_
  refine gf_9_3 C ho_v0 hr_g1 k_767 dX9_stepOff_1 ?_
  refine j_iload_n C dX9_stepOff_4 rfl 1 rfl ?_
  refine j_iload_n C dX9_stepOff_5 rfl 2 rfl ?_
  refine j_iadd C dX9_stepOff_6 ?_
  obtain ⟨hi1, hw⟩ := hw
  refine j_iald C ho_g1 hi1 dX9_stepOff_7 ?_
  refine j_i2l C dX9_stepOff_8 ?_
  refine j_bipush (v := 30) C dX9_stepOff_9 (by decide) ?_
  refine j_lshl C dX9_stepOff_11 ?_
  refine j_aload_n C dX9_stepOff_12 rfl 0 rfl ?_
  refine gf_9_3 C ho_v0 hr_g1 k_767 dX9_stepOff_13 ?_
  refine j_iload_n C dX9_stepOff_16 rfl 1 rfl ?_
  refine j_iload_n C dX9_stepOff_17 rfl 2 rfl ?_
  refine j_iadd C dX9_stepOff_18 ?_
  refine j_iconst (v := 1) C dX9_stepOff_19 (by decide) ?_
  refine j_isub C dX9_stepOff_20 ?_
  obtain ⟨hi2, hw⟩ := hw
  refine j_iald C ho_g1 hi2 dX9_stepOff_21 ?_
  refine j_i2l C dX9_stepOff_22 ?_
  refine j_lor C dX9_stepOff_23 ?_
  refine j_lstore_n C dX9_stepOff_24 rfl (by decide) rfl ?_
  refine j_lload_n C dX9_stepOff_25 rfl 0 rfl ?_
  refine j_aload_n C dX9_stepOff_26 rfl 1 rfl ?_
  refine gf_9_4 C ho_v0 hr_g2 k_768 dX9_stepOff_27 ?_
  refine j_iload_n C dX9_stepOff_30 rfl 3 rfl ?_
  refine j_iconst (v := 1) C dX9_stepOff_31 (by decide) ?_
  refine j_isub C dX9_stepOff_32 ?_
  obtain ⟨hi3, hw⟩ := hw
  refine j_iald C ho_g2 hi3 dX9_stepOff_33 ?_
  refine j_i2l C dX9_stepOff_34 ?_
  obtain ⟨hz4, hw⟩ := hw
  refine j_ldiv C dX9_stepOff_35 hz4 ?_
  refine j_ldc2 (v := 1073741823) C k_985 dX9_stepOff_36 ?_
  refine j_mnL C k_1041 ⟨by decide, Nat.le_of_ble_eq_true rfl⟩ ⟨Nat.zero_le _, Nat.zero_le _⟩ dX9_stepOff_39 ?_
  refine j_lstore C dX9_stepOff_42 (by decide) rfl ?_
  refine j_lconst (v := 0) C dX9_stepOff_44 (by decide) ?_
  refine j_lstore C dX9_stepOff_45 (by decide) rfl ?_
  refine j_lconst (v := 0) C dX9_stepOff_47 (by decide) ?_
  refine j_lstore C dX9_stepOff_48 (by decide) rfl ?_
  refine j_iconst (v := 0) C dX9_stepOff_50 (by decide) ?_
  refine j_istore C dX9_stepOff_51 (by decide) rfl ?_
  obtain ⟨n, hw⟩ := hw
  exact J.sub (X9_stepOff_l53_ok C K ho_v0 hr_g1 ho_g1 hr_g2 ho_g2 n (mnL (((((D.1 g1 (v1 + v2).toNatClampNeg).toInt64) <<< ((30 : Int32).toInt64 &&& 63)) ||| ((D.1 g1 ((v1 + v2) - 1).toNatClampNeg).toInt64)) / ((D.1 g2 (v2 - 1).toNatClampNeg).toInt64)) 1073741823) 0 0 0 D hw) [5, 6, 7, 3, 2, 1, 0] rfl
/-! X9_strange -/
def X9_strange_j14 (G : Shp) (post : Int32 → Dat → Prop) (v0 : Nat) (v1 : Int32) (v2 : Int32) (v3 : Int32) (g1 : Nat) (D : Dat) : Prop := X9_is_wp G D v0 1 (fun r1 D2 => (isB r1 ∧ post r1 D2))
set_option maxRecDepth 100000 in
set_option maxHeartbeats 4000000 in
theorem X9_strange_j14_ok {κ : Ctx} {G : Shp} {post : Int32 → Dat → Prop} {v0 : Nat} {v1 : Int32} {v2 : Int32} {v3 : Int32} {g1 : Nat} (C : Cx κ cX9_strange RX9 (rmN 1) 4) (K : RtI κ cX9_strange .boolean G post) (ho_v0 : isO G v0 9) (hr_g1 : G.2.2.2 v0 16 = some g1) (ho_g1 : isO G g1 13) (D : Dat) (hw : X9_strange_j14 G post v0 v1 v2 v3 g1 D) : J κ 0 0 G D 14 [(0, .ref v0)] [] := by
  unfold X9_strange_j14 at hw
  refine j_aload_n C dX9_strange_14 rfl 0 rfl ?_
  refine j_iconst (v := 1) C dX9_strange_15 (by decide) ?_
  refine j_cVI (As := [.int 1]) (st := []) C (X9_is_ok κ.2.1 G D v0 1 _ hw) ho_v0 rfl k_873 mv_X9_is ⟨by decide, by decide⟩ ⟨rfl, rfl⟩ rfl rfl (Nat.le_of_ble_eq_true rfl) ⟨Nat.zero_le _, Nat.zero_le _⟩ dX9_strange_16 (fun r1 D2 hw => ?_)
  obtain ⟨hb3, hw⟩ := hw
  exact K _ _ _ _ dX9_strange_19 (isB_n hb3) hw
def X9_strange_wp (G : Shp) (D : Dat) (v0 : Nat) (v1 : Int32) (v2 : Int32) (v3 : Int32) (post : Int32 → Dat → Prop) : Prop := isO G v0 9 ∧ ∃ g1, G.2.2.2 v0 16 = some g1 ∧ isO G g1 13 ∧ X9_isRow_wp G D v1 (fun r1 D2 => ((r1 = 0 → X9_strange_j14 G post v0 v1 v2 v3 g1 D2) ∧ (¬ (r1 = 0) → X9_isTick_wp G D2 v2 (fun r3 D4 => ((¬ r3 = 0 → X9_spot_wp G D4 v1 v2 (fun r5 D6 => (vp_in r5 (G.2.2.1 g1) ∧ ((¬ (D6.1 g1 r5.toNatClampNeg) = v3 → X9_spot_wp G D6 v1 v2 (fun r8 D9 => (vp_in r8 (G.2.2.1 g1) ∧ X9_is_wp G (dI D9 g1 r8.toNatClampNeg (vp_nar .boolean v3)) v0 0 (fun r11 D12 => (isB r11 ∧ post r11 D12))))) ∧ ((D6.1 g1 r5.toNatClampNeg) = v3 → X9_is_wp G D6 v0 4 (fun r14 D15 => (isB r14 ∧ post r14 D15))))))) ∧ (r3 = 0 → X9_strange_j14 G post v0 v1 v2 v3 g1 D4))))))
set_option maxRecDepth 100000 in
set_option maxHeartbeats 4000000 in
theorem X9_strange_ok (l : Launch) (G : Shp) (D : Dat) (v0 : Nat) (v1 : Int32) (v2 : Int32) (v3 : Int32) (post : Int32 → Dat → Prop) (hw : X9_strange_wp G D v0 v1 v2 v3 post) : CtI l yX9_strange cX9_strange 4 .boolean (rmN 1) [.ref v0, .int v1, .int v2, .int v3] G D post := by
  obtain ⟨ho_v0, g1, hr_g1, ho_g1, hw⟩ := hw
  refine ctI_of (by decide) rfl (Nat.le_of_ble_eq_true rfl) ?_
  intro κ hκ C K
  subst hκ
  have C : Cx κ cX9_strange RX9 (rmN 1) 4 := C
  refine j_iload_n C dX9_strange_0 rfl 1 rfl ?_
  refine j_cSI (As := [.int v1]) (st := []) C (X9_isRow_ok κ.2.1 G D v1 _ hw) k_867 ms_X9_isRow ⟨by decide, by decide⟩ ⟨rfl, rfl⟩ rfl rfl (Nat.le_of_ble_eq_true rfl) ⟨Nat.zero_le _, Nat.zero_le _⟩ dX9_strange_1 (fun r1 D2 hw => ?_)
  refine j_if_eq (tgt := 14) C dX9_strange_4 (by decide) (fun hc => ?_) (fun hc => ?_)
  · have hw := hw.1 hc
    exact J.sub (X9_strange_j14_ok C K ho_v0 hr_g1 ho_g1 D2 hw) [0] rfl
  · have hw := hw.2 hc
    refine j_iload_n C dX9_strange_7 rfl 2 rfl ?_
    refine j_cSI (As := [.int v2]) (st := []) C (X9_isTick_ok κ.2.1 G D2 v2 _ hw) k_870 ms_X9_isTick ⟨by decide, by decide⟩ ⟨rfl, rfl⟩ rfl rfl (Nat.le_of_ble_eq_true rfl) ⟨Nat.zero_le _, Nat.zero_le _⟩ dX9_strange_8 (fun r3 D4 hw => ?_)
    refine j_if_ne (tgt := 20) C dX9_strange_11 (by decide) (fun hc => ?_) (fun hc => ?_)
    · have hw := hw.1 hc
      refine j_aload_n C dX9_strange_20 rfl 0 rfl ?_
      refine gf_9_16 C ho_v0 hr_g1 k_780 dX9_strange_21 ?_
      refine j_iload_n C dX9_strange_24 rfl 1 rfl ?_
      refine j_iload_n C dX9_strange_25 rfl 2 rfl ?_
      refine j_cSI (As := [.int v1, .int v2]) (st := [.ref g1]) C (X9_spot_ok κ.2.1 G D4 v1 v2 _ hw) k_882 ms_X9_spot ⟨by decide, by decide⟩ ⟨rfl, rfl⟩ rfl rfl (Nat.le_of_ble_eq_true rfl) ⟨Nat.zero_le _, Nat.zero_le _⟩ dX9_strange_26 (fun r5 D6 hw => ?_)
      obtain ⟨hi7, hw⟩ := hw
      refine j_zald C ho_g1 hi7 dX9_strange_29 ?_
      refine j_iload_n C dX9_strange_30 rfl 3 rfl ?_
      refine j_icmp_ne (tgt := 40) C dX9_strange_31 (by decide) (fun hc => ?_) (fun hc => ?_)
      · have hw := hw.1 hc
        refine j_aload_n C dX9_strange_40 rfl 0 rfl ?_
        refine gf_9_16 C ho_v0 hr_g1 k_780 dX9_strange_41 ?_
        refine j_iload_n C dX9_strange_44 rfl 1 rfl ?_
        refine j_iload_n C dX9_strange_45 rfl 2 rfl ?_
        refine j_cSI (As := [.int v1, .int v2]) (st := [.ref g1]) C (X9_spot_ok κ.2.1 G D6 v1 v2 _ hw) k_882 ms_X9_spot ⟨by decide, by decide⟩ ⟨rfl, rfl⟩ rfl rfl (Nat.le_of_ble_eq_true rfl) ⟨Nat.zero_le _, Nat.zero_le _⟩ dX9_strange_46 (fun r8 D9 hw => ?_)
        refine j_iload_n C dX9_strange_49 rfl 3 rfl ?_
        obtain ⟨hi10, hw⟩ := hw
        refine j_zast C ho_g1 hi10 dX9_strange_50 ?_
        refine j_aload_n C dX9_strange_51 rfl 0 rfl ?_
        refine j_iconst (v := 0) C dX9_strange_52 (by decide) ?_
        refine j_cVI (As := [.int 0]) (st := []) C (X9_is_ok κ.2.1 G (dI D9 g1 r8.toNatClampNeg (vp_nar .boolean v3)) v0 0 _ hw) ho_v0 rfl k_873 mv_X9_is ⟨by decide, by decide⟩ ⟨rfl, rfl⟩ rfl rfl (Nat.le_of_ble_eq_true rfl) ⟨Nat.zero_le _, Nat.zero_le _⟩ dX9_strange_53 (fun r11 D12 hw => ?_)
        obtain ⟨hb13, hw⟩ := hw
        exact K _ _ _ _ dX9_strange_56 (isB_n hb13) hw
      · have hw := hw.2 hc
        refine j_aload_n C dX9_strange_34 rfl 0 rfl ?_
        refine j_iconst (v := 4) C dX9_strange_35 (by decide) ?_
        refine j_cVI (As := [.int 4]) (st := []) C (X9_is_ok κ.2.1 G D6 v0 4 _ hw) ho_v0 rfl k_873 mv_X9_is ⟨by decide, by decide⟩ ⟨rfl, rfl⟩ rfl rfl (Nat.le_of_ble_eq_true rfl) ⟨Nat.zero_le _, Nat.zero_le _⟩ dX9_strange_36 (fun r14 D15 hw => ?_)
        obtain ⟨hb16, hw⟩ := hw
        exact K _ _ _ _ dX9_strange_39 (isB_n hb16) hw
    · have hw := hw.2 hc
      exact J.sub (X9_strange_j14_ok C K ho_v0 hr_g1 ho_g1 D4 hw) [0] rfl
