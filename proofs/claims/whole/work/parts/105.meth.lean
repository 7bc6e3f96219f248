/-! X9_tellsNumber -/
def X9_tellsNumber_l195_b (G : Shp) (post : Dat → Prop) (v0 : Nat) (v1 : Int32) (g1 : Nat) (g2 : Nat) (g3 : Nat) (rec : Int32 → Int32 → Dat → Prop) (v3 : Int32) (v4 : Int32) (D : Dat) : Prop := ((v4 ≤ v3 → post D) ∧ (¬ (v4 ≤ v3) → (vp_in v3 (G.2.2.1 g3) ∧ vp_in v4 (G.2.2.1 g3) ∧ vp_in v3 (G.2.2.1 g3) ∧ vp_in v4 (G.2.2.1 g3) ∧ rec (v3 + 1) (v4 + (-1)) (dI (dI D g3 v3.toNatClampNeg (D.1 g3 v4.toNatClampNeg)) g3 v4.toNatClampNeg (D.1 g3 v3.toNatClampNeg)))))
def X9_tellsNumber_l195 (G : Shp) (post : Dat → Prop) (v0 : Nat) (v1 : Int32) (g1 : Nat) (g2 : Nat) (g3 : Nat) : Nat → Int32 → Int32 → Dat → Prop
  | 0 => fun _ _ _ => False
  | n + 1 => X9_tellsNumber_l195_b G post v0 v1 g1 g2 g3 (X9_tellsNumber_l195 G post v0 v1 g1 g2 g3 n)
set_option maxRecDepth 100000 in
set_option maxHeartbeats 4000000 in
theorem X9_tellsNumber_l195_ok {κ : Ctx} {G : Shp} {post : Dat → Prop} {v0 : Nat} {v1 : Int32} {g1 : Nat} {g2 : Nat} {g3 : Nat} (C : Cx κ cX9_tellsNumber RX9 (rmN 1) 8) (K : RtV κ cX9_tellsNumber G post) (ho_v0 : isO G v0 9) (hr_g1 : G.2.2.2 v0 3 = some g1) (ho_g1 : isO G g1 11) (hr_g2 : G.2.2.2 v0 1 = some g2) (ho_g2 : isO G g2 11) (hr_g3 : G.2.2.2 v0 8 = some g3) (ho_g3 : isO G g3 11) : ∀ (n : Nat) (v3 : Int32) (v4 : Int32) (D : Dat), X9_tellsNumber_l195 G post v0 v1 g1 g2 g3 n v3 v4 D → J κ 0 0 G D 195 [(0, .ref v0), (3, .int v3), (4, .int v4)] [] := by
  intro n
  induction n with
  | zero => intro v3 v4 D hw; exact hw.elim
  | succ n ih =>
    intro v3 v4 D hw
    have hw : X9_tellsNumber_l195_b G post v0 v1 g1 g2 g3 (X9_tellsNumber_l195 G post v0 v1 g1 g2 g3 n) v3 v4 D := hw
    unfold X9_tellsNumber_l195_b at hw
    refine j_iload_n C dX9_tellsNumber_195 rfl 1 rfl ?_
    refine j_iload C dX9_tellsNumber_196 2 rfl ?_
    refine j_icmp_ge (tgt := 240) C dX9_tellsNumber_198 (by decide) (fun hc => ?_) (fun hc => ?_)
    · have hw := hw.1 hc
      exact K _ _ _ dX9_tellsNumber_240 hw
    · have hw := hw.2 hc
      refine j_aload_n C dX9_tellsNumber_201 rfl 0 rfl ?_
      refine gf_9_8 C ho_v0 hr_g3 k_772 dX9_tellsNumber_202 ?_
      refine j_iload_n C dX9_tellsNumber_205 rfl 1 rfl ?_
      obtain ⟨hi1, hw⟩ := hw
      refine j_iald C ho_g3 hi1 dX9_tellsNumber_206 ?_
      refine j_istore C dX9_tellsNumber_207 (by decide) rfl ?_
      refine j_aload_n C dX9_tellsNumber_209 rfl 1 rfl ?_
      refine gf_9_8 C ho_v0 hr_g3 k_772 dX9_tellsNumber_210 ?_
      refine j_iload_n C dX9_tellsNumber_213 rfl 2 rfl ?_
      refine j_aload_n C dX9_tellsNumber_214 rfl 1 rfl ?_
      refine gf_9_8 C ho_v0 hr_g3 k_772 dX9_tellsNumber_215 ?_
      refine j_iload C dX9_tellsNumber_218 3 rfl ?_
      obtain ⟨hi2, hw⟩ := hw
      refine j_iald C ho_g3 hi2 dX9_tellsNumber_220 ?_
      obtain ⟨hi3, hw⟩ := hw
      refine j_iast C ho_g3 hi3 dX9_tellsNumber_221 ?_
      refine j_aload_n C dX9_tellsNumber_222 rfl 1 rfl ?_
      refine gf_9_8 C ho_v0 hr_g3 k_772 dX9_tellsNumber_223 ?_
      refine j_iload C dX9_tellsNumber_226 3 rfl ?_
      refine j_iload C dX9_tellsNumber_228 0 rfl ?_
      obtain ⟨hi4, hw⟩ := hw
      refine j_iast C ho_g3 hi4 dX9_tellsNumber_230 ?_
      refine j_iinc (v := v3 + 1) C dX9_tellsNumber_231 2 rfl rfl (by decide) rfl ?_
      refine j_iinc (v := v4 + (-1)) C dX9_tellsNumber_234 3 rfl rfl (by decide) rfl ?_
      refine j_goto (tgt := 195) C dX9_tellsNumber_237 (by decide) ?_
      exact J.sub (ih (v3 + 1) (v4 + (-1)) (dI (dI D g3 v3.toNatClampNeg (D.1 g3 v4.toNatClampNeg)) g3 v4.toNatClampNeg (D.1 g3 v3.toNatClampNeg)) hw) [3, 1, 0] rfl
def X9_tellsNumber_j173 (G : Shp) (post : Dat → Prop) (v0 : Nat) (v1 : Int32) (g1 : Nat) (g2 : Nat) (g3 : Nat) (k75 : Int32 → Dat → Prop) (v2 : Int32) (v3 : Int64) (D : Dat) : Prop := X9_tells0_wp G D v0 (48 + v3.toInt32) (fun D2 => k75 v2 D2)
set_option maxRecDepth 100000 in
set_option maxHeartbeats 4000000 in
theorem X9_tellsNumber_j173_ok {κ : Ctx} {G : Shp} {post : Dat → Prop} {v0 : Nat} {v1 : Int32} {g1 : Nat} {g2 : Nat} {g3 : Nat} (C : Cx κ cX9_tellsNumber RX9 (rmN 1) 8) (K : RtV κ cX9_tellsNumber G post) (ho_v0 : isO G v0 9) (hr_g1 : G.2.2.2 v0 3 = some g1) (ho_g1 : isO G g1 11) (hr_g2 : G.2.2.2 v0 1 = some g2) (ho_g2 : isO G g2 11) (hr_g3 : G.2.2.2 v0 8 = some g3) (ho_g3 : isO G g3 11) {k75 : Int32 → Dat → Prop} (hk75 : ∀ (v2 : Int32) (D : Dat), k75 v2 D → J κ 0 0 G D 75 [(0, .ref v0), (2, .int v2)] []) (v2 : Int32) (v3 : Int64) (D : Dat) (hw : X9_tellsNumber_j173 G post v0 v1 g1 g2 g3 k75 v2 v3 D) : J κ 0 0 G D 173 [(0, .ref v0), (2, .int v2), (3, .long v3)] [] := by
  unfold X9_tellsNumber_j173 at hw
  refine j_aload_n C dX9_tellsNumber_173 rfl 0 rfl ?_
  refine j_bipush (v := 48) C dX9_tellsNumber_174 (by decide) ?_
  refine j_lload_n C dX9_tellsNumber_176 rfl 2 rfl ?_
  refine j_l2i C dX9_tellsNumber_177 ?_
  refine j_iadd C dX9_tellsNumber_178 ?_
  refine j_cVV (As := [.int (48 + v3.toInt32)]) (st := []) C (X9_tells0_ok κ.2.1 G D v0 (48 + v3.toInt32) _ hw) ho_v0 rfl k_1072 mv_X9_tells0 ⟨by decide, by decide⟩ ⟨rfl, rfl⟩ rfl rfl (Nat.le_of_ble_eq_true rfl) ⟨Nat.zero_le _, Nat.zero_le _⟩ dX9_tellsNumber_179 (fun D2 hw => ?_)
  refine j_goto (tgt := 75) C dX9_tellsNumber_182 (by decide) ?_
  exact J.sub (hk75 v2 D2 hw) [0, 1] rfl
def X9_tellsNumber_l139_b (G : Shp) (post : Dat → Prop) (v0 : Nat) (v1 : Int32) (g1 : Nat) (g2 : Nat) (g3 : Nat) (k75 : Int32 → Dat → Prop) (rec : Int32 → Int64 → Dat → Prop) (v2 : Int32) (v3 : Int64) (D : Dat) : Prop := (((D.1 v0 6) ≤ 0 → X9_tellsNumber_j173 G post v0 v1 g1 g2 g3 k75 v2 v3 D) ∧ (¬ ((D.1 v0 6) ≤ 0) → (vp_in ((D.1 v0 6) - 1) (G.2.2.1 g1) ∧ ((¬ (D.1 g1 ((D.1 v0 6) - 1).toNatClampNeg) = 0 → X9_tellsNumber_j173 G post v0 v1 g1 g2 g3 k75 v2 v3 D) ∧ ((D.1 g1 ((D.1 v0 6) - 1).toNatClampNeg) = 0 → rec v2 v3 (dI D v0 6 ((D.1 v0 6) - 1)))))))
def X9_tellsNumber_l139 (G : Shp) (post : Dat → Prop) (v0 : Nat) (v1 : Int32) (g1 : Nat) (g2 : Nat) (g3 : Nat) (k75 : Int32 → Dat → Prop) : Nat → Int32 → Int64 → Dat → Prop
  | 0 => fun _ _ _ => False
  | n + 1 => X9_tellsNumber_l139_b G post v0 v1 g1 g2 g3 k75 (X9_tellsNumber_l139 G post v0 v1 g1 g2 g3 k75 n)
set_option maxRecDepth 100000 in
set_option maxHeartbeats 4000000 in
theorem X9_tellsNumber_l139_ok {κ : Ctx} {G : Shp} {post : Dat → Prop} {v0 : Nat} {v1 : Int32} {g1 : Nat} {g2 : Nat} {g3 : Nat} (C : Cx κ cX9_tellsNumber RX9 (rmN 1) 8) (K : RtV κ cX9_tellsNumber G post) (ho_v0 : isO G v0 9) (hr_g1 : G.2.2.2 v0 3 = some g1) (ho_g1 : isO G g1 11) (hr_g2 : G.2.2.2 v0 1 = some g2) (ho_g2 : isO G g2 11) (hr_g3 : G.2.2.2 v0 8 = some g3) (ho_g3 : isO G g3 11) {k75 : Int32 → Dat → Prop} (hk75 : ∀ (v2 : Int32) (D : Dat), k75 v2 D → J κ 0 0 G D 75 [(0, .ref v0), (2, .int v2)] []) : ∀ (n : Nat) (v2 : Int32) (v3 : Int64) (D : Dat), X9_tellsNumber_l139 G post v0 v1 g1 g2 g3 k75 n v2 v3 D → J κ 0 0 G D 139 [(0, .ref v0), (2, .int v2), (3, .long v3)] [] := by
  intro n
  induction n with
  | zero => intro v2 v3 D hw; exact hw.elim
  | succ n ih =>
    intro v2 v3 D hw
    have hw : X9_tellsNumber_l139_b G post v0 v1 g1 g2 g3 k75 (X9_tellsNumber_l139 G post v0 v1 g1 g2 g3 k75 n) v2 v3 D := hw
    unfold X9_tellsNumber_l139_b at hw
    refine j_aload_n C dX9_tellsNumber_139 rfl 0 rfl ?_
    refine gf_9_6 C ho_v0 k_770 dX9_tellsNumber_140 ?_
    refine j_if_le (tgt := 173) C dX9_tellsNumber_143 (by decide) (fun hc => ?_) (fun hc => ?_)
    · have hw := hw.1 hc
      exact J.sub (X9_tellsNumber_j173_ok C K ho_v0 hr_g1 ho_g1 hr_g2 ho_g2 hr_g3 ho_g3 hk75 v2 v3 D hw) [0, 1, 2] rfl
    · have hw := hw.2 hc
      refine j_aload_n C dX9_tellsNumber_146 rfl 0 rfl ?_
      refine gf_9_3 C ho_v0 hr_g1 k_767 dX9_tellsNumber_147 ?_
      refine j_aload_n C dX9_tellsNumber_150 rfl 0 rfl ?_
      refine gf_9_6 C ho_v0 k_770 dX9_tellsNumber_151 ?_
      refine j_iconst (v := 1) C dX9_tellsNumber_154 (by decide) ?_
      refine j_isub C dX9_tellsNumber_155 ?_
      obtain ⟨hi1, hw⟩ := hw
      refine j_iald C ho_g1 hi1 dX9_tellsNumber_156 ?_
      refine j_if_ne (tgt := 173) C dX9_tellsNumber_157 (by decide) (fun hc => ?_) (fun hc => ?_)
      · have hw := hw.1 hc
        exact J.sub (X9_tellsNumber_j173_ok C K ho_v0 hr_g1 ho_g1 hr_g2 ho_g2 hr_g3 ho_g3 hk75 v2 v3 D hw) [0, 1, 2] rfl
      · have hw := hw.2 hc
        refine j_aload_n C dX9_tellsNumber_160 rfl 0 rfl ?_
        refine j_dup C dX9_tellsNumber_161 rfl ?_
        refine gf_9_6 C ho_v0 k_770 dX9_tellsNumber_162 ?_
        refine j_iconst (v := 1) C dX9_tellsNumber_165 (by decide) ?_
        refine j_isub C dX9_tellsNumber_166 ?_
        refine pf_9_6 C ho_v0 k_770 dX9_tellsNumber_167 ?_
        refine j_goto (tgt := 139) C dX9_tellsNumber_170 (by decide) ?_
        exact J.sub (ih v2 v3 (dI D v0 6 ((D.1 v0 6) - 1)) hw) [0, 1, 2] rfl
def X9_tellsNumber_l92_b (G : Shp) (post : Dat → Prop) (v0 : Nat) (v1 : Int32) (g1 : Nat) (g2 : Nat) (g3 : Nat) (k75 : Int32 → Dat → Prop) (rec : Int32 → Int64 → Int32 → Dat → Prop) (v2 : Int32) (v3 : Int64) (v5 : Int32) (D : Dat) : Prop := ((v5 < 0 → ∃ n, X9_tellsNumber_l139 G post v0 v1 g1 g2 g3 k75 n v2 v3 D) ∧ (¬ (v5 < 0) → (vp_in v5 (G.2.2.1 g1) ∧ ¬ (10 : Int64) = 0 ∧ vp_in v5 (G.2.2.1 g1) ∧ ¬ (10 : Int64) = 0 ∧ rec v2 (((v3 <<< ((30 : Int32).toInt64 &&& 63)) ||| ((D.1 g1 v5.toNatClampNeg).toInt64)) - ((v3 <<< ((30 : Int32).toInt64 &&& 63)) ||| ((D.1 g1 v5.toNatClampNeg).toInt64)) / 10 * 10) (v5 + (-1)) (dI D g1 v5.toNatClampNeg ((((v3 <<< ((30 : Int32).toInt64 &&& 63)) ||| ((D.1 g1 v5.toNatClampNeg).toInt64)) / 10).toInt32)))))
def X9_tellsNumber_l92 (G : Shp) (post : Dat → Prop) (v0 : Nat) (v1 : Int32) (g1 : Nat) (g2 : Nat) (g3 : Nat) (k75 : Int32 → Dat → Prop) : Nat → Int32 → Int64 → Int32 → Dat → Prop
  | 0 => fun _ _ _ _ => False
  | n + 1 => X9_tellsNumber_l92_b G post v0 v1 g1 g2 g3 k75 (X9_tellsNumber_l92 G post v0 v1 g1 g2 g3 k75 n)
set_option maxRecDepth 100000 in
set_option maxHeartbeats 4000000 in
theorem X9_tellsNumber_l92_ok {κ : Ctx} {G : Shp} {post : Dat → Prop} {v0 : Nat} {v1 : Int32} {g1 : Nat} {g2 : Nat} {g3 : Nat} (C : Cx κ cX9_tellsNumber RX9 (rmN 1) 8) (K : RtV κ cX9_tellsNumber G post) (ho_v0 : isO G v0 9) (hr_g1 : G.2.2.2 v0 3 = some g1) (ho_g1 : isO G g1 11) (hr_g2 : G.2.2.2 v0 1 = some g2) (ho_g2 : isO G g2 11) (hr_g3 : G.2.2.2 v0 8 = some g3) (ho_g3 : isO G g3 11) {k75 : Int32 → Dat → Prop} (hk75 : ∀ (v2 : Int32) (D : Dat), k75 v2 D → J κ 0 0 G D 75 [(0, .ref v0), (2, .int v2)] []) : ∀ (n : Nat) (v2 : Int32) (v3 : Int64) (v5 : Int32) (D : Dat), X9_tellsNumber_l92 G post v0 v1 g1 g2 g3 k75 n v2 v3 v5 D → J κ 0 0 G D 92 [(0, .ref v0), (2, .int v2), (3, .long v3), (5, .int v5)] [] := by
  intro n
  induction n with
  | zero => intro v2 v3 v5 D hw; exact hw.elim
  | succ n ih =>
    intro v2 v3 v5 D hw
    have hw : X9_tellsNumber_l92_b G post v0 v1 g1 g2 g3 k75 (X9_tellsNumber_l92 G post v0 v1 g1 g2 g3 k75 n) v2 v3 v5 D := hw
    unfold X9_tellsNumber_l92_b at hw
    refine j_iload C dX9_tellsNumber_92 3 rfl ?_
    refine j_if_lt (tgt := 139) C dX9_tellsNumber_94 (by decide) (fun hc => ?_) (fun hc => ?_)
    · have hw := hw.1 hc
      obtain ⟨n, hw⟩ := hw
      exact J.sub (X9_tellsNumber_l139_ok C K ho_v0 hr_g1 ho_g1 hr_g2 ho_g2 hr_g3 ho_g3 hk75 n v2 v3 D hw) [0, 1, 2] rfl
    · have hw := hw.2 hc
      refine j_lload_n C dX9_tellsNumber_97 rfl 2 rfl ?_
      refine j_bipush (v := 30) C dX9_tellsNumber_98 (by decide) ?_
      refine j_lshl C dX9_tellsNumber_100 ?_
      refine j_aload_n C dX9_tellsNumber_101 rfl 0 rfl ?_
      refine gf_9_3 C ho_v0 hr_g1 k_767 dX9_tellsNumber_102 ?_
      refine j_iload C dX9_tellsNumber_105 3 rfl ?_
      obtain ⟨hi1, hw⟩ := hw
      refine j_iald C ho_g1 hi1 dX9_tellsNumber_107 ?_
      refine j_i2l C dX9_tellsNumber_108 ?_
      refine j_lor C dX9_tellsNumber_109 ?_
      refine j_lstore C dX9_tellsNumber_110 (by decide) rfl ?_
      refine j_aload_n C dX9_tellsNumber_112 rfl 1 rfl ?_
      refine gf_9_3 C ho_v0 hr_g1 k_767 dX9_tellsNumber_113 ?_
      refine j_iload C dX9_tellsNumber_116 4 rfl ?_
      refine j_lload C dX9_tellsNumber_118 0 rfl ?_
      refine j_ldc2 (v := 10) C k_1076 dX9_tellsNumber_120 ?_
      obtain ⟨hz2, hw⟩ := hw
      refine j_ldiv C dX9_tellsNumber_123 hz2 ?_
      refine j_l2i C dX9_tellsNumber_124 ?_
      obtain ⟨hi3, hw⟩ := hw
      refine j_iast C ho_g1 hi3 dX9_tellsNumber_125 ?_
      refine j_lload C dX9_tellsNumber_126 0 rfl ?_
      refine j_ldc2 (v := 10) C k_1076 dX9_tellsNumber_128 ?_
      obtain ⟨hz4, hw⟩ := hw
      refine j_lrem C dX9_tellsNumber_131 hz4 ?_
      refine j_lstore_n C dX9_tellsNumber_132 rfl (by decide) rfl ?_
      refine j_iinc (v := v5 + (-1)) C dX9_tellsNumber_133 4 rfl rfl (by decide) rfl ?_
      refine j_goto (tgt := 92) C dX9_tellsNumber_136 (by decide) ?_
      exact J.sub (ih v2 (((v3 <<< ((30 : Int32).toInt64 &&& 63)) ||| ((D.1 g1 v5.toNatClampNeg).toInt64)) - ((v3 <<< ((30 : Int32).toInt64 &&& 63)) ||| ((D.1 g1 v5.toNatClampNeg).toInt64)) / 10 * 10) (v5 + (-1)) (dI D g1 v5.toNatClampNeg ((((v3 <<< ((30 : Int32).toInt64 &&& 63)) ||| ((D.1 g1 v5.toNatClampNeg).toInt64)) / 10).toInt32)) hw) [3, 4, 1, 0] rfl
def X9_tellsNumber_l75_b (G : Shp) (post : Dat → Prop) (v0 : Nat) (v1 : Int32) (g1 : Nat) (g2 : Nat) (g3 : Nat) (rec : Int32 → Dat → Prop) (v2 : Int32) (D : Dat) : Prop := (((D.1 v0 6) ≤ 0 → ∃ n, X9_tellsNumber_l195 G post v0 v1 g1 g2 g3 n v2 ((D.1 v0 9) - 1) D) ∧ (¬ ((D.1 v0 6) ≤ 0) → ∃ n, X9_tellsNumber_l92 G post v0 v1 g1 g2 g3 rec n v2 0 ((D.1 v0 6) - 1) D))
def X9_tellsNumber_l75 (G : Shp) (post : Dat → Prop) (v0 : Nat) (v1 : Int32) (g1 : Nat) (g2 : Nat) (g3 : Nat) : Nat → Int32 → Dat → Prop
  | 0 => fun _ _ => False
  | n + 1 => X9_tellsNumber_l75_b G post v0 v1 g1 g2 g3 (X9_tellsNumber_l75 G post v0 v1 g1 g2 g3 n)
set_option maxRecDepth 100000 in
set_option maxHeartbeats 4000000 in
theorem X9_tellsNumber_l75_ok {κ : Ctx} {G : Shp} {post : Dat → Prop} {v0 : Nat} {v1 : Int32} {g1 : Nat} {g2 : Nat} {g3 : Nat} (C : Cx κ cX9_tellsNumber RX9 (rmN 1) 8) (K : RtV κ cX9_tellsNumber G post) (ho_v0 : isO G v0 9) (hr_g1 : G.2.2.2 v0 3 = some g1) (ho_g1 : isO G g1 11) (hr_g2 : G.2.2.2 v0 1 = some g2) (ho_g2 : isO G g2 11) (hr_g3 : G.2.2.2 v0 8 = some g3) (ho_g3 : isO G g3 11) : ∀ (n : Nat) (v2 : Int32) (D : Dat), X9_tellsNumber_l75 G post v0 v1 g1 g2 g3 n v2 D → J κ 0 0 G D 75 [(0, .ref v0), (2, .int v2)] [] := by
  intro n
  induction n with
  | zero => intro v2 D hw; exact hw.elim
  | succ n ih =>
    intro v2 D hw
    have hw : X9_tellsNumber_l75_b G post v0 v1 g1 g2 g3 (X9_tellsNumber_l75 G post v0 v1 g1 g2 g3 n) v2 D := hw
    unfold X9_tellsNumber_l75_b at hw
    refine j_aload_n C dX9_tellsNumber_75 rfl 0 rfl ?_
    refine gf_9_6 C ho_v0 k_770 dX9_tellsNumber_76 ?_
    refine j_if_le (tgt := 185) C dX9_tellsNumber_79 (by decide) (fun hc => ?_) (fun hc => ?_)
    · have hw := hw.1 hc
      refine j_iload_n C dX9_tellsNumber_185 rfl 1 rfl ?_
      refine j_istore_n C dX9_tellsNumber_186 rfl (by decide) rfl ?_
      refine j_aload_n C dX9_tellsNumber_187 rfl 1 rfl ?_
      refine gf_9_9 C ho_v0 k_773 dX9_tellsNumber_188 ?_
      refine j_iconst (v := 1) C dX9_tellsNumber_191 (by decide) ?_
      refine j_isub C dX9_tellsNumber_192 ?_
      refine j_istore C dX9_tellsNumber_193 (by decide) rfl ?_
      obtain ⟨n, hw⟩ := hw
      exact J.sub (X9_tellsNumber_l195_ok C K ho_v0 hr_g1 ho_g1 hr_g2 ho_g2 hr_g3 ho_g3 n v2 ((D.1 v0 9) - 1) D hw) [2, 1, 0] rfl
    · have hw := hw.2 hc
      refine j_lconst (v := 0) C dX9_tellsNumber_82 (by decide) ?_
      refine j_lstore_n C dX9_tellsNumber_83 rfl (by decide) rfl ?_
      refine j_aload_n C dX9_tellsNumber_84 rfl 1 rfl ?_
      refine gf_9_6 C ho_v0 k_770 dX9_tellsNumber_85 ?_
      refine j_iconst (v := 1) C dX9_tellsNumber_88 (by decide) ?_
      refine j_isub C dX9_tellsNumber_89 ?_
      refine j_istore C dX9_tellsNumber_90 (by decide) rfl ?_
      obtain ⟨n, hw⟩ := hw
      exact J.sub (X9_tellsNumber_l92_ok C K ho_v0 hr_g1 ho_g1 hr_g2 ho_g2 hr_g3 ho_g3 ih n v2 0 ((D.1 v0 6) - 1) D hw) [2, 3, 1, 0] rfl
def X9_tellsNumber_l35_b (G : Shp) (post : Dat → Prop) (v0 : Nat) (v1 : Int32) (g1 : Nat) (g2 : Nat) (g3 : Nat) (rec : Int32 → Int32 → Dat → Prop) (v2 : Int32) (v3 : Int32) (D : Dat) : Prop := X9_size_wp G D v0 v1 (fun r1 D2 => ((r1 ≤ v3 → X9_size_wp G D2 v0 v1 (fun r3 D4 => ∃ n, X9_tellsNumber_l75 G post v0 v1 g1 g2 g3 n v2 (dI D4 v0 6 r3))) ∧ (¬ (r1 ≤ v3) → (vp_in ((v1 + 1) + v3) (G.2.2.1 g2) ∧ vp_in v3 (G.2.2.1 g1) ∧ rec v2 (v3 + 1) (dI D2 g1 v3.toNatClampNeg (D2.1 g2 ((v1 + 1) + v3).toNatClampNeg))))))
def X9_tellsNumber_l35 (G : Shp) (post : Dat → Prop) (v0 : Nat) (v1 : Int32) (g1 : Nat) (g2 : Nat) (g3 : Nat) : Nat → Int32 → Int32 → Dat → Prop
  | 0 => fun _ _ _ => False
  | n + 1 => X9_tellsNumber_l35_b G post v0 v1 g1 g2 g3 (X9_tellsNumber_l35 G post v0 v1 g1 g2 g3 n)
set_option maxRecDepth 100000 in
set_option maxHeartbeats 4000000 in
theorem X9_tellsNumber_l35_ok {κ : Ctx} {G : Shp} {post : Dat → Prop} {v0 : Nat} {v1 : Int32} {g1 : Nat} {g2 : Nat} {g3 : Nat} (C : Cx κ cX9_tellsNumber RX9 (rmN 1) 8) (K : RtV κ cX9_tellsNumber G post) (ho_v0 : isO G v0 9) (hr_g1 : G.2.2.2 v0 3 = some g1) (ho_g1 : isO G g1 11) (hr_g2 : G.2.2.2 v0 1 = some g2) (ho_g2 : isO G g2 11) (hr_g3 : G.2.2.2 v0 8 = some g3) (ho_g3 : isO G g3 11) : ∀ (n : Nat) (v2 : Int32) (v3 : Int32) (D : Dat), X9_tellsNumber_l35 G post v0 v1 g1 g2 g3 n v2 v3 D → J κ 0 0 G D 35 [(0, .ref v0), (1, .int v1), (2, .int v2), (3, .int v3)] [] := by
  intro n
  induction n with
  | zero => intro v2 v3 D hw; exact hw.elim
  | succ n ih =>
    intro v2 v3 D hw
    have hw : X9_tellsNumber_l35_b G post v0 v1 g1 g2 g3 (X9_tellsNumber_l35 G post v0 v1 g1 g2 g3 n) v2 v3 D := hw
    unfold X9_tellsNumber_l35_b at hw
    refine j_iload_n C dX9_tellsNumber_35 rfl 3 rfl ?_
    refine j_aload_n C dX9_tellsNumber_36 rfl 0 rfl ?_
    refine j_iload_n C dX9_tellsNumber_37 rfl 1 rfl ?_
    refine j_cVI (As := [.int v1]) (st := [.int v3]) C (X9_size_ok κ.2.1 G D v0 v1 _ hw) ho_v0 rfl k_998 mv_X9_size ⟨by decide, by decide⟩ ⟨rfl, rfl⟩ rfl rfl (Nat.le_of_ble_eq_true rfl) ⟨Nat.zero_le _, Nat.zero_le _⟩ dX9_tellsNumber_38 (fun r1 D2 hw => ?_)
    refine j_icmp_ge (tgt := 66) C dX9_tellsNumber_41 (by decide) (fun hc => ?_) (fun hc => ?_)
    · have hw := hw.1 hc
      refine j_aload_n C dX9_tellsNumber_66 rfl 0 rfl ?_
      refine j_aload_n C dX9_tellsNumber_67 rfl 0 rfl ?_
      refine j_iload_n C dX9_tellsNumber_68 rfl 1 rfl ?_
      refine j_cVI (As := [.int v1]) (st := [.ref v0]) C (X9_size_ok κ.2.1 G D2 v0 v1 _ hw) ho_v0 rfl k_998 mv_X9_size ⟨by decide, by decide⟩ ⟨rfl, rfl⟩ rfl rfl (Nat.le_of_ble_eq_true rfl) ⟨Nat.zero_le _, Nat.zero_le _⟩ dX9_tellsNumber_69 (fun r3 D4 hw => ?_)
      refine pf_9_6 C ho_v0 k_770 dX9_tellsNumber_72 ?_
      obtain ⟨n, hw⟩ := hw
      exact J.sub (X9_tellsNumber_l75_ok C K ho_v0 hr_g1 ho_g1 hr_g2 ho_g2 hr_g3 ho_g3 n v2 (dI D4 v0 6 r3) hw) [0, 2] rfl
    · have hw := hw.2 hc
      refine j_aload_n C dX9_tellsNumber_44 rfl 0 rfl ?_
      refine gf_9_3 C ho_v0 hr_g1 k_767 dX9_tellsNumber_45 ?_
      refine j_iload_n C dX9_tellsNumber_48 rfl 3 rfl ?_
      refine j_aload_n C dX9_tellsNumber_49 rfl 0 rfl ?_
      refine gf_9_1 C ho_v0 hr_g2 k_765 dX9_tellsNumber_50 ?_
      refine j_iload_n C dX9_tellsNumber_53 rfl 1 rfl ?_
      refine j_iconst (v := 1) C dX9_tellsNumber_54 (by decide) ?_
      refine j_iadd C dX9_tellsNumber_55 ?_
      refine j_iload_n C dX9_tellsNumber_56 rfl 3 rfl ?_
      refine j_iadd C dX9_tellsNumber_57 ?_
      obtain ⟨hi5, hw⟩ := hw
      refine j_iald C ho_g2 hi5 dX9_tellsNumber_58 ?_
      obtain ⟨hi6, hw⟩ := hw
      refine j_iast C ho_g1 hi6 dX9_tellsNumber_59 ?_
      refine j_iinc (v := v3 + 1) C dX9_tellsNumber_60 3 rfl rfl (by decide) rfl ?_
      refine j_goto (tgt := 35) C dX9_tellsNumber_63 (by decide) ?_
      exact J.sub (ih v2 (v3 + 1) (dI D2 g1 v3.toNatClampNeg (D2.1 g2 ((v1 + 1) + v3).toNatClampNeg)) hw) [1, 2, 3, 0] rfl
def X9_tellsNumber_j28 (G : Shp) (post : Dat → Prop) (v0 : Nat) (v1 : Int32) (g1 : Nat) (g2 : Nat) (g3 : Nat) (D : Dat) : Prop := ∃ n, X9_tellsNumber_l35 G post v0 v1 g1 g2 g3 n (D.1 v0 9) 0 D
set_option maxRecDepth 100000 in
set_option maxHeartbeats 4000000 in
theorem X9_tellsNumber_j28_ok {κ : Ctx} {G : Shp} {post : Dat → Prop} {v0 : Nat} {v1 : Int32} {g1 : Nat} {g2 : Nat} {g3 : Nat} (C : Cx κ cX9_tellsNumber RX9 (rmN 1) 8) (K : RtV κ cX9_tellsNumber G post) (ho_v0 : isO G v0 9) (hr_g1 : G.2.2.2 v0 3 = some g1) (ho_g1 : isO G g1 11) (hr_g2 : G.2.2.2 v0 1 = some g2) (ho_g2 : isO G g2 11) (hr_g3 : G.2.2.2 v0 8 = some g3) (ho_g3 : isO G g3 11) (D : Dat) (hw : X9_tellsNumber_j28 G post v0 v1 g1 g2 g3 D) : J κ 0 0 G D 28 [(0, .ref v0), (1, .int v1)] [] := by
  unfold X9_tellsNumber_j28 at hw
  refine j_aload_n C dX9_tellsNumber_28 rfl 0 rfl ?_
  refine gf_9_9 C ho_v0 k_773 dX9_tellsNumber_29 ?_
  refine j_istore_n C dX9_tellsNumber_32 rfl (by decide) rfl ?_
  refine j_iconst (v := 0) C dX9_tellsNumber_33 (by decide) ?_
  refine j_istore_n C dX9_tellsNumber_34 rfl (by decide) rfl ?_
  obtain ⟨n, hw⟩ := hw
  exact J.sub (X9_tellsNumber_l35_ok C K ho_v0 hr_g1 ho_g1 hr_g2 ho_g2 hr_g3 ho_g3 n (D.1 v0 9) 0 D hw) [2, 3, 1, 0] rfl
def X9_tellsNumber_j14 (G : Shp) (post : Dat → Prop) (v0 : Nat) (v1 : Int32) (g1 : Nat) (g2 : Nat) (g3 : Nat) (D : Dat) : Prop := X9_sign_wp G D v0 v1 (fun r1 D2 => ((¬ r1 = 0 → X9_tellsNumber_j28 G post v0 v1 g1 g2 g3 D2) ∧ (r1 = 0 → X9_tells0_wp G D2 v0 48 (fun D4 => X9_tellsNumber_j28 G post v0 v1 g1 g2 g3 D4))))
set_option maxRecDepth 100000 in
set_option maxHeartbeats 4000000 in
theorem X9_tellsNumber_j14_ok {κ : Ctx} {G : Shp} {post : Dat → Prop} {v0 : Nat} {v1 : Int32} {g1 : Nat} {g2 : Nat} {g3 : Nat} (C : Cx κ cX9_tellsNumber RX9 (rmN 1) 8) (K : RtV κ cX9_tellsNumber G post) (ho_v0 : isO G v0 9) (hr_g1 : G.2.2.2 v0 3 = some g1) (ho_g1 : isO G g1 11) (hr_g2 : G.2.2.2 v0 1 = some g2) (ho_g2 : isO G g2 11) (hr_g3 : G.2.2.2 v0 8 = some g3) (ho_g3 : isO G g3 11) (D : Dat) (hw : X9_tellsNumber_j14 G post v0 v1 g1 g2 g3 D) : J κ 0 0 G D 14 [(0, .ref v0), (1, .int v1)] [] := by
  unfold X9_tellsNumber_j14 at hw
  refine j_aload_n C dX9_tellsNumber_14 rfl 0 rfl ?_
  refine j_iload_n C dX9_tellsNumber_15 rfl 1 rfl ?_
  refine j_cVI (As := [.int v1]) (st := []) C (X9_sign_ok κ.2.1 G D v0 v1 _ hw) ho_v0 rfl k_990 mv_X9_sign ⟨by decide, by decide⟩ ⟨rfl, rfl⟩ rfl rfl (Nat.le_of_ble_eq_true rfl) ⟨Nat.zero_le _, Nat.zero_le _⟩ dX9_tellsNumber_16 (fun r1 D2 hw => ?_)
  refine j_if_ne (tgt := 28) C dX9_tellsNumber_19 (by decide) (fun hc => ?_) (fun hc => ?_)
  · have hw := hw.1 hc
    exact J.sub (X9_tellsNumber_j28_ok C K ho_v0 hr_g1 ho_g1 hr_g2 ho_g2 hr_g3 ho_g3 D2 hw) [0, 1] rfl
  · have hw := hw.2 hc
    refine j_aload_n C dX9_tellsNumber_22 rfl 0 rfl ?_
    refine j_bipush (v := 48) C dX9_tellsNumber_23 (by decide) ?_
    refine j_cVV (As := [.int 48]) (st := []) C (X9_tells0_ok κ.2.1 G D2 v0 48 _ hw) ho_v0 rfl k_1072 mv_X9_tells0 ⟨by decide, by decide⟩ ⟨rfl, rfl⟩ rfl rfl (Nat.le_of_ble_eq_true rfl) ⟨Nat.zero_le _, Nat.zero_le _⟩ dX9_tellsNumber_25 (fun D4 hw => ?_)
    exact J.sub (X9_tellsNumber_j28_ok C K ho_v0 hr_g1 ho_g1 hr_g2 ho_g2 hr_g3 ho_g3 D4 hw) [0, 1] rfl
def X9_tellsNumber_wp (G : Shp) (D : Dat) (v0 : Nat) (v1 : Int32) (post : Dat → Prop) : Prop := isO G v0 9 ∧ ∃ g1, G.2.2.2 v0 3 = some g1 ∧ isO G g1 11 ∧ ∃ g2, G.2.2.2 v0 1 = some g2 ∧ isO G g2 11 ∧ ∃ g3, G.2.2.2 v0 8 = some g3 ∧ isO G g3 11 ∧ X9_sign_wp G D v0 v1 (fun r1 D2 => ((0 ≤ r1 → X9_tellsNumber_j14 G post v0 v1 g1 g2 g3 D2) ∧ (¬ (0 ≤ r1) → X9_tells0_wp G D2 v0 45 (fun D4 => X9_tellsNumber_j14 G post v0 v1 g1 g2 g3 D4))))
set_option maxRecDepth 100000 in
set_option maxHeartbeats 4000000 in
theorem X9_tellsNumber_ok (l : Launch) (G : Shp) (D : Dat) (v0 : Nat) (v1 : Int32) (post : Dat → Prop) (hw : X9_tellsNumber_wp G D v0 v1 post) : CtV l yX9_tellsNumber cX9_tellsNumber 8 (rmN 1) [.ref v0, .int v1] G D post := by
  obtain ⟨ho_v0, g1, hr_g1, ho_g1, g2, hr_g2, ho_g2, g3, hr_g3, ho_g3, hw⟩ := hw
  refine ctV_of (by decide) rfl (Nat.le_of_ble_eq_true rfl) ?_
  intro κ hκ C K
  subst hκ
  have C : Cx κ cX9_tellsNumber RX9 (rmN 1) 8 := C
  refine j_aload_n C dX9_tellsNumber_0 rfl 0 rfl ?_
  refine j_iload_n C dX9_tellsNumber_1 rfl 1 rfl ?_
  refine j_cVI (As := [.int v1]) (st := []) C (X9_sign_ok κ.2.1 G D v0 v1 _ hw) ho_v0 rfl k_990 mv_X9_sign ⟨by decide, by decide⟩ ⟨rfl, rfl⟩ rfl rfl (Nat.le_of_ble_eq_true rfl) ⟨Nat.zero_le _, Nat.zero_le _⟩ dX9_tellsNumber_2 (fun r1 D2 hw => ?_)
  refine j_if_ge (tgt := 14) C dX9_tellsNumber_5 (by decide) (fun hc => ?_) (fun hc => ?_)
  · have hw := hw.1 hc
    exact J.sub (X9_tellsNumber_j14_ok C K ho_v0 hr_g1 ho_g1 hr_g2 ho_g2 hr_g3 ho_g3 D2 hw) [0, 1] rfl
  · have hw := hw.2 hc
    refine j_aload_n C dX9_tellsNumber_8 rfl 0 rfl ?_
    refine j_bipush (v := 45) C dX9_tellsNumber_9 (by decide) ?_
    refine j_cVV (As := [.int 45]) (st := []) C (X9_tells0_ok κ.2.1 G D2 v0 45 _ hw) ho_v0 rfl k_1072 mv_X9_tells0 ⟨by decide, by decide⟩ ⟨rfl, rfl⟩ rfl rfl (Nat.le_of_ble_eq_true rfl) ⟨Nat.zero_le _, Nat.zero_le _⟩ dX9_tellsNumber_11 (fun D4 hw => ?_)
    exact J.sub (X9_tellsNumber_j14_ok C K ho_v0 hr_g1 ho_g1 hr_g2 ho_g2 hr_g3 ho_g3 D4 hw) [0, 1] rfl
/-! X9_unstep -/
def X9_unstep_j14 (G : Shp) (post : Int32 → Dat → Prop) (v0 : Nat) (v1 : Int32) (v2 : Int32) (D : Dat) : Prop := X9_is_wp G D v0 1 (fun r1 D2 => (isB r1 ∧ post r1 D2))
set_option maxRecDepth 100000 in
set_option maxHeartbeats 4000000 in
theorem X9_unstep_j14_ok {κ : Ctx} {G : Shp} {post : Int32 → Dat → Prop} {v0 : Nat} {v1 : Int32} {v2 : Int32} (C : Cx κ cX9_unstep RX9 (rmN 1) 4) (K : RtI κ cX9_unstep .boolean G post) (ho_v0 : isO G v0 9) (D : Dat) (hw : X9_unstep_j14 G post v0 v1 v2 D) : J κ 0 0 G D 14 [(0, .ref v0)] [] := by
  unfold X9_unstep_j14 at hw
  refine j_aload_n C dX9_unstep_14 rfl 0 rfl ?_
  refine j_iconst (v := 1) C dX9_unstep_15 (by decide) ?_
  refine j_cVI (As := [.int 1]) (st := []) C (X9_is_ok κ.2.1 G D v0 1 _ hw) ho_v0 rfl k_873 mv_X9_is ⟨by decide, by decide⟩ ⟨rfl, rfl⟩ rfl rfl (Nat.le_of_ble_eq_true rfl) ⟨Nat.zero_le _, Nat.zero_le _⟩ dX9_unstep_16 (fun r1 D2 hw => ?_)
  obtain ⟨hb3, hw⟩ := hw
  exact K _ _ _ _ dX9_unstep_19 (isB_n hb3) hw
def X9_unstep_wp (G : Shp) (D : Dat) (v0 : Nat) (v1 : Int32) (v2 : Int32) (post : Int32 → Dat → Prop) : Prop := isO G v0 9 ∧ X9_isRow_wp G D v1 (fun r1 D2 => ((r1 = 0 → X9_unstep_j14 G post v0 v1 v2 D2) ∧ (¬ (r1 = 0) → X9_isTick_wp G D2 v2 (fun r3 D4 => ((¬ r3 = 0 → X9_findStep_wp G D4 v0 v1 v2 (fun r5 D6 => ((¬ r5 = (-1) → X9_takeStep_wp G D6 v0 v1 r5 (fun D8 => X9_is_wp G D8 v0 0 (fun r9 D10 => (isB r9 ∧ post r9 D10)))) ∧ (r5 = (-1) → X9_is_wp G D6 v0 5 (fun r12 D13 => (isB r12 ∧ post r12 D13)))))) ∧ (r3 = 0 → X9_unstep_j14 G post v0 v1 v2 D4))))))
set_option maxRecDepth 100000 in
set_option maxHeartbeats 4000000 in
theorem X9_unstep_ok (l : Launch) (G : Shp) (D : Dat) (v0 : Nat) (v1 : Int32) (v2 : Int32) (post : Int32 → Dat → Prop) (hw : X9_unstep_wp G D v0 v1 v2 post) : CtI l yX9_unstep cX9_unstep 4 .boolean (rmN 1) [.ref v0, .int v1, .int v2] G D post := by
  obtain ⟨ho_v0, hw⟩ := hw
  refine ctI_of (by decide) rfl (Nat.le_of_ble_eq_true rfl) ?_
  intro κ hκ C K
  subst hκ
  have C : Cx κ cX9_unstep RX9 (rmN 1) 4 := C
  refine j_iload_n C dX9_unstep_0 rfl 1 rfl ?_
  refine j_cSI (As := [.int v1]) (st := []) C (X9_isRow_ok κ.2.1 G D v1 _ hw) k_867 ms_X9_isRow ⟨by decide, by decide⟩ ⟨rfl, rfl⟩ rfl rfl (Nat.le_of_ble_eq_true rfl) ⟨Nat.zero_le _, Nat.zero_le _⟩ dX9_unstep_1 (fun r1 D2 hw => ?_)
  refine j_if_eq (tgt := 14) C dX9_unstep_4 (by decide) (fun hc => ?_) (fun hc => ?_)
  · have hw := hw.1 hc
    exact J.sub (X9_unstep_j14_ok C K ho_v0 D2 hw) [0] rfl
  · have hw := hw.2 hc
    refine j_iload_n C dX9_unstep_7 rfl 2 rfl ?_
    refine j_cSI (As := [.int v2]) (st := []) C (X9_isTick_ok κ.2.1 G D2 v2 _ hw) k_870 ms_X9_isTick ⟨by decide, by decide⟩ ⟨rfl, rfl⟩ rfl rfl (Nat.le_of_ble_eq_true rfl) ⟨Nat.zero_le _, Nat.zero_le _⟩ dX9_unstep_8 (fun r3 D4 hw => ?_)
    refine j_if_ne (tgt := 20) C dX9_unstep_11 (by decide) (fun hc => ?_) (fun hc => ?_)
    · have hw := hw.1 hc
      refine j_aload_n C dX9_unstep_20 rfl 0 rfl ?_
      refine j_iload_n C dX9_unstep_21 rfl 1 rfl ?_
      refine j_iload_n C dX9_unstep_22 rfl 2 rfl ?_
      refine j_cVI (As := [.int v1, .int v2]) (st := []) C (X9_findStep_ok κ.2.1 G D4 v0 v1 v2 _ hw) ho_v0 rfl k_917 mv_X9_findStep ⟨by decide, by decide⟩ ⟨rfl, rfl⟩ rfl rfl (Nat.le_of_ble_eq_true rfl) ⟨Nat.zero_le _, Nat.zero_le _⟩ dX9_unstep_23 (fun r5 D6 hw => ?_)
      refine j_istore_n C dX9_unstep_26 rfl (by decide) rfl ?_
      refine j_iload_n C dX9_unstep_27 rfl 0 rfl ?_
      refine j_iconst (v := (-1)) C dX9_unstep_28 (by decide) ?_
      refine j_icmp_ne (tgt := 38) C dX9_unstep_29 (by decide) (fun hc => ?_) (fun hc => ?_)
      · have hw := hw.1 hc
        refine j_aload_n C dX9_unstep_38 rfl 1 rfl ?_
        refine j_iload_n C dX9_unstep_39 rfl 2 rfl ?_
        refine j_iload_n C dX9_unstep_40 rfl 0 rfl ?_
        refine j_cVV (As := [.int v1, .int r5]) (st := []) C (X9_takeStep_ok κ.2.1 G D6 v0 v1 r5 _ hw) ho_v0 rfl k_929 mv_X9_takeStep ⟨by decide, by decide⟩ ⟨rfl, rfl⟩ rfl rfl (Nat.le_of_ble_eq_true rfl) ⟨Nat.zero_le _, Nat.zero_le _⟩ dX9_unstep_41 (fun D8 hw => ?_)
        refine j_aload_n C dX9_unstep_44 rfl 1 rfl ?_
        refine j_iconst (v := 0) C dX9_unstep_45 (by decide) ?_
        refine j_cVI (As := [.int 0]) (st := []) C (X9_is_ok κ.2.1 G D8 v0 0 _ hw) ho_v0 rfl k_873 mv_X9_is ⟨by decide, by decide⟩ ⟨rfl, rfl⟩ rfl rfl (Nat.le_of_ble_eq_true rfl) ⟨Nat.zero_le _, Nat.zero_le _⟩ dX9_unstep_46 (fun r9 D10 hw => ?_)
        obtain ⟨hb11, hw⟩ := hw
        exact K _ _ _ _ dX9_unstep_49 (isB_n hb11) hw
      · have hw := hw.2 hc
        refine j_aload_n C dX9_unstep_32 rfl 1 rfl ?_
        refine j_iconst (v := 5) C dX9_unstep_33 (by decide) ?_
        refine j_cVI (As := [.int 5]) (st := []) C (X9_is_ok κ.2.1 G D6 v0 5 _ hw) ho_v0 rfl k_873 mv_X9_is ⟨by decide, by decide⟩ ⟨rfl, rfl⟩ rfl rfl (Nat.le_of_ble_eq_true rfl) ⟨Nat.zero_le _, Nat.zero_le _⟩ dX9_unstep_34 (fun r12 D13 hw => ?_)
        obtain ⟨hb14, hw⟩ := hw
        exact K _ _ _ _ dX9_unstep_37 (isB_n hb14) hw
    · have hw := hw.2 hc
      exact J.sub (X9_unstep_j14_ok C K ho_v0 D4 hw) [0] rfl
/-! X9_whole -/
def X9_whole_j81 (G : Shp) (post : Int32 → Dat → Prop) (v0 : Nat) (v1 : Int64) (g1 : Nat) (s0 : Int32) (s1 : Int32) (s2 : Int32) (s3 : Nat) (D : Dat) : Prop := (isO G s3 9 ∧ X9_done_wp G D s3 s2 s1 s0 (fun r2 D3 => post r2 D3))
set_option maxRecDepth 100000 in
set_option maxHeartbeats 4000000 in
theorem X9_whole_j81_ok {κ : Ctx} {G : Shp} {post : Int32 → Dat → Prop} {v0 : Nat} {v1 : Int64} {g1 : Nat} (C : Cx κ cX9_whole RX9 (rmN 1) 6) (K : RtI κ cX9_whole .int G post) (ho_v0 : isO G v0 9) (hr_g1 : G.2.2.2 v0 1 = some g1) (ho_g1 : isO G g1 11) (s0 : Int32) (s1 : Int32) (s2 : Int32) (s3 : Nat) (D : Dat) (hw : X9_whole_j81 G post v0 v1 g1 s0 s1 s2 s3 D) : J κ 0 0 G D 81 [] [.int s0, .int s1, .int s2, .ref s3] := by
  unfold X9_whole_j81 at hw
  obtain ⟨ho1, hw⟩ := hw
  refine j_cVI (As := [.int s2, .int s1, .int s0]) (st := []) C (X9_done_ok κ.2.1 G D s3 s2 s1 s0 _ hw) ho1 rfl k_986 mv_X9_done ⟨by decide, by decide⟩ ⟨rfl, rfl⟩ rfl rfl (Nat.le_of_ble_eq_true rfl) ⟨Nat.zero_le _, Nat.zero_le _⟩ dX9_whole_81 (fun r2 D3 hw => ?_)
  exact K _ _ _ _ dX9_whole_84 rfl hw
def X9_whole_j18 (G : Shp) (post : Int32 → Dat → Prop) (v0 : Nat) (v1 : Int64) (g1 : Nat) (v3 : Int32) (s0 : Int64) (D : Dat) : Prop := (vp_in (v3 + 1) (G.2.2.1 g1) ∧ vp_in (v3 + 2) (G.2.2.1 g1) ∧ vp_in (v3 + 3) (G.2.2.1 g1) ∧ ((0 ≤ v1 → X9_whole_j81 G post v0 v1 g1 0 3 v3 v0 (dI (dI (dI D g1 (v3 + 1).toNatClampNeg ((s0 &&& 1073741823).toInt32)) g1 (v3 + 2).toNatClampNeg ((((s0.toUInt64 >>> ((30 : Int32).toInt64.toUInt64 &&& Int64.toUInt64 63)).toInt64) &&& 1073741823).toInt32)) g1 (v3 + 3).toNatClampNeg (((s0.toUInt64 >>> ((60 : Int32).toInt64.toUInt64 &&& Int64.toUInt64 63)).toInt64).toInt32))) ∧ (¬ (0 ≤ v1) → X9_whole_j81 G post v0 v1 g1 1 3 v3 v0 (dI (dI (dI D g1 (v3 + 1).toNatClampNeg ((s0 &&& 1073741823).toInt32)) g1 (v3 + 2).toNatClampNeg ((((s0.toUInt64 >>> ((30 : Int32).toInt64.toUInt64 &&& Int64.toUInt64 63)).toInt64) &&& 1073741823).toInt32)) g1 (v3 + 3).toNatClampNeg (((s0.toUInt64 >>> ((60 : Int32).toInt64.toUInt64 &&& Int64.toUInt64 63)).toInt64).toInt32)))))
set_option maxRecDepth 100000 in
set_option maxHeartbeats 4000000 in
theorem X9_whole_j18_ok {κ : Ctx} {G : Shp} {post : Int32 → Dat → Prop} {v0 : Nat} {v1 : Int64} {g1 : Nat} (C : Cx κ cX9_whole RX9 (rmN 1) 6) (K : RtI κ cX9_whole .int G post) (ho_v0 : isO G v0 9) (hr_g1 : G.2.2.2 v0 1 = some g1) (ho_g1 : isO G g1 11) (v3 : Int32) (s0 : Int64) (D : Dat) (hw : X9_whole_j18 G post v0 v1 g1 v3 s0 D) : J κ 0 0 G D 18 [(0, .ref v0), (1, .long v1), (3, .int v3)] [.long s0] := by
  unfold X9_whole_j18 at hw
  refine j_lstore C dX9_whole_18 (by decide) rfl ?_
  refine j_aload_n C dX9_whole_20 rfl 1 rfl ?_
  refine gf_9_1 C ho_v0 hr_g1 k_765 dX9_whole_21 ?_
  refine j_iload_n C dX9_whole_24 rfl 3 rfl ?_
  refine j_iconst (v := 1) C dX9_whole_25 (by decide) ?_
  refine j_iadd C dX9_whole_26 ?_
  refine j_lload C dX9_whole_27 0 rfl ?_
  refine j_ldc2 (v := 1073741823) C k_985 dX9_whole_29 ?_
  refine j_land C dX9_whole_32 ?_
  refine j_l2i C dX9_whole_33 ?_
  obtain ⟨hi1, hw⟩ := hw
  refine j_iast C ho_g1 hi1 dX9_whole_34 ?_
  refine j_aload_n C dX9_whole_35 rfl 1 rfl ?_
  refine gf_9_1 C ho_v0 hr_g1 k_765 dX9_whole_36 ?_
  refine j_iload_n C dX9_whole_39 rfl 3 rfl ?_
  refine j_iconst (v := 2) C dX9_whole_40 (by decide) ?_
  refine j_iadd C dX9_whole_41 ?_
  refine j_lload C dX9_whole_42 0 rfl ?_
  refine j_bipush (v := 30) C dX9_whole_44 (by decide) ?_
  refine j_lushr C dX9_whole_46 ?_
  refine j_ldc2 (v := 1073741823) C k_985 dX9_whole_47 ?_
  refine j_land C dX9_whole_50 ?_
  refine j_l2i C dX9_whole_51 ?_
  obtain ⟨hi2, hw⟩ := hw
  refine j_iast C ho_g1 hi2 dX9_whole_52 ?_
  refine j_aload_n C dX9_whole_53 rfl 1 rfl ?_
  refine gf_9_1 C ho_v0 hr_g1 k_765 dX9_whole_54 ?_
  refine j_iload_n C dX9_whole_57 rfl 3 rfl ?_
  refine j_iconst (v := 3) C dX9_whole_58 (by decide) ?_
  refine j_iadd C dX9_whole_59 ?_
  refine j_lload C dX9_whole_60 0 rfl ?_
  refine j_bipush (v := 60) C dX9_whole_62 (by decide) ?_
  refine j_lushr C dX9_whole_64 ?_
  refine j_l2i C dX9_whole_65 ?_
  obtain ⟨hi3, hw⟩ := hw
  refine j_iast C ho_g1 hi3 dX9_whole_66 ?_
  refine j_aload_n C dX9_whole_67 rfl 1 rfl ?_
  refine j_iload_n C dX9_whole_68 rfl 3 rfl ?_
  refine j_iconst (v := 3) C dX9_whole_69 (by decide) ?_
  refine j_lload_n C dX9_whole_70 rfl 2 rfl ?_
  refine j_lconst (v := 0) C dX9_whole_71 (by decide) ?_
  refine j_lcmp_ge (tgt := 80) C dX9_whole_72 dX9_whole_73 (by decide) (fun hc => ?_) (fun hc => ?_)
  · have hw := hw.1 hc
    refine j_iconst (v := 0) C dX9_whole_80 (by decide) ?_
    exact J.sub (X9_whole_j81_ok C K ho_v0 hr_g1 ho_g1 0 3 v3 v0 (dI (dI (dI D g1 (v3 + 1).toNatClampNeg ((s0 &&& 1073741823).toInt32)) g1 (v3 + 2).toNatClampNeg ((((s0.toUInt64 >>> ((30 : Int32).toInt64.toUInt64 &&& Int64.toUInt64 63)).toInt64) &&& 1073741823).toInt32)) g1 (v3 + 3).toNatClampNeg (((s0.toUInt64 >>> ((60 : Int32).toInt64.toUInt64 &&& Int64.toUInt64 63)).toInt64).toInt32)) hw) [] rfl
  · have hw := hw.2 hc
    refine j_iconst (v := 1) C dX9_whole_76 (by decide) ?_
    refine j_goto (tgt := 81) C dX9_whole_77 (by decide) ?_
    exact J.sub (X9_whole_j81_ok C K ho_v0 hr_g1 ho_g1 1 3 v3 v0 (dI (dI (dI D g1 (v3 + 1).toNatClampNeg ((s0 &&& 1073741823).toInt32)) g1 (v3 + 2).toNatClampNeg ((((s0.toUInt64 >>> ((30 : Int32).toInt64.toUInt64 &&& Int64.toUInt64 63)).toInt64) &&& 1073741823).toInt32)) g1 (v3 + 3).toNatClampNeg (((s0.toUInt64 >>> ((60 : Int32).toInt64.toUInt64 &&& Int64.toUInt64 63)).toInt64).toInt32)) hw) [] rfl
def X9_whole_wp (G : Shp) (D : Dat) (v0 : Nat) (v1 : Int64) (post : Int32 → Dat → Prop) : Prop := isO G v0 9 ∧ ∃ g1, G.2.2.2 v0 1 = some g1 ∧ isO G g1 11 ∧ X9_room_wp G D v0 3 (fun r1 D2 => ((0 ≤ v1 → X9_whole_j18 G post v0 v1 g1 r1 v1 D2) ∧ (¬ (0 ≤ v1) → X9_whole_j18 G post v0 v1 g1 r1 (-v1) D2)))
set_option maxRecDepth 100000 in
set_option maxHeartbeats 4000000 in
theorem X9_whole_ok (l : Launch) (G : Shp) (D : Dat) (v0 : Nat) (v1 : Int64) (post : Int32 → Dat → Prop) (hw : X9_whole_wp G D v0 v1 post) : CtI l yX9_whole cX9_whole 6 .int (rmN 1) [.ref v0, .long v1] G D post := by
  obtain ⟨ho_v0, g1, hr_g1, ho_g1, hw⟩ := hw
  refine ctI_of (by decide) rfl (Nat.le_of_ble_eq_true rfl) ?_
  intro κ hκ C K
  subst hκ
  have C : Cx κ cX9_whole RX9 (rmN 1) 6 := C
  refine j_aload_n C dX9_whole_0 rfl 0 rfl ?_
  refine j_iconst (v := 3) C dX9_whole_1 (by decide) ?_
  refine j_cVI (As := [.int 3]) (st := []) C (X9_room_ok κ.2.1 G D v0 3 _ hw) ho_v0 rfl k_981 mv_X9_room ⟨by decide, by decide⟩ ⟨rfl, rfl⟩ rfl rfl (Nat.le_of_ble_eq_true rfl) ⟨Nat.zero_le _, Nat.zero_le _⟩ dX9_whole_2 (fun r1 D2 hw => ?_)
  refine j_istore_n C dX9_whole_5 rfl (by decide) rfl ?_
  refine j_lload_n C dX9_whole_6 rfl 2 rfl ?_
  refine j_lconst (v := 0) C dX9_whole_7 (by decide) ?_
  refine j_lcmp_ge (tgt := 17) C dX9_whole_8 dX9_whole_9 (by decide) (fun hc => ?_) (fun hc => ?_)
  · have hw := hw.1 hc
    refine j_lload_n C dX9_whole_17 rfl 2 rfl ?_
    exact J.sub (X9_whole_j18_ok C K ho_v0 hr_g1 ho_g1 r1 v1 D2 hw) [1, 2, 0] rfl
  · have hw := hw.2 hc
    refine j_lload_n C dX9_whole_12 rfl 2 rfl ?_
    refine j_lneg C dX9_whole_13 ?_
    refine j_goto (tgt := 18) C dX9_whole_14 (by decide) ?_
    exact J.sub (X9_whole_j18_ok C K ho_v0 hr_g1 ho_g1 r1 (-v1) D2 hw) [1, 2, 0] rfl
/-! X0_divide -/
def X0_divide_l73_b (G : Shp) (post : Int64 → Dat → Prop) (v0 : Nat) (v1 : Int64) (g1 : Nat) (k50 : Int32 → Int64 → Int64 → Int32 → Dat → Prop) (rec : Int32 → Int64 → Int64 → Int32 → Int64 → Int64 → Int32 → Dat → Prop) (v3 : Int32) (v4 : Int64) (v6 : Int64) (v8 : Int32) (v9 : Int64) (v11 : Int64) (v13 : Int32) (D : Dat) : Prop := ((v13 < 0 → (vp_in v8 (G.2.2.1 g1) ∧ k50 v3 v4 v6 (v8 + (-1)) (dJ D g1 v8.toNatClampNeg v11))) ∧ (¬ (v13 < 0) → (¬ v1 = 0 ∧ rec v3 v4 (((v6 <<< (v3.toInt64 &&& 63)) + ((v9 >>> (v13.toInt64 &&& 63)) &&& v4)) - ((((v6 <<< (v3.toInt64 &&& 63)) + ((v9 >>> (v13.toInt64 &&& 63)) &&& v4)) / v1) * v1)) v8 v9 ((v11 <<< (v3.toInt64 &&& 63)) + (((v6 <<< (v3.toInt64 &&& 63)) + ((v9 >>> (v13.toInt64 &&& 63)) &&& v4)) / v1)) (v13 - v3) D)))
def X0_divide_l73 (G : Shp) (post : Int64 → Dat → Prop) (v0 : Nat) (v1 : Int64) (g1 : Nat) (k50 : Int32 → Int64 → Int64 → Int32 → Dat → Prop) : Nat → Int32 → Int64 → Int64 → Int32 → Int64 → Int64 → Int32 → Dat → Prop
  | 0 => fun _ _ _ _ _ _ _ _ => False
  | n + 1 => X0_divide_l73_b G post v0 v1 g1 k50 (X0_divide_l73 G post v0 v1 g1 k50 n)
set_option maxRecDepth 100000 in
set_option maxHeartbeats 4000000 in
theorem X0_divide_l73_ok {κ : Ctx} {G : Shp} {post : Int64 → Dat → Prop} {v0 : Nat} {v1 : Int64} {g1 : Nat} (C : Cx κ cX0_divide RX0 (rmN 2) 18) (K : RtL κ cX0_divide G post) (ho_v0 : isO G v0 0) (hr_g1 : G.2.2.2 v0 0 = some g1) (ho_g1 : isO G g1 12) {k50 : Int32 → Int64 → Int64 → Int32 → Dat → Prop} (hk50 : ∀ (v3 : Int32) (v4 : Int64) (v6 : Int64) (v8 : Int32) (D : Dat), k50 v3 v4 v6 v8 D → J κ 0 0 G D 50 [(0, .ref v0), (1, .long v1), (3, .int v3), (4, .long v4), (6, .long v6), (8, .int v8)] []) : ∀ (n : Nat) (v3 : Int32) (v4 : Int64) (v6 : Int64) (v8 : Int32) (v9 : Int64) (v11 : Int64) (v13 : Int32) (D : Dat), X0_divide_l73 G post v0 v1 g1 k50 n v3 v4 v6 v8 v9 v11 v13 D → J κ 0 0 G D 73 [(0, .ref v0), (1, .long v1), (3, .int v3), (4, .long v4), (6, .long v6), (8, .int v8), (9, .long v9), (11, .long v11), (13, .int v13)] [] := by
  intro n
  induction n with
  | zero => intro v3 v4 v6 v8 v9 v11 v13 D hw; exact hw.elim
  | succ n ih =>
    intro v3 v4 v6 v8 v9 v11 v13 D hw
    have hw : X0_divide_l73_b G post v0 v1 g1 k50 (X0_divide_l73 G post v0 v1 g1 k50 n) v3 v4 v6 v8 v9 v11 v13 D := hw
    unfold X0_divide_l73_b at hw
    refine j_iload C dX0_divide_73 8 rfl ?_
    refine j_if_lt (tgt := 126) C dX0_divide_75 (by decide) (fun hc => ?_) (fun hc => ?_)
    · have hw := hw.1 hc
      refine j_aload_n C dX0_divide_126 rfl 0 rfl ?_
      refine gf_0_0 C ho_v0 hr_g1 k_43 dX0_divide_127 ?_
      refine j_iload C dX0_divide_130 5 rfl ?_
      refine j_lload C dX0_divide_132 7 rfl ?_
      obtain ⟨hi1, hw⟩ := hw
      refine j_last C ho_g1 hi1 dX0_divide_134 ?_
      refine j_iinc (v := v8 + (-1)) C dX0_divide_135 5 rfl rfl (by decide) rfl ?_
      refine j_goto (tgt := 50) C dX0_divide_138 (by decide) ?_
      exact J.sub (hk50 v3 v4 v6 (v8 + (-1)) (dJ D g1 v8.toNatClampNeg v11) hw) [1, 2, 3, 4, 5, 0] rfl
    · have hw := hw.2 hc
      refine j_lload C dX0_divide_78 4 rfl ?_
      refine j_iload_n C dX0_divide_80 rfl 2 rfl ?_
      refine j_lshl C dX0_divide_81 ?_
      refine j_lload C dX0_divide_82 6 rfl ?_
      refine j_iload C dX0_divide_84 8 rfl ?_
      refine j_lshr C dX0_divide_86 ?_
      refine j_lload C dX0_divide_87 3 rfl ?_
      refine j_land C dX0_divide_89 ?_
      refine j_ladd C dX0_divide_90 ?_
      refine j_lstore C dX0_divide_91 (by decide) rfl ?_
      refine j_lload C dX0_divide_93 0 rfl ?_
      refine j_lload_n C dX0_divide_95 rfl 2 rfl ?_
      obtain ⟨hz2, hw⟩ := hw
      refine j_ldiv C dX0_divide_96 hz2 ?_
      refine j_lstore C dX0_divide_97 (by decide) rfl ?_
      refine j_lload C dX0_divide_99 1 rfl ?_
      refine j_lload C dX0_divide_101 0 rfl ?_
      refine j_lload_n C dX0_divide_103 rfl 3 rfl ?_
      refine j_lmul C dX0_divide_104 ?_
      refine j_lsub C dX0_divide_105 ?_
      refine j_lstore C dX0_divide_106 (by decide) rfl ?_
      refine j_lload C dX0_divide_108 9 rfl ?_
      refine j_iload_n C dX0_divide_110 rfl 5 rfl ?_
      refine j_lshl C dX0_divide_111 ?_
      refine j_lload C dX0_divide_112 1 rfl ?_
      refine j_ladd C dX0_divide_114 ?_
      refine j_lstore C dX0_divide_115 (by decide) rfl ?_
      refine j_iload C dX0_divide_117 10 rfl ?_
      refine j_iload_n C dX0_divide_119 rfl 6 rfl ?_
      refine j_isub C dX0_divide_120 ?_
      refine j_istore C dX0_divide_121 (by decide) rfl ?_
      refine j_goto (tgt := 73) C dX0_divide_123 (by decide) ?_
      exact J.sub (ih v3 v4 (((v6 <<< (v3.toInt64 &&& 63)) + ((v9 >>> (v13.toInt64 &&& 63)) &&& v4)) - ((((v6 <<< (v3.toInt64 &&& 63)) + ((v9 >>> (v13.toInt64 &&& 63)) &&& v4)) / v1) * v1)) v8 v9 ((v11 <<< (v3.toInt64 &&& 63)) + (((v6 <<< (v3.toInt64 &&& 63)) + ((v9 >>> (v13.toInt64 &&& 63)) &&& v4)) / v1)) (v13 - v3) D hw) [5, 6, 7, 8, 2, 9, 10, 1, 0] rfl
def X0_divide_l50_b (G : Shp) (post : Int64 → Dat → Prop) (v0 : Nat) (v1 : Int64) (g1 : Nat) (rec : Int32 → Int64 → Int64 → Int32 → Dat → Prop) (v3 : Int32) (v4 : Int64) (v6 : Int64) (v8 : Int32) (D : Dat) : Prop := ((v8 < 0 → X0_trim_wp G D v0 (D.1 v0 1) (fun D2 => post v6 D2)) ∧ (¬ (v8 < 0) → (vp_in v8 (G.2.2.1 g1) ∧ ∃ n, X0_divide_l73 G post v0 v1 g1 rec n v3 v4 v6 v8 (D.2 g1 v8.toNatClampNeg) 0 (27 - v3) D)))
def X0_divide_l50 (G : Shp) (post : Int64 → Dat → Prop) (v0 : Nat) (v1 : Int64) (g1 : Nat) : Nat → Int32 → Int64 → Int64 → Int32 → Dat → Prop
  | 0 => fun _ _ _ _ _ => False
  | n + 1 => X0_divide_l50_b G post v0 v1 g1 (X0_divide_l50 G post v0 v1 g1 n)
set_option maxRecDepth 100000 in
set_option maxHeartbeats 4000000 in
theorem X0_divide_l50_ok {κ : Ctx} {G : Shp} {post : Int64 → Dat → Prop} {v0 : Nat} {v1 : Int64} {g1 : Nat} (C : Cx κ cX0_divide RX0 (rmN 2) 18) (K : RtL κ cX0_divide G post) (ho_v0 : isO G v0 0) (hr_g1 : G.2.2.2 v0 0 = some g1) (ho_g1 : isO G g1 12) : ∀ (n : Nat) (v3 : Int32) (v4 : Int64) (v6 : Int64) (v8 : Int32) (D : Dat), X0_divide_l50 G post v0 v1 g1 n v3 v4 v6 v8 D → J κ 0 0 G D 50 [(0, .ref v0), (1, .long v1), (3, .int v3), (4, .long v4), (6, .long v6), (8, .int v8)] [] := by
  intro n
  induction n with
  | zero => intro v3 v4 v6 v8 D hw; exact hw.elim
  | succ n ih =>
    intro v3 v4 v6 v8 D hw
    have hw : X0_divide_l50_b G post v0 v1 g1 (X0_divide_l50 G post v0 v1 g1 n) v3 v4 v6 v8 D := hw
    unfold X0_divide_l50_b at hw
    refine j_iload C dX0_divide_50 5 rfl ?_
    refine j_if_lt (tgt := 141) C dX0_divide_52 (by decide) (fun hc => ?_) (fun hc => ?_)
    · have hw := hw.1 hc
      refine j_aload_n C dX0_divide_141 rfl 0 rfl ?_
      refine j_aload_n C dX0_divide_142 rfl 0 rfl ?_
      refine gf_0_1 C ho_v0 k_45 dX0_divide_143 ?_
      refine j_cVV (As := [.int (D.1 v0 1)]) (st := []) C (X0_trim_ok κ.2.1 G D v0 (D.1 v0 1) _ hw) ho_v0 rfl k_525 mv_X0_trim ⟨by decide, by decide⟩ ⟨rfl, rfl⟩ rfl rfl (Nat.le_of_ble_eq_true rfl) ⟨Nat.zero_le _, Nat.zero_le _⟩ dX0_divide_146 (fun D2 hw => ?_)
      refine j_lload C dX0_divide_149 4 rfl ?_
      exact K _ _ _ _ dX0_divide_151 hw
    · have hw := hw.2 hc
      refine j_aload_n C dX0_divide_55 rfl 0 rfl ?_
      refine gf_0_0 C ho_v0 hr_g1 k_43 dX0_divide_56 ?_
      refine j_iload C dX0_divide_59 5 rfl ?_
      obtain ⟨hi3, hw⟩ := hw
      refine j_lald C ho_g1 hi3 dX0_divide_61 ?_
      refine j_lstore C dX0_divide_62 (by decide) rfl ?_
      refine j_lconst (v := 0) C dX0_divide_64 (by decide) ?_
      refine j_lstore C dX0_divide_65 (by decide) rfl ?_
      refine j_bipush (v := 27) C dX0_divide_67 (by decide) ?_
      refine j_iload_n C dX0_divide_69 rfl 4 rfl ?_
      refine j_isub C dX0_divide_70 ?_
      refine j_istore C dX0_divide_71 (by decide) rfl ?_
      obtain ⟨n, hw⟩ := hw
      exact J.sub (X0_divide_l73_ok C K ho_v0 hr_g1 ho_g1 ih n v3 v4 v6 v8 (D.2 g1 v8.toNatClampNeg) 0 (27 - v3) D hw) [3, 4, 5, 6, 7, 8, 2, 1, 0] rfl
def X0_divide_j31 (G : Shp) (post : Int64 → Dat → Prop) (v0 : Nat) (v1 : Int64) (g1 : Nat) (s0 : Int32) (D : Dat) : Prop := ∃ n, X0_divide_l50 G post v0 v1 g1 n s0 (((1 : Int64) <<< (s0.toInt64 &&& 63)) - 1) 0 ((D.1 v0 1) - 1) D
set_option maxRecDepth 100000 in
set_option maxHeartbeats 4000000 in
theorem X0_divide_j31_ok {κ : Ctx} {G : Shp} {post : Int64 → Dat → Prop} {v0 : Nat} {v1 : Int64} {g1 : Nat} (C : Cx κ cX0_divide RX0 (rmN 2) 18) (K : RtL κ cX0_divide G post) (ho_v0 : isO G v0 0) (hr_g1 : G.2.2.2 v0 0 = some g1) (ho_g1 : isO G g1 12) (s0 : Int32) (D : Dat) (hw : X0_divide_j31 G post v0 v1 g1 s0 D) : J κ 0 0 G D 31 [(0, .ref v0), (1, .long v1)] [.int s0] := by
  unfold X0_divide_j31 at hw
  refine j_istore_n C dX0_divide_31 rfl (by decide) rfl ?_
  refine j_lconst (v := 1) C dX0_divide_32 (by decide) ?_
  refine j_iload_n C dX0_divide_33 rfl 0 rfl ?_
  refine j_lshl C dX0_divide_34 ?_
  refine j_lconst (v := 1) C dX0_divide_35 (by decide) ?_
  refine j_lsub C dX0_divide_36 ?_
  refine j_lstore C dX0_divide_37 (by decide) rfl ?_
  refine j_lconst (v := 0) C dX0_divide_39 (by decide) ?_
  refine j_lstore C dX0_divide_40 (by decide) rfl ?_
  refine j_aload_n C dX0_divide_42 rfl 3 rfl ?_
  refine gf_0_1 C ho_v0 k_45 dX0_divide_43 ?_
  refine j_iconst (v := 1) C dX0_divide_46 (by decide) ?_
  refine j_isub C dX0_divide_47 ?_
  refine j_istore C dX0_divide_48 (by decide) rfl ?_
  obtain ⟨n, hw⟩ := hw
  exact J.sub (X0_divide_l50_ok C K ho_v0 hr_g1 ho_g1 n s0 (((1 : Int64) <<< (s0.toInt64 &&& 63)) - 1) 0 ((D.1 v0 1) - 1) D hw) [4, 5, 3, 2, 1, 0] rfl
def X0_divide_j14 (G : Shp) (post : Int64 → Dat → Prop) (v0 : Nat) (v1 : Int64) (g1 : Nat) (D : Dat) : Prop := post 0 D
set_option maxRecDepth 100000 in
set_option maxHeartbeats 4000000 in
theorem X0_divide_j14_ok {κ : Ctx} {G : Shp} {post : Int64 → Dat → Prop} {v0 : Nat} {v1 : Int64} {g1 : Nat} (C : Cx κ cX0_divide RX0 (rmN 2) 18) (K : RtL κ cX0_divide G post) (ho_v0 : isO G v0 0) (hr_g1 : G.2.2.2 v0 0 = some g1) (ho_g1 : isO G g1 12) (D : Dat) (hw : X0_divide_j14 G post v0 v1 g1 D) : J κ 0 0 G D 14 [] [] := by
  unfold X0_divide_j14 at hw
  refine j_lconst (v := 0) C dX0_divide_14 (by decide) ?_
  exact K _ _ _ _ dX0_divide_15 hw
def X0_divide_wp (G : Shp) (D : Dat) (v0 : Nat) (v1 : Int64) (post : Int64 → Dat → Prop) : Prop := isO G v0 0 ∧ ∃ g1, G.2.2.2 v0 0 = some g1 ∧ isO G g1 12 ∧ ((v1 ≤ 1 → X0_divide_j14 G post v0 v1 g1 D) ∧ (¬ (v1 ≤ 1) → ((v1 < 18014398509481984 → ((68719476736 ≤ v1 → X0_divide_j31 G post v0 v1 g1 9 D) ∧ (¬ (68719476736 ≤ v1) → X0_divide_j31 G post v0 v1 g1 27 D))) ∧ (¬ (v1 < 18014398509481984) → X0_divide_j14 G post v0 v1 g1 D))))
set_option maxRecDepth 100000 in
set_option maxHeartbeats 4000000 in
theorem X0_divide_ok (l : Launch) (G : Shp) (D : Dat) (v0 : Nat) (v1 : Int64) (post : Int64 → Dat → Prop) (hw : X0_divide_wp G D v0 v1 post) : CtL l yX0_divide cX0_divide 18 (rmN 2) [.ref v0, .long v1] G D post := by
  obtain ⟨ho_v0, g1, hr_g1, ho_g1, hw⟩ := hw
  refine ctL_of (by decide) rfl (Nat.le_of_ble_eq_true rfl) ?_
  intro κ hκ C K
  subst hκ
  have C : Cx κ cX0_divide RX0 (rmN 2) 18 := C
  refine j_lload_n C dX0_divide_0 rfl 1 rfl ?_
  refine j_lconst (v := 1) C dX0_divide_1 (by decide) ?_
  refine j_lcmp_le (tgt := 14) C dX0_divide_2 dX0_divide_3 (by decide) (fun hc => ?_) (fun hc => ?_)
  · have hw := hw.1 hc
    exact J.sub (X0_divide_j14_ok C K ho_v0 hr_g1 ho_g1 D hw) [] rfl
  · have hw := hw.2 hc
    refine j_lload_n C dX0_divide_6 rfl 1 rfl ?_
    refine j_ldc2 (v := 18014398509481984) C k_523 dX0_divide_7 ?_
    refine j_lcmp_lt (tgt := 16) C dX0_divide_10 dX0_divide_11 (by decide) (fun hc => ?_) (fun hc => ?_)
    · have hw := hw.1 hc
      refine j_lload_n C dX0_divide_16 rfl 1 rfl ?_
      refine j_ldc2 (v := 68719476736) C k_524 dX0_divide_17 ?_
      refine j_lcmp_ge (tgt := 29) C dX0_divide_20 dX0_divide_21 (by decide) (fun hc => ?_) (fun hc => ?_)
      · have hw := hw.1 hc
        refine j_bipush (v := 9) C dX0_divide_29 (by decide) ?_
        exact J.sub (X0_divide_j31_ok C K ho_v0 hr_g1 ho_g1 9 D hw) [0, 1] rfl
      · have hw := hw.2 hc
        refine j_bipush (v := 27) C dX0_divide_24 (by decide) ?_
        refine j_goto (tgt := 31) C dX0_divide_26 (by decide) ?_
        exact J.sub (X0_divide_j31_ok C K ho_v0 hr_g1 ho_g1 27 D hw) [0, 1] rfl
    · have hw := hw.2 hc
      exact J.sub (X0_divide_j14_ok C K ho_v0 hr_g1 ho_g1 D hw) [] rfl
/-! X1_start -/
def X1_start_wp (G : Shp) (D : Dat) (v0 : Nat) (post : Dat → Prop) : Prop := isO G v0 1 ∧ ∃ g1, G.2.2.2 v0 1 = some g1 ∧ isO G g1 0 ∧ ∃ g2, G.2.2.2 v0 2 = some g2 ∧ isO G g2 0 ∧ X0_setTo_wp G D g1 0 (fun D2 => X0_setTo_wp G D2 g2 1 (fun D4 => post (dI D4 v0 5 0)))
set_option maxRecDepth 100000 in
set_option maxHeartbeats 4000000 in
theorem X1_start_ok (l : Launch) (G : Shp) (D : Dat) (v0 : Nat) (post : Dat → Prop) (hw : X1_start_wp G D v0 post) : CtV l yX1_start cX1_start 1 (rmN 2) [.ref v0] G D post := by
  obtain ⟨ho_v0, g1, hr_g1, ho_g1, g2, hr_g2, ho_g2, hw⟩ := hw
  refine ctV_of (by decide) rfl (Nat.le_of_ble_eq_true rfl) ?_
  intro κ hκ C K
  subst hκ
  have C : Cx κ cX1_start RX1 (rmN 2) 1 := C
  refine j_aload_n C dX1_start_0 rfl 0 rfl ?_
  refine gf_1_1 C ho_v0 hr_g1 k_231 dX1_start_1 ?_
  refine j_lconst (v := 0) C dX1_start_4 (by decide) ?_
  refine j_cVV (As := [.long 0]) (st := []) C (X0_setTo_ok κ.2.1 G D g1 0 _ hw) ho_g1 rfl k_554 mv_X0_setTo ⟨by decide, by decide⟩ ⟨rfl, rfl⟩ rfl rfl (Nat.le_of_ble_eq_true rfl) ⟨Nat.zero_le _, Nat.zero_le _⟩ dX1_start_5 (fun D2 hw => ?_)
  refine j_aload_n C dX1_start_8 rfl 0 rfl ?_
  refine gf_1_2 C ho_v0 hr_g2 k_233 dX1_start_9 ?_
  refine j_lconst (v := 1) C dX1_start_12 (by decide) ?_
  refine j_cVV (As := [.long 1]) (st := []) C (X0_setTo_ok κ.2.1 G D2 g2 1 _ hw) ho_g2 rfl k_554 mv_X0_setTo ⟨by decide, by decide⟩ ⟨rfl, rfl⟩ rfl rfl (Nat.le_of_ble_eq_true rfl) ⟨Nat.zero_le _, Nat.zero_le _⟩ dX1_start_13 (fun D4 hw => ?_)
  refine j_aload_n C dX1_start_16 rfl 0 rfl ?_
  refine j_iconst (v := 0) C dX1_start_17 (by decide) ?_
  refine pf_1_5 C ho_v0 k_237 dX1_start_18 ?_
  exact K _ _ _ dX1_start_21 hw
/-! X2_addPlaceTops -/
def X2_addPlaceTops_l2_b (G : Shp) (post : Dat → Prop) (v0 : Nat) (v1 : Int64) (g1 : Nat) (g2 : Nat) (rec : Int32 → Dat → Prop) (v3 : Int32) (D : Dat) : Prop := (((D.1 v0 10) ≤ v3 → post D) ∧ (¬ ((D.1 v0 10) ≤ v3) → (vp_in v3 (G.2.2.1 g2) ∧ ∃ y2, G.2.2.2 g2 v3.toNatClampNeg = some y2 ∧ isO G y2 0 ∧ X6_addTimes_wp G D g1 y2 v1 (fun D6 => rec (v3 + 1) D6))))
def X2_addPlaceTops_l2 (G : Shp) (post : Dat → Prop) (v0 : Nat) (v1 : Int64) (g1 : Nat) (g2 : Nat) : Nat → Int32 → Dat → Prop
  | 0 => fun _ _ => False
  | n + 1 => X2_addPlaceTops_l2_b G post v0 v1 g1 g2 (X2_addPlaceTops_l2 G post v0 v1 g1 g2 n)
set_option maxRecDepth 100000 in
set_option maxHeartbeats 4000000 in
theorem X2_addPlaceTops_l2_ok {κ : Ctx} {G : Shp} {post : Dat → Prop} {v0 : Nat} {v1 : Int64} {g1 : Nat} {g2 : Nat} (C : Cx κ cX2_addPlaceTops RX2 (rmN 2) 4) (K : RtV κ cX2_addPlaceTops G post) (ho_v0 : isO G v0 2) (hr_g1 : G.2.2.2 v0 0 = some g1) (ho_g1 : isO G g1 6) (hr_g2 : G.2.2.2 v0 7 = some g2) (ho_g2 : isO G g2 14) : ∀ (n : Nat) (v3 : Int32) (D : Dat), X2_addPlaceTops_l2 G post v0 v1 g1 g2 n v3 D → J κ 0 0 G D 2 [(0, .ref v0), (1, .long v1), (3, .int v3)] [] := by
  intro n
  induction n with
  | zero => intro v3 D hw; exact hw.elim
  | succ n ih =>
    intro v3 D hw
    have hw : X2_addPlaceTops_l2_b G post v0 v1 g1 g2 (X2_addPlaceTops_l2 G post v0 v1 g1 g2 n) v3 D := hw
    unfold X2_addPlaceTops_l2_b at hw
    refine j_iload_n C dX2_addPlaceTops_2 rfl 2 rfl ?_
    refine j_aload_n C dX2_addPlaceTops_3 rfl 0 rfl ?_
    refine gf_2_10 C ho_v0 k_157 dX2_addPlaceTops_4 ?_
    refine j_icmp_ge (tgt := 30) C dX2_addPlaceTops_7 (by decide) (fun hc => ?_) (fun hc => ?_)
    · have hw := hw.1 hc
      exact K _ _ _ dX2_addPlaceTops_30 hw
    · have hw := hw.2 hc
      refine j_aload_n C dX2_addPlaceTops_10 rfl 0 rfl ?_
      refine gf_2_0 C ho_v0 hr_g1 k_146 dX2_addPlaceTops_11 ?_
      refine j_aload_n C dX2_addPlaceTops_14 rfl 0 rfl ?_
      refine gf_2_7 C ho_v0 hr_g2 k_153 dX2_addPlaceTops_15 ?_
      refine j_iload_n C dX2_addPlaceTops_18 rfl 2 rfl ?_
      obtain ⟨hi1, hw⟩ := hw
      obtain ⟨y2, hr3, ho4, hw⟩ := hw
      refine j_aaldBig C ho_g2 hi1 hr3 dX2_addPlaceTops_19 ?_
      refine j_lload_n C dX2_addPlaceTops_20 rfl 1 rfl ?_
      refine j_cVV (As := [.ref y2, .long v1]) (st := []) C (X6_addTimes_ok κ.2.1 G D g1 y2 v1 _ hw) ho_g1 rfl k_534 mv_X6_addTimes ⟨by decide, by decide⟩ ⟨rfl, rfl⟩ rfl rfl (Nat.le_of_ble_eq_true rfl) ⟨Nat.zero_le _, Nat.zero_le _⟩ dX2_addPlaceTops_21 (fun D6 hw => ?_)
      refine j_iinc (v := v3 + 1) C dX2_addPlaceTops_24 2 rfl rfl (by decide) rfl ?_
      refine j_goto (tgt := 2) C dX2_addPlaceTops_27 (by decide) ?_
      exact J.sub (ih (v3 + 1) D6 hw) [1, 2, 0] rfl
def X2_addPlaceTops_wp (G : Shp) (D : Dat) (v0 : Nat) (v1 : Int64) (post : Dat → Prop) : Prop := isO G v0 2 ∧ ∃ g1, G.2.2.2 v0 0 = some g1 ∧ isO G g1 6 ∧ ∃ g2, G.2.2.2 v0 7 = some g2 ∧ isO G g2 14 ∧ ∃ n, X2_addPlaceTops_l2 G post v0 v1 g1 g2 n 0 D
set_option maxRecDepth 100000 in
set_option maxHeartbeats 4000000 in
theorem X2_addPlaceTops_ok (l : Launch) (G : Shp) (D : Dat) (v0 : Nat) (v1 : Int64) (post : Dat → Prop) (hw : X2_addPlaceTops_wp G D v0 v1 post) : CtV l yX2_addPlaceTops cX2_addPlaceTops 4 (rmN 2) [.ref v0, .long v1] G D post := by
  obtain ⟨ho_v0, g1, hr_g1, ho_g1, g2, hr_g2, ho_g2, hw⟩ := hw
  refine ctV_of (by decide) rfl (Nat.le_of_ble_eq_true rfl) ?_
  intro κ hκ C K
  subst hκ
  have C : Cx κ cX2_addPlaceTops RX2 (rmN 2) 4 := C
  refine j_iconst (v := 0) C dX2_addPlaceTops_0 (by decide) ?_
  refine j_istore_n C dX2_addPlaceTops_1 rfl (by decide) rfl ?_
  obtain ⟨n, hw⟩ := hw
  exact J.sub (X2_addPlaceTops_l2_ok C K ho_v0 hr_g1 ho_g1 hr_g2 ho_g2 n 0 D hw) [1, 2, 0] rfl
/-! X2_addUnknowns -/
def X2_addUnknowns_l11_b (G : Shp) (post : Dat → Prop) (v0 : Nat) (v1 : Int32) (v2 : Int32) (v3 : Int32) (v4 : Int64) (g1 : Nat) (g2 : Nat) (g3 : Nat) (rec : Int32 → Dat → Prop) (v6 : Int32) (D : Dat) : Prop := ((v2 ≤ v6 → post D) ∧ (¬ (v2 ≤ v6) → (vp_in v6 (G.2.2.1 g2) ∧ ∃ y2, G.2.2.2 g2 v6.toNatClampNeg = some y2 ∧ isO G y2 0 ∧ vp_in v6 (G.2.2.1 g3) ∧ ∃ y6, G.2.2.2 g3 v6.toNatClampNeg = some y6 ∧ isO G y6 12 ∧ vp_in v3 (G.2.2.1 y6) ∧ X6_addTimes_wp G D g1 y2 ((D.2 y6 v3.toNatClampNeg) * v4) (fun D11 => rec (v6 + 1) D11))))
def X2_addUnknowns_l11 (G : Shp) (post : Dat → Prop) (v0 : Nat) (v1 : Int32) (v2 : Int32) (v3 : Int32) (v4 : Int64) (g1 : Nat) (g2 : Nat) (g3 : Nat) : Nat → Int32 → Dat → Prop
  | 0 => fun _ _ => False
  | n + 1 => X2_addUnknowns_l11_b G post v0 v1 v2 v3 v4 g1 g2 g3 (X2_addUnknowns_l11 G post v0 v1 v2 v3 v4 g1 g2 g3 n)
set_option maxRecDepth 100000 in
set_option maxHeartbeats 4000000 in
theorem X2_addUnknowns_l11_ok {κ : Ctx} {G : Shp} {post : Dat → Prop} {v0 : Nat} {v1 : Int32} {v2 : Int32} {v3 : Int32} {v4 : Int64} {g1 : Nat} {g2 : Nat} {g3 : Nat} (C : Cx κ cX2_addUnknowns RX2 (rmN 2) 7) (K : RtV κ cX2_addUnknowns G post) (ho_v0 : isO G v0 2) (hr_g1 : G.2.2.2 v0 0 = some g1) (ho_g1 : isO G g1 6) (hr_g2 : G.2.2.2 v0 6 = some g2) (ho_g2 : isO G g2 14) (hr_g3 : G.2.2.2 v0 1 = some g3) (ho_g3 : isO G g3 17) : ∀ (n : Nat) (v6 : Int32) (D : Dat), X2_addUnknowns_l11 G post v0 v1 v2 v3 v4 g1 g2 g3 n v6 D → J κ 0 0 G D 11 [(0, .ref v0), (2, .int v2), (3, .int v3), (4, .long v4), (6, .int v6)] [] := by
  intro n
  induction n with
  | zero => intro v6 D hw; exact hw.elim
  | succ n ih =>
    intro v6 D hw
    have hw : X2_addUnknowns_l11_b G post v0 v1 v2 v3 v4 g1 g2 g3 (X2_addUnknowns_l11 G post v0 v1 v2 v3 v4 g1 g2 g3 n) v6 D := hw
    unfold X2_addUnknowns_l11_b at hw
    refine j_iload C dX2_addUnknowns_11 4 rfl ?_
    refine j_iload_n C dX2_addUnknowns_13 rfl 1 rfl ?_
    refine j_icmp_ge (tgt := 49) C dX2_addUnknowns_14 (by decide) (fun hc => ?_) (fun hc => ?_)
    · have hw := hw.1 hc
      exact K _ _ _ dX2_addUnknowns_49 hw
    · have hw := hw.2 hc
      refine j_aload_n C dX2_addUnknowns_17 rfl 0 rfl ?_
      refine gf_2_0 C ho_v0 hr_g1 k_146 dX2_addUnknowns_18 ?_
      refine j_aload_n C dX2_addUnknowns_21 rfl 0 rfl ?_
      refine gf_2_6 C ho_v0 hr_g2 k_152 dX2_addUnknowns_22 ?_
      refine j_iload C dX2_addUnknowns_25 4 rfl ?_
      obtain ⟨hi1, hw⟩ := hw
      obtain ⟨y2, hr3, ho4, hw⟩ := hw
      refine j_aaldBig C ho_g2 hi1 hr3 dX2_addUnknowns_27 ?_
      refine j_aload_n C dX2_addUnknowns_28 rfl 0 rfl ?_
      refine gf_2_1 C ho_v0 hr_g3 k_147 dX2_addUnknowns_29 ?_
      refine j_iload C dX2_addUnknowns_32 4 rfl ?_
      obtain ⟨hi5, hw⟩ := hw
      obtain ⟨y6, hr7, ho8, hw⟩ := hw
      refine j_aaldJ C ho_g3 hi5 hr7 dX2_addUnknowns_34 ?_
      refine j_iload_n C dX2_addUnknowns_35 rfl 2 rfl ?_
      obtain ⟨hi9, hw⟩ := hw
      refine j_lald C ho8 hi9 dX2_addUnknowns_36 ?_
      refine j_lload C dX2_addUnknowns_37 3 rfl ?_
      refine j_lmul C dX2_addUnknowns_39 ?_
      refine j_cVV (As := [.ref y2, .long ((D.2 y6 v3.toNatClampNeg) * v4)]) (st := []) C (X6_addTimes_ok κ.2.1 G D g1 y2 ((D.2 y6 v3.toNatClampNeg) * v4) _ hw) ho_g1 rfl k_534 mv_X6_addTimes ⟨by decide, by decide⟩ ⟨rfl, rfl⟩ rfl rfl (Nat.le_of_ble_eq_true rfl) ⟨Nat.zero_le _, Nat.zero_le _⟩ dX2_addUnknowns_40 (fun D11 hw => ?_)
      refine j_iinc (v := v6 + 1) C dX2_addUnknowns_43 4 rfl rfl (by decide) rfl ?_
      refine j_goto (tgt := 11) C dX2_addUnknowns_46 (by decide) ?_
      exact J.sub (ih (v6 + 1) D11 hw) [1, 2, 3, 4, 0] rfl
def X2_addUnknowns_wp (G : Shp) (D : Dat) (v0 : Nat) (v1 : Int32) (v2 : Int32) (v3 : Int32) (v4 : Int64) (post : Dat → Prop) : Prop := isO G v0 2 ∧ ∃ g1, G.2.2.2 v0 0 = some g1 ∧ isO G g1 6 ∧ ∃ g2, G.2.2.2 v0 6 = some g2 ∧ isO G g2 14 ∧ ∃ g3, G.2.2.2 v0 1 = some g3 ∧ isO G g3 17 ∧ X8_isFarTick_wp G D v3 (fun r1 D2 => ((¬ r1 = 0 → ∃ n, X2_addUnknowns_l11 G post v0 v1 v2 v3 v4 g1 g2 g3 n v1 D2) ∧ (r1 = 0 → post D2)))
set_option maxRecDepth 100000 in
set_option maxHeartbeats 4000000 in
theorem X2_addUnknowns_ok (l : Launch) (G : Shp) (D : Dat) (v0 : Nat) (v1 : Int32) (v2 : Int32) (v3 : Int32) (v4 : Int64) (post : Dat → Prop) (hw : X2_addUnknowns_wp G D v0 v1 v2 v3 v4 post) : CtV l yX2_addUnknowns cX2_addUnknowns 7 (rmN 2) [.ref v0, .int v1, .int v2, .int v3, .long v4] G D post := by
  obtain ⟨ho_v0, g1, hr_g1, ho_g1, g2, hr_g2, ho_g2, g3, hr_g3, ho_g3, hw⟩ := hw
  refine ctV_of (by decide) rfl (Nat.le_of_ble_eq_true rfl) ?_
  intro κ hκ C K
  subst hκ
  have C : Cx κ cX2_addUnknowns RX2 (rmN 2) 7 := C
  refine j_iload_n C dX2_addUnknowns_0 rfl 3 rfl ?_
  refine j_cNI (As := [.int v3]) (st := []) C (X8_isFarTick_ok κ.2.1 G D v3 _ hw) nw_653 ms_X8_isFarTick ⟨by decide, by decide⟩ ⟨rfl, rfl⟩ rfl rfl (Nat.le_of_ble_eq_true rfl) ⟨Nat.zero_le _, Nat.zero_le _⟩ dX2_addUnknowns_1 (fun r1 D2 hw => ?_)
  refine j_if_ne (tgt := 8) C dX2_addUnknowns_4 (by decide) (fun hc => ?_) (fun hc => ?_)
  · have hw := hw.1 hc
    refine j_iload_n C dX2_addUnknowns_8 rfl 1 rfl ?_
    refine j_istore C dX2_addUnknowns_9 (by decide) rfl ?_
    obtain ⟨n, hw⟩ := hw
    exact J.sub (X2_addUnknowns_l11_ok C K ho_v0 hr_g1 ho_g1 hr_g2 ho_g2 hr_g3 ho_g3 n v1 D2 hw) [1, 3, 4, 5, 0] rfl
  · have hw := hw.2 hc
    exact K _ _ _ dX2_addUnknowns_7 hw
/-! X2_layFeast -/
def X2_layFeast_j41 (G : Shp) (post : Dat → Prop) (v0 : Nat) (v1 : Nat) (g1 : Nat) (k12 : Int32 → Dat → Prop) (v2 : Int32) (s0 : Int64) (s1 : Int32) (s2 : Nat) (D : Dat) : Prop := (isO G s2 12 ∧ vp_in s1 (G.2.2.1 s2) ∧ k12 (v2 + 1) (dJ D s2 s1.toNatClampNeg s0))
set_option maxRecDepth 100000 in
set_option maxHeartbeats 4000000 in
theorem X2_layFeast_j41_ok {κ : Ctx} {G : Shp} {post : Dat → Prop} {v0 : Nat} {v1 : Nat} {g1 : Nat} (C : Cx κ cX2_layFeast RX2 (rmN 2) 3) (K : RtV κ cX2_layFeast G post) (ho_v0 : isO G v0 2) (ho_v1 : isO G v1 7) (hr_g1 : G.2.2.2 v0 1 = some g1) (ho_g1 : isO G g1 17) {k12 : Int32 → Dat → Prop} (hk12 : ∀ (v2 : Int32) (D : Dat), k12 v2 D → J κ 0 0 G D 12 [(0, .ref v0), (1, .ref v1), (2, .int v2)] []) (v2 : Int32) (s0 : Int64) (s1 : Int32) (s2 : Nat) (D : Dat) (hw : X2_layFeast_j41 G post v0 v1 g1 k12 v2 s0 s1 s2 D) : J κ 0 0 G D 41 [(0, .ref v0), (1, .ref v1), (2, .int v2)] [.long s0, .int s1, .ref s2] := by
  unfold X2_layFeast_j41 at hw
  obtain ⟨ho1, hw⟩ := hw
  obtain ⟨hi2, hw⟩ := hw
  refine j_last C ho1 hi2 dX2_layFeast_41 ?_
  refine j_iinc (v := v2 + 1) C dX2_layFeast_42 2 rfl rfl (by decide) rfl ?_
  refine j_goto (tgt := 12) C dX2_layFeast_45 (by decide) ?_
  exact J.sub (hk12 (v2 + 1) (dJ D s2 s1.toNatClampNeg s0) hw) [1, 2, 0] rfl
def X2_layFeast_l12_b (G : Shp) (post : Dat → Prop) (v0 : Nat) (v1 : Nat) (g1 : Nat) (rec : Int32 → Dat → Prop) (v2 : Int32) (D : Dat) : Prop := ((80 ≤ v2 → post (dI D v0 11 ((D.1 v0 11) + 1))) ∧ (¬ (80 ≤ v2) → (vp_in (D.1 v0 11) (G.2.2.1 g1) ∧ ∃ y2, G.2.2.2 g1 (D.1 v0 11).toNatClampNeg = some y2 ∧ isO G y2 12 ∧ X7_has_wp G D v1 v2 (fun r5 D6 => ((r5 = 0 → X2_layFeast_j41 G post v0 v1 g1 rec v2 0 v2 y2 D6) ∧ (¬ (r5 = 0) → X2_layFeast_j41 G post v0 v1 g1 rec v2 1 v2 y2 D6))))))
def X2_layFeast_l12 (G : Shp) (post : Dat → Prop) (v0 : Nat) (v1 : Nat) (g1 : Nat) : Nat → Int32 → Dat → Prop
  | 0 => fun _ _ => False
  | n + 1 => X2_layFeast_l12_b G post v0 v1 g1 (X2_layFeast_l12 G post v0 v1 g1 n)
set_option maxRecDepth 100000 in
set_option maxHeartbeats 4000000 in
theorem X2_layFeast_l12_ok {κ : Ctx} {G : Shp} {post : Dat → Prop} {v0 : Nat} {v1 : Nat} {g1 : Nat} (C : Cx κ cX2_layFeast RX2 (rmN 2) 3) (K : RtV κ cX2_layFeast G post) (ho_v0 : isO G v0 2) (ho_v1 : isO G v1 7) (hr_g1 : G.2.2.2 v0 1 = some g1) (ho_g1 : isO G g1 17) : ∀ (n : Nat) (v2 : Int32) (D : Dat), X2_layFeast_l12 G post v0 v1 g1 n v2 D → J κ 0 0 G D 12 [(0, .ref v0), (1, .ref v1), (2, .int v2)] [] := by
  intro n
  induction n with
  | zero => intro v2 D hw; exact hw.elim
  | succ n ih =>
    intro v2 D hw
    have hw : X2_layFeast_l12_b G post v0 v1 g1 (X2_layFeast_l12 G post v0 v1 g1 n) v2 D := hw
    unfold X2_layFeast_l12_b at hw
    refine j_iload_n C dX2_layFeast_12 rfl 2 rfl ?_
    refine j_bipush (v := 80) C dX2_layFeast_13 (by decide) ?_
    refine j_icmp_ge (tgt := 48) C dX2_layFeast_15 (by decide) (fun hc => ?_) (fun hc => ?_)
    · have hw := hw.1 hc
      refine j_aload_n C dX2_layFeast_48 rfl 0 rfl ?_
      refine j_dup C dX2_layFeast_49 rfl ?_
      refine gf_2_11 C ho_v0 k_159 dX2_layFeast_50 ?_
      refine j_iconst (v := 1) C dX2_layFeast_53 (by decide) ?_
      refine j_iadd C dX2_layFeast_54 ?_
      refine pf_2_11 C ho_v0 k_159 dX2_layFeast_55 ?_
      exact K _ _ _ dX2_layFeast_58 hw
    · have hw := hw.2 hc
      refine j_aload_n C dX2_layFeast_18 rfl 0 rfl ?_
      refine gf_2_1 C ho_v0 hr_g1 k_147 dX2_layFeast_19 ?_
      refine j_aload_n C dX2_layFeast_22 rfl 0 rfl ?_
      refine gf_2_11 C ho_v0 k_159 dX2_layFeast_23 ?_
      obtain ⟨hi1, hw⟩ := hw
      obtain ⟨y2, hr3, ho4, hw⟩ := hw
      refine j_aaldJ C ho_g1 hi1 hr3 dX2_layFeast_26 ?_
      refine j_iload_n C dX2_layFeast_27 rfl 2 rfl ?_
      refine j_aload_n C dX2_layFeast_28 rfl 1 rfl ?_
      refine j_iload_n C dX2_layFeast_29 rfl 2 rfl ?_
      refine j_cVI (As := [.int v2]) (st := [.int v2, .ref y2]) C (X7_has_ok κ.2.1 G D v1 v2 _ hw) ho_v1 rfl k_439 mv_X7_has ⟨by decide, by decide⟩ ⟨rfl, rfl⟩ rfl rfl (Nat.le_of_ble_eq_true rfl) ⟨Nat.zero_le _, Nat.zero_le _⟩ dX2_layFeast_30 (fun r5 D6 hw => ?_)
      refine j_if_eq (tgt := 40) C dX2_layFeast_33 (by decide) (fun hc => ?_) (fun hc => ?_)
      · have hw := hw.1 hc
        refine j_lconst (v := 0) C dX2_layFeast_40 (by decide) ?_
        exact J.sub (X2_layFeast_j41_ok C K ho_v0 ho_v1 hr_g1 ho_g1 ih v2 0 v2 y2 D6 hw) [0, 1, 2] rfl
      · have hw := hw.2 hc
        refine j_lconst (v := 1) C dX2_layFeast_36 (by decide) ?_
        refine j_goto (tgt := 41) C dX2_layFeast_37 (by decide) ?_
        exact J.sub (X2_layFeast_j41_ok C K ho_v0 ho_v1 hr_g1 ho_g1 ih v2 1 v2 y2 D6 hw) [0, 1, 2] rfl
def X2_layFeast_wp (G : Shp) (D : Dat) (v0 : Nat) (v1 : Nat) (post : Dat → Prop) : Prop := isO G v0 2 ∧ isO G v1 7 ∧ ∃ g1, G.2.2.2 v0 1 = some g1 ∧ isO G g1 17 ∧ (((D.1 v0 11) < 6 → ∃ n, X2_layFeast_l12 G post v0 v1 g1 n 0 D) ∧ (¬ ((D.1 v0 11) < 6) → post D))
set_option maxRecDepth 100000 in
set_option maxHeartbeats 4000000 in
theorem X2_layFeast_ok (l : Launch) (G : Shp) (D : Dat) (v0 : Nat) (v1 : Nat) (post : Dat → Prop) (hw : X2_layFeast_wp G D v0 v1 post) : CtV l yX2_layFeast cX2_layFeast 3 (rmN 2) [.ref v0, .ref v1] G D post := by
  obtain ⟨ho_v0, ho_v1, g1, hr_g1, ho_g1, hw⟩ := hw
  refine ctV_of (by decide) rfl (Nat.le_of_ble_eq_true rfl) ?_
  intro κ hκ C K
  subst hκ
  have C : Cx κ cX2_layFeast RX2 (rmN 2) 3 := C
  refine j_aload_n C dX2_layFeast_0 rfl 0 rfl ?_
  refine gf_2_11 C ho_v0 k_159 dX2_layFeast_1 ?_
  refine j_bipush (v := 6) C dX2_layFeast_4 (by decide) ?_
  refine j_icmp_lt (tgt := 10) C dX2_layFeast_6 (by decide) (fun hc => ?_) (fun hc => ?_)
  · have hw := hw.1 hc
    refine j_iconst (v := 0) C dX2_layFeast_10 (by decide) ?_
    refine j_istore_n C dX2_layFeast_11 rfl (by decide) rfl ?_
    obtain ⟨n, hw⟩ := hw
    exact J.sub (X2_layFeast_l12_ok C K ho_v0 ho_v1 hr_g1 ho_g1 n 0 D hw) [1, 2, 0] rfl
  · have hw := hw.2 hc
    exact K _ _ _ dX2_layFeast_9 hw
/-! X2_slope -/
def X2_slope_j25 (G : Shp) (post : Dat → Prop) (v0 : Nat) (v1 : Nat) (g1 : Nat) (D : Dat) : Prop := post D
set_option maxRecDepth 100000 in
set_option maxHeartbeats 4000000 in
theorem X2_slope_j25_ok {κ : Ctx} {G : Shp} {post : Dat → Prop} {v0 : Nat} {v1 : Nat} {g1 : Nat} (C : Cx κ cX2_slope RX2 (rmN 2) 2) (K : RtV κ cX2_slope G post) (ho_v0 : isO G v0 2) (ho_v1 : isO G v1 0) (hr_g1 : G.2.2.2 v0 6 = some g1) (ho_g1 : isO G g1 14) (D : Dat) (hw : X2_slope_j25 G post v0 v1 g1 D) : J κ 0 0 G D 25 [] [] := by
  unfold X2_slope_j25 at hw
  exact K _ _ _ dX2_slope_25 hw
def X2_slope_wp (G : Shp) (D : Dat) (v0 : Nat) (v1 : Nat) (post : Dat → Prop) : Prop := isO G v0 2 ∧ isO G v1 0 ∧ ∃ g1, G.2.2.2 v0 6 = some g1 ∧ isO G g1 14 ∧ (((D.1 v0 12) ≤ 0 → X0_setTo_wp G D v1 0 (fun D2 => X2_slope_j25 G post v0 v1 g1 D2)) ∧ (¬ ((D.1 v0 12) ≤ 0) → (vp_in 0 (G.2.2.1 g1) ∧ ∃ y4, G.2.2.2 g1 (0 : Int32).toNatClampNeg = some y4 ∧ isO G y4 0 ∧ X0_copy_wp G D v1 y4 (fun D8 => X2_slope_j25 G post v0 v1 g1 D8))))
set_option maxRecDepth 100000 in
set_option maxHeartbeats 4000000 in
theorem X2_slope_ok (l : Launch) (G : Shp) (D : Dat) (v0 : Nat) (v1 : Nat) (post : Dat → Prop) (hw : X2_slope_wp G D v0 v1 post) : CtV l yX2_slope cX2_slope 2 (rmN 2) [.ref v0, .ref v1] G D post := by
  obtain ⟨ho_v0, ho_v1, g1, hr_g1, ho_g1, hw⟩ := hw
  refine ctV_of (by decide) rfl (Nat.le_of_ble_eq_true rfl) ?_
  intro κ hκ C K
  subst hκ
  have C : Cx κ cX2_slope RX2 (rmN 2) 2 := C
  refine j_aload_n C dX2_slope_0 rfl 0 rfl ?_
  refine gf_2_12 C ho_v0 k_160 dX2_slope_1 ?_
  refine j_if_le (tgt := 20) C dX2_slope_4 (by decide) (fun hc => ?_) (fun hc => ?_)
  · have hw := hw.1 hc
    refine j_aload_n C dX2_slope_20 rfl 1 rfl ?_
    refine j_lconst (v := 0) C dX2_slope_21 (by decide) ?_
    refine j_cVV (As := [.long 0]) (st := []) C (X0_setTo_ok κ.2.1 G D v1 0 _ hw) ho_v1 rfl k_477 mv_X0_setTo ⟨by decide, by decide⟩ ⟨rfl, rfl⟩ rfl rfl (Nat.le_of_ble_eq_true rfl) ⟨Nat.zero_le _, Nat.zero_le _⟩ dX2_slope_22 (fun D2 hw => ?_)
    exact J.sub (X2_slope_j25_ok C K ho_v0 ho_v1 hr_g1 ho_g1 D2 hw) [] rfl
  · have hw := hw.2 hc
    refine j_aload_n C dX2_slope_7 rfl 1 rfl ?_
    refine j_aload_n C dX2_slope_8 rfl 0 rfl ?_
    refine gf_2_6 C ho_v0 hr_g1 k_152 dX2_slope_9 ?_
    refine j_iconst (v := 0) C dX2_slope_12 (by decide) ?_
    obtain ⟨hi3, hw⟩ := hw
    obtain ⟨y4, hr5, ho6, hw⟩ := hw
    refine j_aaldBig C ho_g1 hi3 hr5 dX2_slope_13 ?_
    refine j_cVV (As := [.ref y4]) (st := []) C (X0_copy_ok κ.2.1 G D v1 y4 _ hw) ho_v1 rfl k_612 mv_X0_copy ⟨by decide, by decide⟩ ⟨rfl, rfl⟩ rfl rfl (Nat.le_of_ble_eq_true rfl) ⟨Nat.zero_le _, Nat.zero_le _⟩ dX2_slope_14 (fun D8 hw => ?_)
    refine j_goto (tgt := 25) C dX2_slope_17 (by decide) ?_
    exact J.sub (X2_slope_j25_ok C K ho_v0 ho_v1 hr_g1 ho_g1 D8 hw) [] rfl
/-! X2_takeOutPlaces -/
def X2_takeOutPlaces_j94 (G : Shp) (post : Dat → Prop) (v0 : Nat) (v1 : Int64) (g1 : Nat) (g2 : Nat) (g3 : Nat) (k2 : Int32 → Dat → Prop) (k13 : Int32 → Int32 → Dat → Prop) (k38 : Int32 → Int32 → Int64 → Int32 → Dat → Prop) (v3 : Int32) (v4 : Int32) (v5 : Int64) (v7 : Int32) (D : Dat) : Prop := k38 v3 v4 v5 (v7 + 1) D
set_option maxRecDepth 100000 in
set_option maxHeartbeats 4000000 in
theorem X2_takeOutPlaces_j94_ok {κ : Ctx} {G : Shp} {post : Dat → Prop} {v0 : Nat} {v1 : Int64} {g1 : Nat} {g2 : Nat} {g3 : Nat} (C : Cx κ cX2_takeOutPlaces RX2 (rmN 2) 8) (K : RtV κ cX2_takeOutPlaces G post) (ho_v0 : isO G v0 2) (hr_g1 : G.2.2.2 v0 2 = some g1) (ho_g1 : isO G g1 17) (hr_g2 : G.2.2.2 v0 4 = some g2) (ho_g2 : isO G g2 12) (hr_g3 : G.2.2.2 v0 3 = some g3) (ho_g3 : isO G g3 17) {k2 : Int32 → Dat → Prop} (hk2 : ∀ (v3 : Int32) (D : Dat), k2 v3 D → J κ 0 0 G D 2 [(0, .ref v0), (1, .long v1), (3, .int v3)] []) {k13 : Int32 → Int32 → Dat → Prop} (hk13 : ∀ (v3 : Int32) (v4 : Int32) (D : Dat), k13 v3 v4 D → J κ 0 0 G D 13 [(0, .ref v0), (1, .long v1), (3, .int v3), (4, .int v4)] []) {k38 : Int32 → Int32 → Int64 → Int32 → Dat → Prop} (hk38 : ∀ (v3 : Int32) (v4 : Int32) (v5 : Int64) (v7 : Int32) (D : Dat), k38 v3 v4 v5 v7 D → J κ 0 0 G D 38 [(0, .ref v0), (1, .long v1), (3, .int v3), (4, .int v4), (5, .long v5), (7, .int v7)] []) (v3 : Int32) (v4 : Int32) (v5 : Int64) (v7 : Int32) (D : Dat) (hw : X2_takeOutPlaces_j94 G post v0 v1 g1 g2 g3 k2 k13 k38 v3 v4 v5 v7 D) : J κ 0 0 G D 94 [(0, .ref v0), (1, .long v1), (3, .int v3), (4, .int v4), (5, .long v5), (7, .int v7)] [] := by
  unfold X2_takeOutPlaces_j94 at hw
  refine j_iinc (v := v7 + 1) C dX2_takeOutPlaces_94 5 rfl rfl (by decide) rfl ?_
  refine j_goto (tgt := 38) C dX2_takeOutPlaces_97 (by decide) ?_
  exact J.sub (hk38 v3 v4 v5 (v7 + 1) D hw) [1, 2, 3, 4, 5, 0] rfl
def X2_takeOutPlaces_l38_b (G : Shp) (post : Dat → Prop) (v0 : Nat) (v1 : Int64) (g1 : Nat) (g2 : Nat) (g3 : Nat) (k2 : Int32 → Dat → Prop) (k13 : Int32 → Int32 → Dat → Prop) (rec : Int32 → Int32 → Int64 → Int32 → Dat → Prop) (v3 : Int32) (v4 : Int32) (v5 : Int64) (v7 : Int32) (D : Dat) : Prop := (((D.1 v0 10) ≤ v7 → X2_cell_wp G D v0 v3 v4 (fun r1 D2 => ∃ y3, r1 = some y3 ∧ (isO G y3 0 ∧ X0_setTo_wp G D2 y3 v5 (fun D6 => k13 v3 (v4 + 1) D6)))) ∧ (¬ ((D.1 v0 10) ≤ v7) → (vp_in v7 (G.2.2.1 g2) ∧ (((D.2 g2 v7.toNatClampNeg) ≤ 0 → X2_takeOutPlaces_j94 G post v0 v1 g1 g2 g3 k2 k13 rec v3 v4 v5 v7 D) ∧ (¬ ((D.2 g2 v7.toNatClampNeg) ≤ 0) → (vp_in v7 (G.2.2.1 g2) ∧ ¬ (D.2 g2 v7.toNatClampNeg) = 0 ∧ vp_in v7 (G.2.2.1 g3) ∧ ∃ y11, G.2.2.2 g3 v7.toNatClampNeg = some y11 ∧ isO G y11 12 ∧ vp_in v3 (G.2.2.1 y11) ∧ vp_in v7 (G.2.2.1 g3) ∧ ∃ y16, G.2.2.2 g3 v7.toNatClampNeg = some y16 ∧ isO G y16 12 ∧ vp_in v4 (G.2.2.1 y16) ∧ X2_takeOutPlaces_j94 G post v0 v1 g1 g2 g3 k2 k13 rec v3 v4 (v5 - (((v1 / (D.2 g2 v7.toNatClampNeg)) * (D.2 y11 v3.toNatClampNeg)) * (D.2 y16 v4.toNatClampNeg))) v7 D))))))
def X2_takeOutPlaces_l38 (G : Shp) (post : Dat → Prop) (v0 : Nat) (v1 : Int64) (g1 : Nat) (g2 : Nat) (g3 : Nat) (k2 : Int32 → Dat → Prop) (k13 : Int32 → Int32 → Dat → Prop) : Nat → Int32 → Int32 → Int64 → Int32 → Dat → Prop
  | 0 => fun _ _ _ _ _ => False
  | n + 1 => X2_takeOutPlaces_l38_b G post v0 v1 g1 g2 g3 k2 k13 (X2_takeOutPlaces_l38 G post v0 v1 g1 g2 g3 k2 k13 n)
set_option maxRecDepth 100000 in
set_option maxHeartbeats 4000000 in
theorem X2_takeOutPlaces_l38_ok {κ : Ctx} {G : Shp} {post : Dat → Prop} {v0 : Nat} {v1 : Int64} {g1 : Nat} {g2 : Nat} {g3 : Nat} (C : Cx κ cX2_takeOutPlaces RX2 (rmN 2) 8) (K : RtV κ cX2_takeOutPlaces G post) (ho_v0 : isO G v0 2) (hr_g1 : G.2.2.2 v0 2 = some g1) (ho_g1 : isO G g1 17) (hr_g2 : G.2.2.2 v0 4 = some g2) (ho_g2 : isO G g2 12) (hr_g3 : G.2.2.2 v0 3 = some g3) (ho_g3 : isO G g3 17) {k2 : Int32 → Dat → Prop} (hk2 : ∀ (v3 : Int32) (D : Dat), k2 v3 D → J κ 0 0 G D 2 [(0, .ref v0), (1, .long v1), (3, .int v3)] []) {k13 : Int32 → Int32 → Dat → Prop} (hk13 : ∀ (v3 : Int32) (v4 : Int32) (D : Dat), k13 v3 v4 D → J κ 0 0 G D 13 [(0, .ref v0), (1, .long v1), (3, .int v3), (4, .int v4)] []) : ∀ (n : Nat) (v3 : Int32) (v4 : Int32) (v5 : Int64) (v7 : Int32) (D : Dat), X2_takeOutPlaces_l38 G post v0 v1 g1 g2 g3 k2 k13 n v3 v4 v5 v7 D → J κ 0 0 G D 38 [(0, .ref v0), (1, .long v1), (3, .int v3), (4, .int v4), (5, .long v5), (7, .int v7)] [] := by
  intro n
  induction n with
  | zero => intro v3 v4 v5 v7 D hw; exact hw.elim
  | succ n ih =>
    intro v3 v4 v5 v7 D hw
    have hw : X2_takeOutPlaces_l38_b G post v0 v1 g1 g2 g3 k2 k13 (X2_takeOutPlaces_l38 G post v0 v1 g1 g2 g3 k2 k13 n) v3 v4 v5 v7 D := hw
    unfold X2_takeOutPlaces_l38_b at hw
    refine j_iload C dX2_takeOutPlaces_38 5 rfl ?_
    refine j_aload_n C dX2_takeOutPlaces_40 rfl 0 rfl ?_
    refine gf_2_10 C ho_v0 k_157 dX2_takeOutPlaces_41 ?_
    refine j_icmp_ge (tgt := 100) C dX2_takeOutPlaces_44 (by decide) (fun hc => ?_) (fun hc => ?_)
    · have hw := hw.1 hc
      refine j_aload_n C dX2_takeOutPlaces_100 rfl 0 rfl ?_
      refine j_iload_n C dX2_takeOutPlaces_101 rfl 2 rfl ?_
      refine j_iload C dX2_takeOutPlaces_102 3 rfl ?_
      refine j_cVQ (As := [.int v3, .int v4]) (st := []) C (X2_cell_ok κ.2.1 G D v0 v3 v4 _ hw) ho_v0 rfl k_473 mv_X2_cell ⟨by decide, by decide⟩ ⟨rfl, rfl⟩ rfl rfl (Nat.le_of_ble_eq_true rfl) ⟨Nat.zero_le _, Nat.zero_le _⟩ dX2_takeOutPlaces_104 (fun r1 D2 hw => ?_)
      obtain ⟨y3, rfl, hw⟩ := hw
      show J κ 0 0 G D2 107 [(0, .ref v0), (1, .long v1), (3, .int v3), (4, .int v4), (5, .long v5), (7, .int v7)] [.ref y3]
      refine j_lload C dX2_takeOutPlaces_107 4 rfl ?_
      obtain ⟨ho4, hw⟩ := hw
      refine j_cVV (As := [.long v5]) (st := []) C (X0_setTo_ok κ.2.1 G D2 y3 v5 _ hw) ho4 rfl k_477 mv_X0_setTo ⟨by decide, by decide⟩ ⟨rfl, rfl⟩ rfl rfl (Nat.le_of_ble_eq_true rfl) ⟨Nat.zero_le _, Nat.zero_le _⟩ dX2_takeOutPlaces_109 (fun D6 hw => ?_)
      refine j_iinc (v := v4 + 1) C dX2_takeOutPlaces_112 3 rfl rfl (by decide) rfl ?_
      refine j_goto (tgt := 13) C dX2_takeOutPlaces_115 (by decide) ?_
      exact J.sub (hk13 v3 (v4 + 1) D6 hw) [1, 2, 3, 0] rfl
    · have hw := hw.2 hc
      refine j_aload_n C dX2_takeOutPlaces_47 rfl 0 rfl ?_
      refine gf_2_4 C ho_v0 hr_g2 k_150 dX2_takeOutPlaces_48 ?_
      refine j_iload C dX2_takeOutPlaces_51 5 rfl ?_
      obtain ⟨hi7, hw⟩ := hw
      refine j_lald C ho_g2 hi7 dX2_takeOutPlaces_53 ?_
      refine j_lconst (v := 0) C dX2_takeOutPlaces_54 (by decide) ?_
      refine j_lcmp_le (tgt := 94) C dX2_takeOutPlaces_55 dX2_takeOutPlaces_56 (by decide) (fun hc => ?_) (fun hc => ?_)
      · have hw := hw.1 hc
        exact J.sub (X2_takeOutPlaces_j94_ok C K ho_v0 hr_g1 ho_g1 hr_g2 ho_g2 hr_g3 ho_g3 hk2 hk13 ih v3 v4 v5 v7 D hw) [0, 1, 2, 3, 4, 5] rfl
      · have hw := hw.2 hc
        refine j_lload C dX2_takeOutPlaces_59 4 rfl ?_
        refine j_lload_n C dX2_takeOutPlaces_61 rfl 1 rfl ?_
        refine j_aload_n C dX2_takeOutPlaces_62 rfl 0 rfl ?_
        refine gf_2_4 C ho_v0 hr_g2 k_150 dX2_takeOutPlaces_63 ?_
        refine j_iload C dX2_takeOutPlaces_66 5 rfl ?_
        obtain ⟨hi8, hw⟩ := hw
        refine j_lald C ho_g2 hi8 dX2_takeOutPlaces_68 ?_
        obtain ⟨hz9, hw⟩ := hw
        refine j_ldiv C dX2_takeOutPlaces_69 hz9 ?_
        refine j_aload_n C dX2_takeOutPlaces_70 rfl 0 rfl ?_
        refine gf_2_3 C ho_v0 hr_g3 k_149 dX2_takeOutPlaces_71 ?_
        refine j_iload C dX2_takeOutPlaces_74 5 rfl ?_
        obtain ⟨hi10, hw⟩ := hw
        obtain ⟨y11, hr12, ho13, hw⟩ := hw
        refine j_aaldJ C ho_g3 hi10 hr12 dX2_takeOutPlaces_76 ?_
        refine j_iload_n C dX2_takeOutPlaces_77 rfl 2 rfl ?_
        obtain ⟨hi14, hw⟩ := hw
        refine j_lald C ho13 hi14 dX2_takeOutPlaces_78 ?_
        refine j_lmul C dX2_takeOutPlaces_79 ?_
        refine j_aload_n C dX2_takeOutPlaces_80 rfl 0 rfl ?_
        refine gf_2_3 C ho_v0 hr_g3 k_149 dX2_takeOutPlaces_81 ?_
        refine j_iload C dX2_takeOutPlaces_84 5 rfl ?_
        obtain ⟨hi15, hw⟩ := hw
        obtain ⟨y16, hr17, ho18, hw⟩ := hw
        refine j_aaldJ C ho_g3 hi15 hr17 dX2_takeOutPlaces_86 ?_
        refine j_iload C dX2_takeOutPlaces_87 3 rfl ?_
        obtain ⟨hi19, hw⟩ := hw
        refine j_lald C ho18 hi19 dX2_takeOutPlaces_89 ?_
        refine j_lmul C dX2_takeOutPlaces_90 ?_
        refine j_lsub C dX2_takeOutPlaces_91 ?_
        refine j_lstore C dX2_takeOutPlaces_92 (by decide) rfl ?_
        exact J.sub (X2_takeOutPlaces_j94_ok C K ho_v0 hr_g1 ho_g1 hr_g2 ho_g2 hr_g3 ho_g3 hk2 hk13 ih v3 v4 (v5 - (((v1 / (D.2 g2 v7.toNatClampNeg)) * (D.2 y11 v3.toNatClampNeg)) * (D.2 y16 v4.toNatClampNeg))) v7 D hw) [1, 2, 3, 4, 0, 5] rfl
def X2_takeOutPlaces_l13_b (G : Shp) (post : Dat → Prop) (v0 : Nat) (v1 : Int64) (g1 : Nat) (g2 : Nat) (g3 : Nat) (k2 : Int32 → Dat → Prop) (rec : Int32 → Int32 → Dat → Prop) (v3 : Int32) (v4 : Int32) (D : Dat) : Prop := (((D.1 v0 11) < v4 → k2 (v3 + 1) D) ∧ (¬ ((D.1 v0 11) < v4) → (vp_in v3 (G.2.2.1 g1) ∧ ∃ y2, G.2.2.2 g1 v3.toNatClampNeg = some y2 ∧ isO G y2 12 ∧ vp_in v4 (G.2.2.1 y2) ∧ ∃ n, X2_takeOutPlaces_l38 G post v0 v1 g1 g2 g3 k2 rec n v3 v4 (v1 * (D.2 y2 v4.toNatClampNeg)) 0 D)))
def X2_takeOutPlaces_l13 (G : Shp) (post : Dat → Prop) (v0 : Nat) (v1 : Int64) (g1 : Nat) (g2 : Nat) (g3 : Nat) (k2 : Int32 → Dat → Prop) : Nat → Int32 → Int32 → Dat → Prop
  | 0 => fun _ _ _ => False
  | n + 1 => X2_takeOutPlaces_l13_b G post v0 v1 g1 g2 g3 k2 (X2_takeOutPlaces_l13 G post v0 v1 g1 g2 g3 k2 n)
set_option maxRecDepth 100000 in
set_option maxHeartbeats 4000000 in
theorem X2_takeOutPlaces_l13_ok {κ : Ctx} {G : Shp} {post : Dat → Prop} {v0 : Nat} {v1 : Int64} {g1 : Nat} {g2 : Nat} {g3 : Nat} (C : Cx κ cX2_takeOutPlaces RX2 (rmN 2) 8) (K : RtV κ cX2_takeOutPlaces G post) (ho_v0 : isO G v0 2) (hr_g1 : G.2.2.2 v0 2 = some g1) (ho_g1 : isO G g1 17) (hr_g2 : G.2.2.2 v0 4 = some g2) (ho_g2 : isO G g2 12) (hr_g3 : G.2.2.2 v0 3 = some g3) (ho_g3 : isO G g3 17) {k2 : Int32 → Dat → Prop} (hk2 : ∀ (v3 : Int32) (D : Dat), k2 v3 D → J κ 0 0 G D 2 [(0, .ref v0), (1, .long v1), (3, .int v3)] []) : ∀ (n : Nat) (v3 : Int32) (v4 : Int32) (D : Dat), X2_takeOutPlaces_l13 G post v0 v1 g1 g2 g3 k2 n v3 v4 D → J κ 0 0 G D 13 [(0, .ref v0), (1, .long v1), (3, .int v3), (4, .int v4)] [] := by
  intro n
  induction n with
  | zero => intro v3 v4 D hw; exact hw.elim
  | succ n ih =>
    intro v3 v4 D hw
    have hw : X2_takeOutPlaces_l13_b G post v0 v1 g1 g2 g3 k2 (X2_takeOutPlaces_l13 G post v0 v1 g1 g2 g3 k2 n) v3 v4 D := hw
    unfold X2_takeOutPlaces_l13_b at hw
    refine j_iload C dX2_takeOutPlaces_13 3 rfl ?_
    refine j_aload_n C dX2_takeOutPlaces_15 rfl 0 rfl ?_
    refine gf_2_11 C ho_v0 k_159 dX2_takeOutPlaces_16 ?_
    refine j_icmp_gt (tgt := 118) C dX2_takeOutPlaces_19 (by decide) (fun hc => ?_) (fun hc => ?_)
    · have hw := hw.1 hc
      refine j_iinc (v := v3 + 1) C dX2_takeOutPlaces_118 2 rfl rfl (by decide) rfl ?_
      refine j_goto (tgt := 2) C dX2_takeOutPlaces_121 (by decide) ?_
      exact J.sub (hk2 (v3 + 1) D hw) [1, 2, 0] rfl
    · have hw := hw.2 hc
      refine j_lload_n C dX2_takeOutPlaces_22 rfl 1 rfl ?_
      refine j_aload_n C dX2_takeOutPlaces_23 rfl 0 rfl ?_
      refine gf_2_2 C ho_v0 hr_g1 k_148 dX2_takeOutPlaces_24 ?_
      refine j_iload_n C dX2_takeOutPlaces_27 rfl 2 rfl ?_
      obtain ⟨hi1, hw⟩ := hw
      obtain ⟨y2, hr3, ho4, hw⟩ := hw
      refine j_aaldJ C ho_g1 hi1 hr3 dX2_takeOutPlaces_28 ?_
      refine j_iload C dX2_takeOutPlaces_29 3 rfl ?_
      obtain ⟨hi5, hw⟩ := hw
      refine j_lald C ho4 hi5 dX2_takeOutPlaces_31 ?_
      refine j_lmul C dX2_takeOutPlaces_32 ?_
      refine j_lstore C dX2_takeOutPlaces_33 (by decide) rfl ?_
      refine j_iconst (v := 0) C dX2_takeOutPlaces_35 (by decide) ?_
      refine j_istore C dX2_takeOutPlaces_36 (by decide) rfl ?_
      obtain ⟨n, hw⟩ := hw
      exact J.sub (X2_takeOutPlaces_l38_ok C K ho_v0 hr_g1 ho_g1 hr_g2 ho_g2 hr_g3 ho_g3 hk2 ih n v3 v4 (v1 * (D.2 y2 v4.toNatClampNeg)) 0 D hw) [2, 3, 4, 5, 1, 0] rfl
def X2_takeOutPlaces_l2_b (G : Shp) (post : Dat → Prop) (v0 : Nat) (v1 : Int64) (g1 : Nat) (g2 : Nat) (g3 : Nat) (rec : Int32 → Dat → Prop) (v3 : Int32) (D : Dat) : Prop := (((D.1 v0 11) < v3 → post D) ∧ (¬ ((D.1 v0 11) < v3) → ∃ n, X2_takeOutPlaces_l13 G post v0 v1 g1 g2 g3 rec n v3 v3 D))
def X2_takeOutPlaces_l2 (G : Shp) (post : Dat → Prop) (v0 : Nat) (v1 : Int64) (g1 : Nat) (g2 : Nat) (g3 : Nat) : Nat → Int32 → Dat → Prop
  | 0 => fun _ _ => False
  | n + 1 => X2_takeOutPlaces_l2_b G post v0 v1 g1 g2 g3 (X2_takeOutPlaces_l2 G post v0 v1 g1 g2 g3 n)
set_option maxRecDepth 100000 in
set_option maxHeartbeats 4000000 in
theorem X2_takeOutPlaces_l2_ok {κ : Ctx} {G : Shp} {post : Dat → Prop} {v0 : Nat} {v1 : Int64} {g1 : Nat} {g2 : Nat} {g3 : Nat} (C : Cx κ cX2_takeOutPlaces RX2 (rmN 2) 8) (K : RtV κ cX2_takeOutPlaces G post) (ho_v0 : isO G v0 2) (hr_g1 : G.2.2.2 v0 2 = some g1) (ho_g1 : isO G g1 17) (hr_g2 : G.2.2.2 v0 4 = some g2) (ho_g2 : isO G g2 12) (hr_g3 : G.2.2.2 v0 3 = some g3) (ho_g3 : isO G g3 17) : ∀ (n : Nat) (v3 : Int32) (D : Dat), X2_takeOutPlaces_l2 G post v0 v1 g1 g2 g3 n v3 D → J κ 0 0 G D 2 [(0, .ref v0), (1, .long v1), (3, .int v3)] [] := by
  intro n
  induction n with
  | zero => intro v3 D hw; exact hw.elim
  | succ n ih =>
    intro v3 D hw
    have hw : X2_takeOutPlaces_l2_b G post v0 v1 g1 g2 g3 (X2_takeOutPlaces_l2 G post v0 v1 g1 g2 g3 n) v3 D := hw
    unfold X2_takeOutPlaces_l2_b at hw
    refine j_iload_n C dX2_takeOutPlaces_2 rfl 2 rfl ?_
    refine j_aload_n C dX2_takeOutPlaces_3 rfl 0 rfl ?_
    refine gf_2_11 C ho_v0 k_159 dX2_takeOutPlaces_4 ?_
    refine j_icmp_gt (tgt := 124) C dX2_takeOutPlaces_7 (by decide) (fun hc => ?_) (fun hc => ?_)
    · have hw := hw.1 hc
      exact K _ _ _ dX2_takeOutPlaces_124 hw
    · have hw := hw.2 hc
      refine j_iload_n C dX2_takeOutPlaces_10 rfl 2 rfl ?_
      refine j_istore C dX2_takeOutPlaces_11 (by decide) rfl ?_
      obtain ⟨n, hw⟩ := hw
      exact J.sub (X2_takeOutPlaces_l13_ok C K ho_v0 hr_g1 ho_g1 hr_g2 ho_g2 hr_g3 ho_g3 ih n v3 v3 D hw) [1, 2, 3, 0] rfl
def X2_takeOutPlaces_wp (G : Shp) (D : Dat) (v0 : Nat) (v1 : Int64) (post : Dat → Prop) : Prop := isO G v0 2 ∧ ∃ g1, G.2.2.2 v0 2 = some g1 ∧ isO G g1 17 ∧ ∃ g2, G.2.2.2 v0 4 = some g2 ∧ isO G g2 12 ∧ ∃ g3, G.2.2.2 v0 3 = some g3 ∧ isO G g3 17 ∧ ∃ n, X2_takeOutPlaces_l2 G post v0 v1 g1 g2 g3 n 0 D
set_option maxRecDepth 100000 in
set_option maxHeartbeats 4000000 in
theorem X2_takeOutPlaces_ok (l : Launch) (G : Shp) (D : Dat) (v0 : Nat) (v1 : Int64) (post : Dat → Prop) (hw : X2_takeOutPlaces_wp G D v0 v1 post) : CtV l yX2_takeOutPlaces cX2_takeOutPlaces 8 (rmN 2) [.ref v0, .long v1] G D post := by
  obtain ⟨ho_v0, g1, hr_g1, ho_g1, g2, hr_g2, ho_g2, g3, hr_g3, ho_g3, hw⟩ := hw
  refine ctV_of (by decide) rfl (Nat.le_of_ble_eq_true rfl) ?_
  intro κ hκ C K
  subst hκ
  have C : Cx κ cX2_takeOutPlaces RX2 (rmN 2) 8 := C
  refine j_iconst (v := 0) C dX2_takeOutPlaces_0 (by decide) ?_
  refine j_istore_n C dX2_takeOutPlaces_1 rfl (by decide) rfl ?_
  obtain ⟨n, hw⟩ := hw
  exact J.sub (X2_takeOutPlaces_l2_ok C K ho_v0 hr_g1 ho_g1 hr_g2 ho_g2 hr_g3 ho_g3 n 0 D hw) [1, 2, 0] rfl
/-! X3_counts -/
def X3_counts_j27 (G : Shp) (post : Int32 → Dat → Prop) (v0 : Nat) (v1 : Int32) (g1 : Nat) (g2 : Nat) (s0 : Int32) (D : Dat) : Prop := (isB s0 ∧ post s0 D)
set_option maxRecDepth 100000 in
set_option maxHeartbeats 4000000 in
theorem X3_counts_j27_ok {κ : Ctx} {G : Shp} {post : Int32 → Dat → Prop} {v0 : Nat} {v1 : Int32} {g1 : Nat} {g2 : Nat} (C : Cx κ cX3_counts RX3 (rmN 2) 2) (K : RtI κ cX3_counts .boolean G post) (ho_v0 : isO G v0 3) (hr_g1 : G.2.2.2 v0 1 = some g1) (ho_g1 : isO G g1 7) (hr_g2 : G.2.2.2 v0 2 = some g2) (ho_g2 : isO G g2 7) (s0 : Int32) (D : Dat) (hw : X3_counts_j27 G post v0 v1 g1 g2 s0 D) : J κ 0 0 G D 27 [] [.int s0] := by
  unfold X3_counts_j27 at hw
  obtain ⟨hb1, hw⟩ := hw
  exact K _ _ _ _ dX3_counts_27 (isB_n hb1) hw
def X3_counts_j26 (G : Shp) (post : Int32 → Dat → Prop) (v0 : Nat) (v1 : Int32) (g1 : Nat) (g2 : Nat) (D : Dat) : Prop := X3_counts_j27 G post v0 v1 g1 g2 0 D
set_option maxRecDepth 100000 in
set_option maxHeartbeats 4000000 in
theorem X3_counts_j26_ok {κ : Ctx} {G : Shp} {post : Int32 → Dat → Prop} {v0 : Nat} {v1 : Int32} {g1 : Nat} {g2 : Nat} (C : Cx κ cX3_counts RX3 (rmN 2) 2) (K : RtI κ cX3_counts .boolean G post) (ho_v0 : isO G v0 3) (hr_g1 : G.2.2.2 v0 1 = some g1) (ho_g1 : isO G g1 7) (hr_g2 : G.2.2.2 v0 2 = some g2) (ho_g2 : isO G g2 7) (D : Dat) (hw : X3_counts_j26 G post v0 v1 g1 g2 D) : J κ 0 0 G D 26 [] [] := by
  unfold X3_counts_j26 at hw
  refine j_iconst (v := 0) C dX3_counts_26 (by decide) ?_
  exact J.sub (X3_counts_j27_ok C K ho_v0 hr_g1 ho_g1 hr_g2 ho_g2 0 D hw) [] rfl
def X3_counts_wp (G : Shp) (D : Dat) (v0 : Nat) (v1 : Int32) (post : Int32 → Dat → Prop) : Prop := isO G v0 3 ∧ ∃ g1, G.2.2.2 v0 1 = some g1 ∧ isO G g1 7 ∧ ∃ g2, G.2.2.2 v0 2 = some g2 ∧ isO G g2 7 ∧ X7_has_wp G D g1 v1 (fun r1 D2 => ((r1 = 0 → X3_counts_j26 G post v0 v1 g1 g2 D2) ∧ (¬ (r1 = 0) → X7_has_wp G D2 g2 v1 (fun r3 D4 => ((¬ r3 = 0 → X3_counts_j26 G post v0 v1 g1 g2 D4) ∧ (r3 = 0 → X3_counts_j27 G post v0 v1 g1 g2 1 D4))))))
set_option maxRecDepth 100000 in
set_option maxHeartbeats 4000000 in
theorem X3_counts_ok (l : Launch) (G : Shp) (D : Dat) (v0 : Nat) (v1 : Int32) (post : Int32 → Dat → Prop) (hw : X3_counts_wp G D v0 v1 post) : CtI l yX3_counts cX3_counts 2 .boolean (rmN 2) [.ref v0, .int v1] G D post := by
  obtain ⟨ho_v0, g1, hr_g1, ho_g1, g2, hr_g2, ho_g2, hw⟩ := hw
  refine ctI_of (by decide) rfl (Nat.le_of_ble_eq_true rfl) ?_
  intro κ hκ C K
  subst hκ
  have C : Cx κ cX3_counts RX3 (rmN 2) 2 := C
  refine j_aload_n C dX3_counts_0 rfl 0 rfl ?_
  refine gf_3_1 C ho_v0 hr_g1 k_86 dX3_counts_1 ?_
  refine j_iload_n C dX3_counts_4 rfl 1 rfl ?_
  refine j_cVI (As := [.int v1]) (st := []) C (X7_has_ok κ.2.1 G D g1 v1 _ hw) ho_g1 rfl k_370 mv_X7_has ⟨by decide, by decide⟩ ⟨rfl, rfl⟩ rfl rfl (Nat.le_of_ble_eq_true rfl) ⟨Nat.zero_le _, Nat.zero_le _⟩ dX3_counts_5 (fun r1 D2 hw => ?_)
  refine j_if_eq (tgt := 26) C dX3_counts_8 (by decide) (fun hc => ?_) (fun hc => ?_)
  · have hw := hw.1 hc
    exact J.sub (X3_counts_j26_ok C K ho_v0 hr_g1 ho_g1 hr_g2 ho_g2 D2 hw) [] rfl
  · have hw := hw.2 hc
    refine j_aload_n C dX3_counts_11 rfl 0 rfl ?_
    refine gf_3_2 C ho_v0 hr_g2 k_88 dX3_counts_12 ?_
    refine j_iload_n C dX3_counts_15 rfl 1 rfl ?_
    refine j_cVI (As := [.int v1]) (st := []) C (X7_has_ok κ.2.1 G D2 g2 v1 _ hw) ho_g2 rfl k_370 mv_X7_has ⟨by decide, by decide⟩ ⟨rfl, rfl⟩ rfl rfl (Nat.le_of_ble_eq_true rfl) ⟨Nat.zero_le _, Nat.zero_le _⟩ dX3_counts_16 (fun r3 D4 hw => ?_)
    refine j_if_ne (tgt := 26) C dX3_counts_19 (by decide) (fun hc => ?_) (fun hc => ?_)
    · have hw := hw.1 hc
      exact J.sub (X3_counts_j26_ok C K ho_v0 hr_g1 ho_g1 hr_g2 ho_g2 D4 hw) [] rfl
    · have hw := hw.2 hc
      refine j_iconst (v := 1) C dX3_counts_22 (by decide) ?_
      refine j_goto (tgt := 27) C dX3_counts_23 (by decide) ?_
      exact J.sub (X3_counts_j27_ok C K ho_v0 hr_g1 ho_g1 hr_g2 ho_g2 1 D4 hw) [] rfl
/-! X3_setNumber -/
def X3_setNumber_j23 (G : Shp) (post : Dat → Prop) (v0 : Nat) (v1 : Int32) (v2 : Int32) (g1 : Nat) (g2 : Nat) (D : Dat) : Prop := post D
set_option maxRecDepth 100000 in
set_option maxHeartbeats 4000000 in
theorem X3_setNumber_j23_ok {κ : Ctx} {G : Shp} {post : Dat → Prop} {v0 : Nat} {v1 : Int32} {v2 : Int32} {g1 : Nat} {g2 : Nat} (C : Cx κ cX3_setNumber RX3 (rmN 2) 3) (K : RtV κ cX3_setNumber G post) (ho_v0 : isO G v0 3) (hr_g1 : G.2.2.2 v0 0 = some g1) (ho_g1 : isO G g1 11) (hr_g2 : G.2.2.2 v0 1 = some g2) (ho_g2 : isO G g2 7) (D : Dat) (hw : X3_setNumber_j23 G post v0 v1 v2 g1 g2 D) : J κ 0 0 G D 23 [] [] := by
  unfold X3_setNumber_j23 at hw
  exact K _ _ _ dX3_setNumber_23 hw
def X3_setNumber_wp (G : Shp) (D : Dat) (v0 : Nat) (v1 : Int32) (v2 : Int32) (post : Dat → Prop) : Prop := isO G v0 3 ∧ ∃ g1, G.2.2.2 v0 0 = some g1 ∧ isO G g1 11 ∧ ∃ g2, G.2.2.2 v0 1 = some g2 ∧ isO G g2 7 ∧ X8_isTick_wp G D v1 (fun r1 D2 => ((r1 = 0 → X3_setNumber_j23 G post v0 v1 v2 g1 g2 D2) ∧ (¬ (r1 = 0) → (vp_in v1 (G.2.2.1 g1) ∧ X7_add_wp G (dI D2 g1 v1.toNatClampNeg v2) g2 v1 (fun r4 D5 => X3_setNumber_j23 G post v0 v1 v2 g1 g2 D5)))))
set_option maxRecDepth 100000 in
set_option maxHeartbeats 4000000 in
theorem X3_setNumber_ok (l : Launch) (G : Shp) (D : Dat) (v0 : Nat) (v1 : Int32) (v2 : Int32) (post : Dat → Prop) (hw : X3_setNumber_wp G D v0 v1 v2 post) : CtV l yX3_setNumber cX3_setNumber 3 (rmN 2) [.ref v0, .int v1, .int v2] G D post := by
  obtain ⟨ho_v0, g1, hr_g1, ho_g1, g2, hr_g2, ho_g2, hw⟩ := hw
  refine ctV_of (by decide) rfl (Nat.le_of_ble_eq_true rfl) ?_
  intro κ hκ C K
  subst hκ
  have C : Cx κ cX3_setNumber RX3 (rmN 2) 3 := C
  refine j_iload_n C dX3_setNumber_0 rfl 1 rfl ?_
  refine j_cNI (As := [.int v1]) (st := []) C (X8_isTick_ok κ.2.1 G D v1 _ hw) nw_319 ms_X8_isTick ⟨by decide, by decide⟩ ⟨rfl, rfl⟩ rfl rfl (Nat.le_of_ble_eq_true rfl) ⟨Nat.zero_le _, Nat.zero_le _⟩ dX3_setNumber_1 (fun r1 D2 hw => ?_)
  refine j_if_eq (tgt := 23) C dX3_setNumber_4 (by decide) (fun hc => ?_) (fun hc => ?_)
  · have hw := hw.1 hc
    exact J.sub (X3_setNumber_j23_ok C K ho_v0 hr_g1 ho_g1 hr_g2 ho_g2 D2 hw) [] rfl
  · have hw := hw.2 hc
    refine j_aload_n C dX3_setNumber_7 rfl 0 rfl ?_
    refine gf_3_0 C ho_v0 hr_g1 k_83 dX3_setNumber_8 ?_
    refine j_iload_n C dX3_setNumber_11 rfl 1 rfl ?_
    refine j_iload_n C dX3_setNumber_12 rfl 2 rfl ?_
    obtain ⟨hi3, hw⟩ := hw
    refine j_iast C ho_g1 hi3 dX3_setNumber_13 ?_
    refine j_aload_n C dX3_setNumber_14 rfl 0 rfl ?_
    refine gf_3_1 C ho_v0 hr_g2 k_86 dX3_setNumber_15 ?_
    refine j_iload_n C dX3_setNumber_18 rfl 1 rfl ?_
    refine j_cVI (As := [.int v1]) (st := []) C (X7_add_ok κ.2.1 G (dI D2 g1 v1.toNatClampNeg v2) g2 v1 _ hw) ho_g2 rfl k_320 mv_X7_add ⟨by decide, by decide⟩ ⟨rfl, rfl⟩ rfl rfl (Nat.le_of_ble_eq_true rfl) ⟨Nat.zero_le _, Nat.zero_le _⟩ dX3_setNumber_19 (fun r4 D5 hw => ?_)
    refine j_pop C dX3_setNumber_22 rfl ?_
    exact J.sub (X3_setNumber_j23_ok C K ho_v0 hr_g1 ho_g1 hr_g2 ho_g2 D5 hw) [] rfl
