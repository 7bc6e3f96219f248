/-! X9_gather -/
def X9_gather_j201 (G : Shp) (post : Dat → Prop) (v0 : Nat) (v1 : Int32) (g1 : Nat) (g2 : Nat) (g3 : Nat) (g4 : Nat) (k64 : Int32 → Dat → Prop) (v2 : Int32) (D : Dat) : Prop := k64 (v2 + 1) D
set_option maxRecDepth 100000 in
set_option maxHeartbeats 4000000 in
theorem X9_gather_j201_ok {κ : Ctx} {G : Shp} {post : Dat → Prop} {v0 : Nat} {v1 : Int32} {g1 : Nat} {g2 : Nat} {g3 : Nat} {g4 : Nat} (C : Cx κ cX9_gather RX9 (rmN 2) 7) (K : RtV κ cX9_gather G post) (ho_v0 : isO G v0 9) (hr_g1 : G.2.2.2 v0 23 = some g1) (ho_g1 : isO G g1 12) (hr_g2 : G.2.2.2 v0 22 = some g2) (ho_g2 : isO G g2 12) (hr_g3 : G.2.2.2 v0 10 = some g3) (ho_g3 : isO G g3 11) (hr_g4 : G.2.2.2 v0 19 = some g4) (ho_g4 : isO G g4 11) {k64 : Int32 → Dat → Prop} (hk64 : ∀ (v2 : Int32) (D : Dat), k64 v2 D → J κ 0 0 G D 64 [(0, .ref v0), (1, .int v1), (2, .int v2)] []) (v2 : Int32) (D : Dat) (hw : X9_gather_j201 G post v0 v1 g1 g2 g3 g4 k64 v2 D) : J κ 0 0 G D 201 [(0, .ref v0), (1, .int v1), (2, .int v2)] [] := by
  unfold X9_gather_j201 at hw
  refine j_iinc (v := v2 + 1) C dX9_gather_201 2 rfl rfl (by decide) rfl ?_
  refine j_goto (tgt := 64) C dX9_gather_204 (by decide) ?_
  exact J.sub (hk64 (v2 + 1) D hw) [1, 2, 0] rfl
def X9_gather_l147_b (G : Shp) (post : Dat → Prop) (v0 : Nat) (v1 : Int32) (g1 : Nat) (g2 : Nat) (g3 : Nat) (g4 : Nat) (k64 : Int32 → Dat → Prop) (k115 : Int32 → Int64 → Int32 → Dat → Prop) (rec : Int32 → Int64 → Int32 → Int32 → Dat → Prop) (v2 : Int32) (v3 : Int64) (v5 : Int32) (v6 : Int32) (D : Dat) : Prop := (((D.1 v0 21) ≤ v6 → k115 v2 v3 (v5 + 1) D) ∧ (¬ ((D.1 v0 21) ≤ v6) → (vp_in ((19 * v5) + v6) (G.2.2.1 g2) ∧ vp_in v5 (G.2.2.1 g4) ∧ vp_in v6 (G.2.2.1 g4) ∧ vp_in ((19 * v5) + v6) (G.2.2.1 g2) ∧ rec v2 v3 v5 (v6 + 1) (dJ D g2 ((19 * v5) + v6).toNatClampNeg ((D.2 g2 ((19 * v5) + v6).toNatClampNeg) + (((D.1 g4 v5.toNatClampNeg).toInt64) * ((D.1 g4 v6.toNatClampNeg).toInt64)))))))
def X9_gather_l147 (G : Shp) (post : Dat → Prop) (v0 : Nat) (v1 : Int32) (g1 : Nat) (g2 : Nat) (g3 : Nat) (g4 : Nat) (k64 : Int32 → Dat → Prop) (k115 : Int32 → Int64 → Int32 → Dat → Prop) : Nat → Int32 → Int64 → Int32 → Int32 → Dat → Prop
  | 0 => fun _ _ _ _ _ => False
  | n + 1 => X9_gather_l147_b G post v0 v1 g1 g2 g3 g4 k64 k115 (X9_gather_l147 G post v0 v1 g1 g2 g3 g4 k64 k115 n)
set_option maxRecDepth 100000 in
set_option maxHeartbeats 4000000 in
theorem X9_gather_l147_ok {κ : Ctx} {G : Shp} {post : Dat → Prop} {v0 : Nat} {v1 : Int32} {g1 : Nat} {g2 : Nat} {g3 : Nat} {g4 : Nat} (C : Cx κ cX9_gather RX9 (rmN 2) 7) (K : RtV κ cX9_gather G post) (ho_v0 : isO G v0 9) (hr_g1 : G.2.2.2 v0 23 = some g1) (ho_g1 : isO G g1 12) (hr_g2 : G.2.2.2 v0 22 = some g2) (ho_g2 : isO G g2 12) (hr_g3 : G.2.2.2 v0 10 = some g3) (ho_g3 : isO G g3 11) (hr_g4 : G.2.2.2 v0 19 = some g4) (ho_g4 : isO G g4 11) {k64 : Int32 → Dat → Prop} (hk64 : ∀ (v2 : Int32) (D : Dat), k64 v2 D → J κ 0 0 G D 64 [(0, .ref v0), (1, .int v1), (2, .int v2)] []) {k115 : Int32 → Int64 → Int32 → Dat → Prop} (hk115 : ∀ (v2 : Int32) (v3 : Int64) (v5 : Int32) (D : Dat), k115 v2 v3 v5 D → J κ 0 0 G D 115 [(0, .ref v0), (1, .int v1), (2, .int v2), (3, .long v3), (5, .int v5)] []) : ∀ (n : Nat) (v2 : Int32) (v3 : Int64) (v5 : Int32) (v6 : Int32) (D : Dat), X9_gather_l147 G post v0 v1 g1 g2 g3 g4 k64 k115 n v2 v3 v5 v6 D → J κ 0 0 G D 147 [(0, .ref v0), (1, .int v1), (2, .int v2), (3, .long v3), (5, .int v5), (6, .int v6)] [] := by
  intro n
  induction n with
  | zero => intro v2 v3 v5 v6 D hw; exact hw.elim
  | succ n ih =>
    intro v2 v3 v5 v6 D hw
    have hw : X9_gather_l147_b G post v0 v1 g1 g2 g3 g4 k64 k115 (X9_gather_l147 G post v0 v1 g1 g2 g3 g4 k64 k115 n) v2 v3 v5 v6 D := hw
    unfold X9_gather_l147_b at hw
    refine j_iload C dX9_gather_147 5 rfl ?_
    refine j_aload_n C dX9_gather_149 rfl 0 rfl ?_
    refine gf_9_21 C ho_v0 k_785 dX9_gather_150 ?_
    refine j_icmp_ge (tgt := 195) C dX9_gather_153 (by decide) (fun hc => ?_) (fun hc => ?_)
    · have hw := hw.1 hc
      refine j_iinc (v := v5 + 1) C dX9_gather_195 4 rfl rfl (by decide) rfl ?_
      refine j_goto (tgt := 115) C dX9_gather_198 (by decide) ?_
      exact J.sub (hk115 v2 v3 (v5 + 1) D hw) [1, 2, 3, 4, 0] rfl
    · have hw := hw.2 hc
      refine j_aload_n C dX9_gather_156 rfl 0 rfl ?_
      refine gf_9_22 C ho_v0 hr_g2 k_786 dX9_gather_157 ?_
      refine j_bipush (v := 19) C dX9_gather_160 (by decide) ?_
      refine j_iload C dX9_gather_162 4 rfl ?_
      refine j_imul C dX9_gather_164 ?_
      refine j_iload C dX9_gather_165 5 rfl ?_
      refine j_iadd C dX9_gather_167 ?_
      refine j_dup2 C dX9_gather_168 rfl rfl ?_
      obtain ⟨hi1, hw⟩ := hw
      refine j_lald C ho_g2 hi1 dX9_gather_169 ?_
      refine j_aload_n C dX9_gather_170 rfl 0 rfl ?_
      refine gf_9_19 C ho_v0 hr_g4 k_783 dX9_gather_171 ?_
      refine j_iload C dX9_gather_174 4 rfl ?_
      obtain ⟨hi2, hw⟩ := hw
      refine j_iald C ho_g4 hi2 dX9_gather_176 ?_
      refine j_i2l C dX9_gather_177 ?_
      refine j_aload_n C dX9_gather_178 rfl 0 rfl ?_
      refine gf_9_19 C ho_v0 hr_g4 k_783 dX9_gather_179 ?_
      refine j_iload C dX9_gather_182 5 rfl ?_
      obtain ⟨hi3, hw⟩ := hw
      refine j_iald C ho_g4 hi3 dX9_gather_184 ?_
      refine j_i2l C dX9_gather_185 ?_
      refine j_lmul C dX9_gather_186 ?_
      refine j_ladd C dX9_gather_187 ?_
      obtain ⟨hi4, hw⟩ := hw
      refine j_last C ho_g2 hi4 dX9_gather_188 ?_
      refine j_iinc (v := v6 + 1) C dX9_gather_189 5 rfl rfl (by decide) rfl ?_
      refine j_goto (tgt := 147) C dX9_gather_192 (by decide) ?_
      exact J.sub (ih v2 v3 v5 (v6 + 1) (dJ D g2 ((19 * v5) + v6).toNatClampNeg ((D.2 g2 ((19 * v5) + v6).toNatClampNeg) + (((D.1 g4 v5.toNatClampNeg).toInt64) * ((D.1 g4 v6.toNatClampNeg).toInt64)))) hw) [1, 2, 3, 4, 5, 0] rfl
def X9_gather_l115_b (G : Shp) (post : Dat → Prop) (v0 : Nat) (v1 : Int32) (g1 : Nat) (g2 : Nat) (g3 : Nat) (g4 : Nat) (k64 : Int32 → Dat → Prop) (rec : Int32 → Int64 → Int32 → Dat → Prop) (v2 : Int32) (v3 : Int64) (v5 : Int32) (D : Dat) : Prop := (((D.1 v0 21) ≤ v5 → X9_gather_j201 G post v0 v1 g1 g2 g3 g4 k64 v2 D) ∧ (¬ ((D.1 v0 21) ≤ v5) → (vp_in v5 (G.2.2.1 g1) ∧ vp_in v5 (G.2.2.1 g4) ∧ vp_in v5 (G.2.2.1 g1) ∧ ∃ n, X9_gather_l147 G post v0 v1 g1 g2 g3 g4 k64 rec n v2 v3 v5 0 (dJ D g1 v5.toNatClampNeg ((D.2 g1 v5.toNatClampNeg) + (v3 * ((D.1 g4 v5.toNatClampNeg).toInt64)))))))
def X9_gather_l115 (G : Shp) (post : Dat → Prop) (v0 : Nat) (v1 : Int32) (g1 : Nat) (g2 : Nat) (g3 : Nat) (g4 : Nat) (k64 : Int32 → Dat → Prop) : Nat → Int32 → Int64 → Int32 → Dat → Prop
  | 0 => fun _ _ _ _ => False
  | n + 1 => X9_gather_l115_b G post v0 v1 g1 g2 g3 g4 k64 (X9_gather_l115 G post v0 v1 g1 g2 g3 g4 k64 n)
set_option maxRecDepth 100000 in
set_option maxHeartbeats 4000000 in
theorem X9_gather_l115_ok {κ : Ctx} {G : Shp} {post : Dat → Prop} {v0 : Nat} {v1 : Int32} {g1 : Nat} {g2 : Nat} {g3 : Nat} {g4 : Nat} (C : Cx κ cX9_gather RX9 (rmN 2) 7) (K : RtV κ cX9_gather G post) (ho_v0 : isO G v0 9) (hr_g1 : G.2.2.2 v0 23 = some g1) (ho_g1 : isO G g1 12) (hr_g2 : G.2.2.2 v0 22 = some g2) (ho_g2 : isO G g2 12) (hr_g3 : G.2.2.2 v0 10 = some g3) (ho_g3 : isO G g3 11) (hr_g4 : G.2.2.2 v0 19 = some g4) (ho_g4 : isO G g4 11) {k64 : Int32 → Dat → Prop} (hk64 : ∀ (v2 : Int32) (D : Dat), k64 v2 D → J κ 0 0 G D 64 [(0, .ref v0), (1, .int v1), (2, .int v2)] []) : ∀ (n : Nat) (v2 : Int32) (v3 : Int64) (v5 : Int32) (D : Dat), X9_gather_l115 G post v0 v1 g1 g2 g3 g4 k64 n v2 v3 v5 D → J κ 0 0 G D 115 [(0, .ref v0), (1, .int v1), (2, .int v2), (3, .long v3), (5, .int v5)] [] := by
  intro n
  induction n with
  | zero => intro v2 v3 v5 D hw; exact hw.elim
  | succ n ih =>
    intro v2 v3 v5 D hw
    have hw : X9_gather_l115_b G post v0 v1 g1 g2 g3 g4 k64 (X9_gather_l115 G post v0 v1 g1 g2 g3 g4 k64 n) v2 v3 v5 D := hw
    unfold X9_gather_l115_b at hw
    refine j_iload C dX9_gather_115 4 rfl ?_
    refine j_aload_n C dX9_gather_117 rfl 0 rfl ?_
    refine gf_9_21 C ho_v0 k_785 dX9_gather_118 ?_
    refine j_icmp_ge (tgt := 201) C dX9_gather_121 (by decide) (fun hc => ?_) (fun hc => ?_)
    · have hw := hw.1 hc
      exact J.sub (X9_gather_j201_ok C K ho_v0 hr_g1 ho_g1 hr_g2 ho_g2 hr_g3 ho_g3 hr_g4 ho_g4 hk64 v2 D hw) [0, 1, 2] rfl
    · have hw := hw.2 hc
      refine j_aload_n C dX9_gather_124 rfl 0 rfl ?_
      refine gf_9_23 C ho_v0 hr_g1 k_787 dX9_gather_125 ?_
      refine j_iload C dX9_gather_128 4 rfl ?_
      refine j_dup2 C dX9_gather_130 rfl rfl ?_
      obtain ⟨hi1, hw⟩ := hw
      refine j_lald C ho_g1 hi1 dX9_gather_131 ?_
      refine j_lload_n C dX9_gather_132 rfl 3 rfl ?_
      refine j_aload_n C dX9_gather_133 rfl 0 rfl ?_
      refine gf_9_19 C ho_v0 hr_g4 k_783 dX9_gather_134 ?_
      refine j_iload C dX9_gather_137 4 rfl ?_
      obtain ⟨hi2, hw⟩ := hw
      refine j_iald C ho_g4 hi2 dX9_gather_139 ?_
      refine j_i2l C dX9_gather_140 ?_
      refine j_lmul C dX9_gather_141 ?_
      refine j_ladd C dX9_gather_142 ?_
      obtain ⟨hi3, hw⟩ := hw
      refine j_last C ho_g1 hi3 dX9_gather_143 ?_
      refine j_iconst (v := 0) C dX9_gather_144 (by decide) ?_
      refine j_istore C dX9_gather_145 (by decide) rfl ?_
      obtain ⟨n, hw⟩ := hw
      exact J.sub (X9_gather_l147_ok C K ho_v0 hr_g1 ho_g1 hr_g2 ho_g2 hr_g3 ho_g3 hr_g4 ho_g4 hk64 ih n v2 v3 v5 0 (dJ D g1 v5.toNatClampNeg ((D.2 g1 v5.toNatClampNeg) + (v3 * ((D.1 g4 v5.toNatClampNeg).toInt64)))) hw) [1, 2, 3, 4, 5, 0] rfl
def X9_gather_l64_b (G : Shp) (post : Dat → Prop) (v0 : Nat) (v1 : Int32) (g1 : Nat) (g2 : Nat) (g3 : Nat) (g4 : Nat) (rec : Int32 → Dat → Prop) (v2 : Int32) (D : Dat) : Prop := ((40 ≤ v2 → post D) ∧ (¬ (40 ≤ v2) → X9_counts_wp G D v0 v1 v2 (fun r1 D2 => ((¬ r1 = 0 → X9_look_wp G D2 v0 v1 v2 (fun D4 => X9_spot_wp G D4 v1 v2 (fun r5 D6 => (vp_in r5 (G.2.2.1 g3) ∧ ∃ n, X9_gather_l115 G post v0 v1 g1 g2 g3 g4 rec n v2 ((D6.1 g3 r5.toNatClampNeg).toInt64) 0 (dJ D6 v0 25 ((D6.2 v0 25) + (((D6.1 g3 r5.toNatClampNeg).toInt64) * ((D6.1 g3 r5.toNatClampNeg).toInt64)))))))) ∧ (r1 = 0 → X9_gather_j201 G post v0 v1 g1 g2 g3 g4 rec v2 D2)))))
def X9_gather_l64 (G : Shp) (post : Dat → Prop) (v0 : Nat) (v1 : Int32) (g1 : Nat) (g2 : Nat) (g3 : Nat) (g4 : Nat) : Nat → Int32 → Dat → Prop
  | 0 => fun _ _ => False
  | n + 1 => X9_gather_l64_b G post v0 v1 g1 g2 g3 g4 (X9_gather_l64 G post v0 v1 g1 g2 g3 g4 n)
set_option maxRecDepth 100000 in
set_option maxHeartbeats 4000000 in
theorem X9_gather_l64_ok {κ : Ctx} {G : Shp} {post : Dat → Prop} {v0 : Nat} {v1 : Int32} {g1 : Nat} {g2 : Nat} {g3 : Nat} {g4 : Nat} (C : Cx κ cX9_gather RX9 (rmN 2) 7) (K : RtV κ cX9_gather G post) (ho_v0 : isO G v0 9) (hr_g1 : G.2.2.2 v0 23 = some g1) (ho_g1 : isO G g1 12) (hr_g2 : G.2.2.2 v0 22 = some g2) (ho_g2 : isO G g2 12) (hr_g3 : G.2.2.2 v0 10 = some g3) (ho_g3 : isO G g3 11) (hr_g4 : G.2.2.2 v0 19 = some g4) (ho_g4 : isO G g4 11) : ∀ (n : Nat) (v2 : Int32) (D : Dat), X9_gather_l64 G post v0 v1 g1 g2 g3 g4 n v2 D → J κ 0 0 G D 64 [(0, .ref v0), (1, .int v1), (2, .int v2)] [] := by
  intro n
  induction n with
  | zero => intro v2 D hw; exact hw.elim
  | succ n ih =>
    intro v2 D hw
    have hw : X9_gather_l64_b G post v0 v1 g1 g2 g3 g4 (X9_gather_l64 G post v0 v1 g1 g2 g3 g4 n) v2 D := hw
    unfold X9_gather_l64_b at hw
    refine j_iload_n C dX9_gather_64 rfl 2 rfl ?_
    refine j_bipush (v := 40) C dX9_gather_65 (by decide) ?_
    refine j_icmp_ge (tgt := 207) C dX9_gather_67 (by decide) (fun hc => ?_) (fun hc => ?_)
    · have hw := hw.1 hc
      exact K _ _ _ dX9_gather_207 hw
    · have hw := hw.2 hc
      refine j_aload_n C dX9_gather_70 rfl 0 rfl ?_
      refine j_iload_n C dX9_gather_71 rfl 1 rfl ?_
      refine j_iload_n C dX9_gather_72 rfl 2 rfl ?_
      refine j_cVI (As := [.int v1, .int v2]) (st := []) C (X9_counts_ok κ.2.1 G D v0 v1 v2 _ hw) ho_v0 rfl k_905 mv_X9_counts ⟨by decide, by decide⟩ ⟨rfl, rfl⟩ rfl rfl (Nat.le_of_ble_eq_true rfl) ⟨Nat.zero_le _, Nat.zero_le _⟩ dX9_gather_73 (fun r1 D2 hw => ?_)
      refine j_if_ne (tgt := 82) C dX9_gather_76 (by decide) (fun hc => ?_) (fun hc => ?_)
      · have hw := hw.1 hc
        refine j_aload_n C dX9_gather_82 rfl 0 rfl ?_
        refine j_iload_n C dX9_gather_83 rfl 1 rfl ?_
        refine j_iload_n C dX9_gather_84 rfl 2 rfl ?_
        refine j_cVV (As := [.int v1, .int v2]) (st := []) C (X9_look_ok κ.2.1 G D2 v0 v1 v2 _ hw) ho_v0 rfl k_965 mv_X9_look ⟨by decide, by decide⟩ ⟨rfl, rfl⟩ rfl rfl (Nat.le_of_ble_eq_true rfl) ⟨Nat.zero_le _, Nat.zero_le _⟩ dX9_gather_85 (fun D4 hw => ?_)
        refine j_aload_n C dX9_gather_88 rfl 0 rfl ?_
        refine gf_9_10 C ho_v0 hr_g3 k_774 dX9_gather_89 ?_
        refine j_iload_n C dX9_gather_92 rfl 1 rfl ?_
        refine j_iload_n C dX9_gather_93 rfl 2 rfl ?_
        refine j_cSI (As := [.int v1, .int v2]) (st := [.ref g3]) C (X9_spot_ok κ.2.1 G D4 v1 v2 _ hw) k_882 ms_X9_spot ⟨by decide, by decide⟩ ⟨rfl, rfl⟩ rfl rfl (Nat.le_of_ble_eq_true rfl) ⟨Nat.zero_le _, Nat.zero_le _⟩ dX9_gather_94 (fun r5 D6 hw => ?_)
        obtain ⟨hi7, hw⟩ := hw
        refine j_iald C ho_g3 hi7 dX9_gather_97 ?_
        refine j_i2l C dX9_gather_98 ?_
        refine j_lstore_n C dX9_gather_99 rfl (by decide) rfl ?_
        refine j_aload_n C dX9_gather_100 rfl 1 rfl ?_
        refine j_dup C dX9_gather_101 rfl ?_
        refine gf_9_25 C ho_v0 k_789 dX9_gather_102 ?_
        refine j_lload_n C dX9_gather_105 rfl 0 rfl ?_
        refine j_lload_n C dX9_gather_106 rfl 0 rfl ?_
        refine j_lmul C dX9_gather_107 ?_
        refine j_ladd C dX9_gather_108 ?_
        refine pf_9_25 C ho_v0 k_789 dX9_gather_109 ?_
        refine j_iconst (v := 0) C dX9_gather_112 (by decide) ?_
        refine j_istore C dX9_gather_113 (by decide) rfl ?_
        obtain ⟨n, hw⟩ := hw
        exact J.sub (X9_gather_l115_ok C K ho_v0 hr_g1 ho_g1 hr_g2 ho_g2 hr_g3 ho_g3 hr_g4 ho_g4 ih n v2 ((D6.1 g3 r5.toNatClampNeg).toInt64) 0 (dJ D6 v0 25 ((D6.2 v0 25) + (((D6.1 g3 r5.toNatClampNeg).toInt64) * ((D6.1 g3 r5.toNatClampNeg).toInt64)))) hw) [2, 3, 4, 1, 0] rfl
      · have hw := hw.2 hc
        refine j_goto (tgt := 201) C dX9_gather_79 (by decide) ?_
        exact J.sub (X9_gather_j201_ok C K ho_v0 hr_g1 ho_g1 hr_g2 ho_g2 hr_g3 ho_g3 hr_g4 ho_g4 ih v2 D2 hw) [0, 1, 2] rfl
def X9_gather_l25_b (G : Shp) (post : Dat → Prop) (v0 : Nat) (v1 : Int32) (g1 : Nat) (g2 : Nat) (g3 : Nat) (g4 : Nat) (k8 : Int32 → Dat → Prop) (rec : Int32 → Int32 → Dat → Prop) (v2 : Int32) (v3 : Int32) (D : Dat) : Prop := (((D.1 v0 21) ≤ v3 → k8 (v2 + 1) D) ∧ (¬ ((D.1 v0 21) ≤ v3) → (vp_in ((19 * v2) + v3) (G.2.2.1 g2) ∧ rec v2 (v3 + 1) (dJ D g2 ((19 * v2) + v3).toNatClampNeg 0))))
def X9_gather_l25 (G : Shp) (post : Dat → Prop) (v0 : Nat) (v1 : Int32) (g1 : Nat) (g2 : Nat) (g3 : Nat) (g4 : Nat) (k8 : Int32 → Dat → Prop) : Nat → Int32 → Int32 → Dat → Prop
  | 0 => fun _ _ _ => False
  | n + 1 => X9_gather_l25_b G post v0 v1 g1 g2 g3 g4 k8 (X9_gather_l25 G post v0 v1 g1 g2 g3 g4 k8 n)
set_option maxRecDepth 100000 in
set_option maxHeartbeats 4000000 in
theorem X9_gather_l25_ok {κ : Ctx} {G : Shp} {post : Dat → Prop} {v0 : Nat} {v1 : Int32} {g1 : Nat} {g2 : Nat} {g3 : Nat} {g4 : Nat} (C : Cx κ cX9_gather RX9 (rmN 2) 7) (K : RtV κ cX9_gather G post) (ho_v0 : isO G v0 9) (hr_g1 : G.2.2.2 v0 23 = some g1) (ho_g1 : isO G g1 12) (hr_g2 : G.2.2.2 v0 22 = some g2) (ho_g2 : isO G g2 12) (hr_g3 : G.2.2.2 v0 10 = some g3) (ho_g3 : isO G g3 11) (hr_g4 : G.2.2.2 v0 19 = some g4) (ho_g4 : isO G g4 11) {k8 : Int32 → Dat → Prop} (hk8 : ∀ (v2 : Int32) (D : Dat), k8 v2 D → J κ 0 0 G D 8 [(0, .ref v0), (1, .int v1), (2, .int v2)] []) : ∀ (n : Nat) (v2 : Int32) (v3 : Int32) (D : Dat), X9_gather_l25 G post v0 v1 g1 g2 g3 g4 k8 n v2 v3 D → J κ 0 0 G D 25 [(0, .ref v0), (1, .int v1), (2, .int v2), (3, .int v3)] [] := by
  intro n
  induction n with
  | zero => intro v2 v3 D hw; exact hw.elim
  | succ n ih =>
    intro v2 v3 D hw
    have hw : X9_gather_l25_b G post v0 v1 g1 g2 g3 g4 k8 (X9_gather_l25 G post v0 v1 g1 g2 g3 g4 k8 n) v2 v3 D := hw
    unfold X9_gather_l25_b at hw
    refine j_iload_n C dX9_gather_25 rfl 3 rfl ?_
    refine j_aload_n C dX9_gather_26 rfl 0 rfl ?_
    refine gf_9_21 C ho_v0 k_785 dX9_gather_27 ?_
    refine j_icmp_ge (tgt := 51) C dX9_gather_30 (by decide) (fun hc => ?_) (fun hc => ?_)
    · have hw := hw.1 hc
      refine j_iinc (v := v2 + 1) C dX9_gather_51 2 rfl rfl (by decide) rfl ?_
      refine j_goto (tgt := 8) C dX9_gather_54 (by decide) ?_
      exact J.sub (hk8 (v2 + 1) D hw) [1, 2, 0] rfl
    · have hw := hw.2 hc
      refine j_aload_n C dX9_gather_33 rfl 0 rfl ?_
      refine gf_9_22 C ho_v0 hr_g2 k_786 dX9_gather_34 ?_
      refine j_bipush (v := 19) C dX9_gather_37 (by decide) ?_
      refine j_iload_n C dX9_gather_39 rfl 2 rfl ?_
      refine j_imul C dX9_gather_40 ?_
      refine j_iload_n C dX9_gather_41 rfl 3 rfl ?_
      refine j_iadd C dX9_gather_42 ?_
      refine j_lconst (v := 0) C dX9_gather_43 (by decide) ?_
      obtain ⟨hi1, hw⟩ := hw
      refine j_last C ho_g2 hi1 dX9_gather_44 ?_
      refine j_iinc (v := v3 + 1) C dX9_gather_45 3 rfl rfl (by decide) rfl ?_
      refine j_goto (tgt := 25) C dX9_gather_48 (by decide) ?_
      exact J.sub (ih v2 (v3 + 1) (dJ D g2 ((19 * v2) + v3).toNatClampNeg 0) hw) [1, 2, 3, 0] rfl
def X9_gather_l8_b (G : Shp) (post : Dat → Prop) (v0 : Nat) (v1 : Int32) (g1 : Nat) (g2 : Nat) (g3 : Nat) (g4 : Nat) (rec : Int32 → Dat → Prop) (v2 : Int32) (D : Dat) : Prop := (((D.1 v0 21) ≤ v2 → ∃ n, X9_gather_l64 G post v0 v1 g1 g2 g3 g4 n 0 (dJ D v0 25 0)) ∧ (¬ ((D.1 v0 21) ≤ v2) → (vp_in v2 (G.2.2.1 g1) ∧ ∃ n, X9_gather_l25 G post v0 v1 g1 g2 g3 g4 rec n v2 0 (dJ D g1 v2.toNatClampNeg 0))))
def X9_gather_l8 (G : Shp) (post : Dat → Prop) (v0 : Nat) (v1 : Int32) (g1 : Nat) (g2 : Nat) (g3 : Nat) (g4 : Nat) : Nat → Int32 → Dat → Prop
  | 0 => fun _ _ => False
  | n + 1 => X9_gather_l8_b G post v0 v1 g1 g2 g3 g4 (X9_gather_l8 G post v0 v1 g1 g2 g3 g4 n)
set_option maxRecDepth 100000 in
set_option maxHeartbeats 4000000 in
theorem X9_gather_l8_ok {κ : Ctx} {G : Shp} {post : Dat → Prop} {v0 : Nat} {v1 : Int32} {g1 : Nat} {g2 : Nat} {g3 : Nat} {g4 : Nat} (C : Cx κ cX9_gather RX9 (rmN 2) 7) (K : RtV κ cX9_gather G post) (ho_v0 : isO G v0 9) (hr_g1 : G.2.2.2 v0 23 = some g1) (ho_g1 : isO G g1 12) (hr_g2 : G.2.2.2 v0 22 = some g2) (ho_g2 : isO G g2 12) (hr_g3 : G.2.2.2 v0 10 = some g3) (ho_g3 : isO G g3 11) (hr_g4 : G.2.2.2 v0 19 = some g4) (ho_g4 : isO G g4 11) : ∀ (n : Nat) (v2 : Int32) (D : Dat), X9_gather_l8 G post v0 v1 g1 g2 g3 g4 n v2 D → J κ 0 0 G D 8 [(0, .ref v0), (1, .int v1), (2, .int v2)] [] := by
  intro n
  induction n with
  | zero => intro v2 D hw; exact hw.elim
  | succ n ih =>
    intro v2 D hw
    have hw : X9_gather_l8_b G post v0 v1 g1 g2 g3 g4 (X9_gather_l8 G post v0 v1 g1 g2 g3 g4 n) v2 D := hw
    unfold X9_gather_l8_b at hw
    refine j_iload_n C dX9_gather_8 rfl 2 rfl ?_
    refine j_aload_n C dX9_gather_9 rfl 0 rfl ?_
    refine gf_9_21 C ho_v0 k_785 dX9_gather_10 ?_
    refine j_icmp_ge (tgt := 57) C dX9_gather_13 (by decide) (fun hc => ?_) (fun hc => ?_)
    · have hw := hw.1 hc
      refine j_aload_n C dX9_gather_57 rfl 0 rfl ?_
      refine j_lconst (v := 0) C dX9_gather_58 (by decide) ?_
      refine pf_9_25 C ho_v0 k_789 dX9_gather_59 ?_
      refine j_iconst (v := 0) C dX9_gather_62 (by decide) ?_
      refine j_istore_n C dX9_gather_63 rfl (by decide) rfl ?_
      obtain ⟨n, hw⟩ := hw
      exact J.sub (X9_gather_l64_ok C K ho_v0 hr_g1 ho_g1 hr_g2 ho_g2 hr_g3 ho_g3 hr_g4 ho_g4 n 0 (dJ D v0 25 0) hw) [1, 2, 0] rfl
    · have hw := hw.2 hc
      refine j_aload_n C dX9_gather_16 rfl 0 rfl ?_
      refine gf_9_23 C ho_v0 hr_g1 k_787 dX9_gather_17 ?_
      refine j_iload_n C dX9_gather_20 rfl 2 rfl ?_
      refine j_lconst (v := 0) C dX9_gather_21 (by decide) ?_
      obtain ⟨hi1, hw⟩ := hw
      refine j_last C ho_g1 hi1 dX9_gather_22 ?_
      refine j_iconst (v := 0) C dX9_gather_23 (by decide) ?_
      refine j_istore_n C dX9_gather_24 rfl (by decide) rfl ?_
      obtain ⟨n, hw⟩ := hw
      exact J.sub (X9_gather_l25_ok C K ho_v0 hr_g1 ho_g1 hr_g2 ho_g2 hr_g3 ho_g3 hr_g4 ho_g4 ih n v2 0 (dJ D g1 v2.toNatClampNeg 0) hw) [1, 2, 3, 0] rfl
def X9_gather_wp (G : Shp) (D : Dat) (v0 : Nat) (v1 : Int32) (post : Dat → Prop) : Prop := isO G v0 9 ∧ ∃ g1, G.2.2.2 v0 23 = some g1 ∧ isO G g1 12 ∧ ∃ g2, G.2.2.2 v0 22 = some g2 ∧ isO G g2 12 ∧ ∃ g3, G.2.2.2 v0 10 = some g3 ∧ isO G g3 11 ∧ ∃ g4, G.2.2.2 v0 19 = some g4 ∧ isO G g4 11 ∧ X9_look_wp G D v0 v1 0 (fun D2 => ∃ n, X9_gather_l8 G post v0 v1 g1 g2 g3 g4 n 0 D2)
set_option maxRecDepth 100000 in
set_option maxHeartbeats 4000000 in
theorem X9_gather_ok (l : Launch) (G : Shp) (D : Dat) (v0 : Nat) (v1 : Int32) (post : Dat → Prop) (hw : X9_gather_wp G D v0 v1 post) : CtV l yX9_gather cX9_gather 7 (rmN 2) [.ref v0, .int v1] G D post := by
  obtain ⟨ho_v0, g1, hr_g1, ho_g1, g2, hr_g2, ho_g2, g3, hr_g3, ho_g3, g4, hr_g4, ho_g4, hw⟩ := hw
  refine ctV_of (by decide) rfl (Nat.le_of_ble_eq_true rfl) ?_
  intro κ hκ C K
  subst hκ
  have C : Cx κ cX9_gather RX9 (rmN 2) 7 := C
  refine j_aload_n C dX9_gather_0 rfl 0 rfl ?_
  refine j_iload_n C dX9_gather_1 rfl 1 rfl ?_
  refine j_iconst (v := 0) C dX9_gather_2 (by decide) ?_
  refine j_cVV (As := [.int v1, .int 0]) (st := []) C (X9_look_ok κ.2.1 G D v0 v1 0 _ hw) ho_v0 rfl k_965 mv_X9_look ⟨by decide, by decide⟩ ⟨rfl, rfl⟩ rfl rfl (Nat.le_of_ble_eq_true rfl) ⟨Nat.zero_le _, Nat.zero_le _⟩ dX9_gather_3 (fun D2 hw => ?_)
  refine j_iconst (v := 0) C dX9_gather_6 (by decide) ?_
  refine j_istore_n C dX9_gather_7 rfl (by decide) rfl ?_
  obtain ⟨n, hw⟩ := hw
  exact J.sub (X9_gather_l8_ok C K ho_v0 hr_g1 ho_g1 hr_g2 ho_g2 hr_g3 ho_g3 hr_g4 ho_g4 n 0 D2 hw) [1, 2, 0] rfl
/-! X9_sum -/
def X9_sum_j338 (G : Shp) (post : Int32 → Dat → Prop) (v0 : Nat) (v1 : Int32) (v2 : Int32) (g1 : Nat) (s0 : Int32) (s1 : Int32) (s2 : Int32) (s3 : Nat) (D : Dat) : Prop := (isO G s3 9 ∧ X9_done_wp G D s3 s2 s1 s0 (fun r2 D3 => post r2 D3))
set_option maxRecDepth 100000 in
set_option maxHeartbeats 4000000 in
theorem X9_sum_j338_ok {κ : Ctx} {G : Shp} {post : Int32 → Dat → Prop} {v0 : Nat} {v1 : Int32} {v2 : Int32} {g1 : Nat} (C : Cx κ cX9_sum RX9 (rmN 2) 11) (K : RtI κ cX9_sum .int G post) (ho_v0 : isO G v0 9) (hr_g1 : G.2.2.2 v0 1 = some g1) (ho_g1 : isO G g1 11) (s0 : Int32) (s1 : Int32) (s2 : Int32) (s3 : Nat) (D : Dat) (hw : X9_sum_j338 G post v0 v1 v2 g1 s0 s1 s2 s3 D) : J κ 0 0 G D 338 [] [.int s0, .int s1, .int s2, .ref s3] := by
  unfold X9_sum_j338 at hw
  obtain ⟨ho1, hw⟩ := hw
  refine j_cVI (As := [.int s2, .int s1, .int s0]) (st := []) C (X9_done_ok κ.2.1 G D s3 s2 s1 s0 _ hw) ho1 rfl k_986 mv_X9_done ⟨by decide, by decide⟩ ⟨rfl, rfl⟩ rfl rfl (Nat.le_of_ble_eq_true rfl) ⟨Nat.zero_le _, Nat.zero_le _⟩ dX9_sum_338 (fun r2 D3 hw => ?_)
  exact K _ _ _ _ dX9_sum_341 rfl hw
def X9_sum_j296 (G : Shp) (post : Int32 → Dat → Prop) (v0 : Nat) (v1 : Int32) (v2 : Int32) (g1 : Nat) (k238 : Int32 → Int32 → Int32 → Int32 → Int32 → Int32 → Dat → Prop) (v4 : Int32) (v5 : Int32) (v6 : Int32) (v7 : Int32) (v9 : Int32) (v10 : Int32) (s0 : Int32) (D : Dat) : Prop := (vp_in (v7 + v9) (G.2.2.1 g1) ∧ k238 v4 v5 v6 v7 s0 (v9 + 1) (dI D g1 (v7 + v9).toNatClampNeg (v10 &&& 1073741823)))
set_option maxRecDepth 100000 in
set_option maxHeartbeats 4000000 in
theorem X9_sum_j296_ok {κ : Ctx} {G : Shp} {post : Int32 → Dat → Prop} {v0 : Nat} {v1 : Int32} {v2 : Int32} {g1 : Nat} (C : Cx κ cX9_sum RX9 (rmN 2) 11) (K : RtI κ cX9_sum .int G post) (ho_v0 : isO G v0 9) (hr_g1 : G.2.2.2 v0 1 = some g1) (ho_g1 : isO G g1 11) {k238 : Int32 → Int32 → Int32 → Int32 → Int32 → Int32 → Dat → Prop} (hk238 : ∀ (v4 : Int32) (v5 : Int32) (v6 : Int32) (v7 : Int32) (v8 : Int32) (v9 : Int32) (D : Dat), k238 v4 v5 v6 v7 v8 v9 D → J κ 0 0 G D 238 [(0, .ref v0), (4, .int v4), (5, .int v5), (6, .int v6), (7, .int v7), (8, .int v8), (9, .int v9)] []) (v4 : Int32) (v5 : Int32) (v6 : Int32) (v7 : Int32) (v9 : Int32) (v10 : Int32) (s0 : Int32) (D : Dat) (hw : X9_sum_j296 G post v0 v1 v2 g1 k238 v4 v5 v6 v7 v9 v10 s0 D) : J κ 0 0 G D 296 [(0, .ref v0), (4, .int v4), (5, .int v5), (6, .int v6), (7, .int v7), (9, .int v9), (10, .int v10)] [.int s0] := by
  unfold X9_sum_j296 at hw
  refine j_istore C dX9_sum_296 (by decide) rfl ?_
  refine j_aload_n C dX9_sum_298 rfl 1 rfl ?_
  refine gf_9_1 C ho_v0 hr_g1 k_765 dX9_sum_299 ?_
  refine j_iload C dX9_sum_302 5 rfl ?_
  refine j_iload C dX9_sum_304 6 rfl ?_
  refine j_iadd C dX9_sum_306 ?_
  refine j_iload C dX9_sum_307 7 rfl ?_
  refine j_ldc (v := 1073741823) C k_1019 dX9_sum_309 ?_
  refine j_iand C dX9_sum_311 ?_
  obtain ⟨hi1, hw⟩ := hw
  refine j_iast C ho_g1 hi1 dX9_sum_312 ?_
  refine j_iinc (v := v9 + 1) C dX9_sum_313 6 rfl rfl (by decide) rfl ?_
  refine j_goto (tgt := 238) C dX9_sum_316 (by decide) ?_
  exact J.sub (hk238 v4 v5 v6 v7 s0 (v9 + 1) (dI D g1 (v7 + v9).toNatClampNeg (v10 &&& 1073741823)) hw) [2, 3, 4, 5, 6, 1, 0] rfl
def X9_sum_j283 (G : Shp) (post : Int32 → Dat → Prop) (v0 : Nat) (v1 : Int32) (v2 : Int32) (g1 : Nat) (k238 : Int32 → Int32 → Int32 → Int32 → Int32 → Int32 → Dat → Prop) (v4 : Int32) (v5 : Int32) (v6 : Int32) (v7 : Int32) (v9 : Int32) (s0 : Int32) (s1 : Int32) (D : Dat) : Prop := ((0 ≤ (s1 - s0) → X9_sum_j296 G post v0 v1 v2 g1 k238 v4 v5 v6 v7 v9 (s1 - s0) 0 D) ∧ (¬ (0 ≤ (s1 - s0)) → X9_sum_j296 G post v0 v1 v2 g1 k238 v4 v5 v6 v7 v9 (s1 - s0) 1 D))
set_option maxRecDepth 100000 in
set_option maxHeartbeats 4000000 in
theorem X9_sum_j283_ok {κ : Ctx} {G : Shp} {post : Int32 → Dat → Prop} {v0 : Nat} {v1 : Int32} {v2 : Int32} {g1 : Nat} (C : Cx κ cX9_sum RX9 (rmN 2) 11) (K : RtI κ cX9_sum .int G post) (ho_v0 : isO G v0 9) (hr_g1 : G.2.2.2 v0 1 = some g1) (ho_g1 : isO G g1 11) {k238 : Int32 → Int32 → Int32 → Int32 → Int32 → Int32 → Dat → Prop} (hk238 : ∀ (v4 : Int32) (v5 : Int32) (v6 : Int32) (v7 : Int32) (v8 : Int32) (v9 : Int32) (D : Dat), k238 v4 v5 v6 v7 v8 v9 D → J κ 0 0 G D 238 [(0, .ref v0), (4, .int v4), (5, .int v5), (6, .int v6), (7, .int v7), (8, .int v8), (9, .int v9)] []) (v4 : Int32) (v5 : Int32) (v6 : Int32) (v7 : Int32) (v9 : Int32) (s0 : Int32) (s1 : Int32) (D : Dat) (hw : X9_sum_j283 G post v0 v1 v2 g1 k238 v4 v5 v6 v7 v9 s0 s1 D) : J κ 0 0 G D 283 [(0, .ref v0), (4, .int v4), (5, .int v5), (6, .int v6), (7, .int v7), (9, .int v9)] [.int s0, .int s1] := by
  unfold X9_sum_j283 at hw
  refine j_isub C dX9_sum_283 ?_
  refine j_istore C dX9_sum_284 (by decide) rfl ?_
  refine j_iload C dX9_sum_286 0 rfl ?_
  refine j_if_ge (tgt := 295) C dX9_sum_288 (by decide) (fun hc => ?_) (fun hc => ?_)
  · have hw := hw.1 hc
    refine j_iconst (v := 0) C dX9_sum_295 (by decide) ?_
    exact J.sub (X9_sum_j296_ok C K ho_v0 hr_g1 ho_g1 hk238 v4 v5 v6 v7 v9 (s1 - s0) 0 D hw) [1, 2, 3, 4, 5, 6, 0] rfl
  · have hw := hw.2 hc
    refine j_iconst (v := 1) C dX9_sum_291 (by decide) ?_
    refine j_goto (tgt := 296) C dX9_sum_292 (by decide) ?_
    exact J.sub (X9_sum_j296_ok C K ho_v0 hr_g1 ho_g1 hk238 v4 v5 v6 v7 v9 (s1 - s0) 1 D hw) [1, 2, 3, 4, 5, 6, 0] rfl
def X9_sum_l238_b (G : Shp) (post : Int32 → Dat → Prop) (v0 : Nat) (v1 : Int32) (v2 : Int32) (g1 : Nat) (rec : Int32 → Int32 → Int32 → Int32 → Int32 → Int32 → Dat → Prop) (v4 : Int32) (v5 : Int32) (v6 : Int32) (v7 : Int32) (v8 : Int32) (v9 : Int32) (D : Dat) : Prop := ((v6 < v9 → X9_sign_wp G D v0 v4 (fun r1 D2 => ((0 ≤ r1 → X9_sum_j338 G post v0 v1 v2 g1 0 v6 v7 v0 D2) ∧ (¬ (0 ≤ r1) → X9_sum_j338 G post v0 v1 v2 g1 1 v6 v7 v0 D2)))) ∧ (¬ (v6 < v9) → (vp_in (v4 + v9) (G.2.2.1 g1) ∧ X9_size_wp G D v0 v5 (fun r4 D5 => ((r4 < v9 → X9_sum_j283 G post v0 v1 v2 g1 rec v4 v5 v6 v7 v9 0 ((D.1 g1 (v4 + v9).toNatClampNeg) - v8) D5) ∧ (¬ (r4 < v9) → (vp_in (v5 + v9) (G.2.2.1 g1) ∧ X9_sum_j283 G post v0 v1 v2 g1 rec v4 v5 v6 v7 v9 (D5.1 g1 (v5 + v9).toNatClampNeg) ((D.1 g1 (v4 + v9).toNatClampNeg) - v8) D5)))))))
def X9_sum_l238 (G : Shp) (post : Int32 → Dat → Prop) (v0 : Nat) (v1 : Int32) (v2 : Int32) (g1 : Nat) : Nat → Int32 → Int32 → Int32 → Int32 → Int32 → Int32 → Dat → Prop
  | 0 => fun _ _ _ _ _ _ _ => False
  | n + 1 => X9_sum_l238_b G post v0 v1 v2 g1 (X9_sum_l238 G post v0 v1 v2 g1 n)
set_option maxRecDepth 100000 in
set_option maxHeartbeats 4000000 in
theorem X9_sum_l238_ok {κ : Ctx} {G : Shp} {post : Int32 → Dat → Prop} {v0 : Nat} {v1 : Int32} {v2 : Int32} {g1 : Nat} (C : Cx κ cX9_sum RX9 (rmN 2) 11) (K : RtI κ cX9_sum .int G post) (ho_v0 : isO G v0 9) (hr_g1 : G.2.2.2 v0 1 = some g1) (ho_g1 : isO G g1 11) : ∀ (n : Nat) (v4 : Int32) (v5 : Int32) (v6 : Int32) (v7 : Int32) (v8 : Int32) (v9 : Int32) (D : Dat), X9_sum_l238 G post v0 v1 v2 g1 n v4 v5 v6 v7 v8 v9 D → J κ 0 0 G D 238 [(0, .ref v0), (4, .int v4), (5, .int v5), (6, .int v6), (7, .int v7), (8, .int v8), (9, .int v9)] [] := by
  intro n
  induction n with
  | zero => intro v4 v5 v6 v7 v8 v9 D hw; exact hw.elim
  | succ n ih =>
    intro v4 v5 v6 v7 v8 v9 D hw
    have hw : X9_sum_l238_b G post v0 v1 v2 g1 (X9_sum_l238 G post v0 v1 v2 g1 n) v4 v5 v6 v7 v8 v9 D := hw
    unfold X9_sum_l238_b at hw
    refine j_iload C dX9_sum_238 6 rfl ?_
    refine j_iload C dX9_sum_240 3 rfl ?_
    refine j_icmp_gt (tgt := 319) C dX9_sum_242 (by decide) (fun hc => ?_) (fun hc => ?_)
    · have hw := hw.1 hc
      refine j_aload_n C dX9_sum_319 rfl 0 rfl ?_
      refine j_iload C dX9_sum_320 4 rfl ?_
      refine j_iload C dX9_sum_322 3 rfl ?_
      refine j_aload_n C dX9_sum_324 rfl 0 rfl ?_
      refine j_iload C dX9_sum_325 1 rfl ?_
      refine j_cVI (As := [.int v4]) (st := [.int v6, .int v7, .ref v0]) C (X9_sign_ok κ.2.1 G D v0 v4 _ hw) ho_v0 rfl k_990 mv_X9_sign ⟨by decide, by decide⟩ ⟨rfl, rfl⟩ rfl rfl (Nat.le_of_ble_eq_true rfl) ⟨Nat.zero_le _, Nat.zero_le _⟩ dX9_sum_327 (fun r1 D2 hw => ?_)
      refine j_if_ge (tgt := 337) C dX9_sum_330 (by decide) (fun hc => ?_) (fun hc => ?_)
      · have hw := hw.1 hc
        refine j_iconst (v := 0) C dX9_sum_337 (by decide) ?_
        exact J.sub (X9_sum_j338_ok C K ho_v0 hr_g1 ho_g1 0 v6 v7 v0 D2 hw) [] rfl
      · have hw := hw.2 hc
        refine j_iconst (v := 1) C dX9_sum_333 (by decide) ?_
        refine j_goto (tgt := 338) C dX9_sum_334 (by decide) ?_
        exact J.sub (X9_sum_j338_ok C K ho_v0 hr_g1 ho_g1 1 v6 v7 v0 D2 hw) [] rfl
    · have hw := hw.2 hc
      refine j_aload_n C dX9_sum_245 rfl 0 rfl ?_
      refine gf_9_1 C ho_v0 hr_g1 k_765 dX9_sum_246 ?_
      refine j_iload C dX9_sum_249 1 rfl ?_
      refine j_iload C dX9_sum_251 6 rfl ?_
      refine j_iadd C dX9_sum_253 ?_
      obtain ⟨hi3, hw⟩ := hw
      refine j_iald C ho_g1 hi3 dX9_sum_254 ?_
      refine j_iload C dX9_sum_255 5 rfl ?_
      refine j_isub C dX9_sum_257 ?_
      refine j_iload C dX9_sum_258 6 rfl ?_
      refine j_aload_n C dX9_sum_260 rfl 0 rfl ?_
      refine j_iload C dX9_sum_261 2 rfl ?_
      refine j_cVI (As := [.int v5]) (st := [.int v9, .int ((D.1 g1 (v4 + v9).toNatClampNeg) - v8)]) C (X9_size_ok κ.2.1 G D v0 v5 _ hw) ho_v0 rfl k_998 mv_X9_size ⟨by decide, by decide⟩ ⟨rfl, rfl⟩ rfl rfl (Nat.le_of_ble_eq_true rfl) ⟨Nat.zero_le _, Nat.zero_le _⟩ dX9_sum_263 (fun r4 D5 hw => ?_)
      refine j_icmp_gt (tgt := 282) C dX9_sum_266 (by decide) (fun hc => ?_) (fun hc => ?_)
      · have hw := hw.1 hc
        refine j_iconst (v := 0) C dX9_sum_282 (by decide) ?_
        exact J.sub (X9_sum_j283_ok C K ho_v0 hr_g1 ho_g1 ih v4 v5 v6 v7 v9 0 ((D.1 g1 (v4 + v9).toNatClampNeg) - v8) D5 hw) [0, 1, 2, 3, 4, 6] rfl
      · have hw := hw.2 hc
        refine j_aload_n C dX9_sum_269 rfl 0 rfl ?_
        refine gf_9_1 C ho_v0 hr_g1 k_765 dX9_sum_270 ?_
        refine j_iload C dX9_sum_273 2 rfl ?_
        refine j_iload C dX9_sum_275 6 rfl ?_
        refine j_iadd C dX9_sum_277 ?_
        obtain ⟨hi6, hw⟩ := hw
        refine j_iald C ho_g1 hi6 dX9_sum_278 ?_
        refine j_goto (tgt := 283) C dX9_sum_279 (by decide) ?_
        exact J.sub (X9_sum_j283_ok C K ho_v0 hr_g1 ho_g1 ih v4 v5 v6 v7 v9 (D5.1 g1 (v5 + v9).toNatClampNeg) ((D.1 g1 (v4 + v9).toNatClampNeg) - v8) D5 hw) [0, 1, 2, 3, 4, 6] rfl
def X9_sum_j214 (G : Shp) (post : Int32 → Dat → Prop) (v0 : Nat) (v1 : Int32) (v2 : Int32) (g1 : Nat) (v4 : Int32) (s0 : Int32) (D : Dat) : Prop := X9_size_wp G D v0 v4 (fun r1 D2 => X9_room_wp G D2 v0 r1 (fun r3 D4 => ∃ n, X9_sum_l238 G post v0 v1 v2 g1 n v4 s0 r1 r3 0 1 D4))
set_option maxRecDepth 100000 in
set_option maxHeartbeats 4000000 in
theorem X9_sum_j214_ok {κ : Ctx} {G : Shp} {post : Int32 → Dat → Prop} {v0 : Nat} {v1 : Int32} {v2 : Int32} {g1 : Nat} (C : Cx κ cX9_sum RX9 (rmN 2) 11) (K : RtI κ cX9_sum .int G post) (ho_v0 : isO G v0 9) (hr_g1 : G.2.2.2 v0 1 = some g1) (ho_g1 : isO G g1 11) (v4 : Int32) (s0 : Int32) (D : Dat) (hw : X9_sum_j214 G post v0 v1 v2 g1 v4 s0 D) : J κ 0 0 G D 214 [(0, .ref v0), (4, .int v4)] [.int s0] := by
  unfold X9_sum_j214 at hw
  refine j_istore C dX9_sum_214 (by decide) rfl ?_
  refine j_aload_n C dX9_sum_216 rfl 1 rfl ?_
  refine j_iload C dX9_sum_217 2 rfl ?_
  refine j_cVI (As := [.int v4]) (st := []) C (X9_size_ok κ.2.1 G D v0 v4 _ hw) ho_v0 rfl k_998 mv_X9_size ⟨by decide, by decide⟩ ⟨rfl, rfl⟩ rfl rfl (Nat.le_of_ble_eq_true rfl) ⟨Nat.zero_le _, Nat.zero_le _⟩ dX9_sum_219 (fun r1 D2 hw => ?_)
  refine j_istore C dX9_sum_222 (by decide) rfl ?_
  refine j_aload_n C dX9_sum_224 rfl 2 rfl ?_
  refine j_iload C dX9_sum_225 0 rfl ?_
  refine j_cVI (As := [.int r1]) (st := []) C (X9_room_ok κ.2.1 G D2 v0 r1 _ hw) ho_v0 rfl k_981 mv_X9_room ⟨by decide, by decide⟩ ⟨rfl, rfl⟩ rfl rfl (Nat.le_of_ble_eq_true rfl) ⟨Nat.zero_le _, Nat.zero_le _⟩ dX9_sum_227 (fun r3 D4 hw => ?_)
  refine j_istore C dX9_sum_230 (by decide) rfl ?_
  refine j_iconst (v := 0) C dX9_sum_232 (by decide) ?_
  refine j_istore C dX9_sum_233 (by decide) rfl ?_
  refine j_iconst (v := 1) C dX9_sum_235 (by decide) ?_
  refine j_istore C dX9_sum_236 (by decide) rfl ?_
  obtain ⟨n, hw⟩ := hw
  exact J.sub (X9_sum_l238_ok C K ho_v0 hr_g1 ho_g1 n v4 s0 r1 r3 0 1 D4 hw) [5, 6, 4, 3, 2, 1, 0] rfl
def X9_sum_j203 (G : Shp) (post : Int32 → Dat → Prop) (v0 : Nat) (v1 : Int32) (v2 : Int32) (g1 : Nat) (v3 : Int32) (s0 : Int32) (D : Dat) : Prop := ((v3 ≤ 0 → X9_sum_j214 G post v0 v1 v2 g1 s0 v1 D) ∧ (¬ (v3 ≤ 0) → X9_sum_j214 G post v0 v1 v2 g1 s0 v2 D))
set_option maxRecDepth 100000 in
set_option maxHeartbeats 4000000 in
theorem X9_sum_j203_ok {κ : Ctx} {G : Shp} {post : Int32 → Dat → Prop} {v0 : Nat} {v1 : Int32} {v2 : Int32} {g1 : Nat} (C : Cx κ cX9_sum RX9 (rmN 2) 11) (K : RtI κ cX9_sum .int G post) (ho_v0 : isO G v0 9) (hr_g1 : G.2.2.2 v0 1 = some g1) (ho_g1 : isO G g1 11) (v3 : Int32) (s0 : Int32) (D : Dat) (hw : X9_sum_j203 G post v0 v1 v2 g1 v3 s0 D) : J κ 0 0 G D 203 [(0, .ref v0), (1, .int v1), (2, .int v2), (3, .int v3)] [.int s0] := by
  unfold X9_sum_j203 at hw
  refine j_istore C dX9_sum_203 (by decide) rfl ?_
  refine j_iload_n C dX9_sum_205 rfl 4 rfl ?_
  refine j_if_le (tgt := 213) C dX9_sum_206 (by decide) (fun hc => ?_) (fun hc => ?_)
  · have hw := hw.1 hc
    refine j_iload_n C dX9_sum_213 rfl 2 rfl ?_
    exact J.sub (X9_sum_j214_ok C K ho_v0 hr_g1 ho_g1 s0 v1 D hw) [1, 0] rfl
  · have hw := hw.2 hc
    refine j_iload_n C dX9_sum_209 rfl 3 rfl ?_
    refine j_goto (tgt := 214) C dX9_sum_210 (by decide) ?_
    exact J.sub (X9_sum_j214_ok C K ho_v0 hr_g1 ho_g1 s0 v2 D hw) [1, 0] rfl
def X9_sum_j173 (G : Shp) (post : Int32 → Dat → Prop) (v0 : Nat) (v1 : Int32) (v2 : Int32) (g1 : Nat) (s0 : Int32) (s1 : Int32) (s2 : Int32) (s3 : Nat) (D : Dat) : Prop := (isO G s3 9 ∧ X9_done_wp G D s3 s2 s1 s0 (fun r2 D3 => post r2 D3))
set_option maxRecDepth 100000 in
set_option maxHeartbeats 4000000 in
theorem X9_sum_j173_ok {κ : Ctx} {G : Shp} {post : Int32 → Dat → Prop} {v0 : Nat} {v1 : Int32} {v2 : Int32} {g1 : Nat} (C : Cx κ cX9_sum RX9 (rmN 2) 11) (K : RtI κ cX9_sum .int G post) (ho_v0 : isO G v0 9) (hr_g1 : G.2.2.2 v0 1 = some g1) (ho_g1 : isO G g1 11) (s0 : Int32) (s1 : Int32) (s2 : Int32) (s3 : Nat) (D : Dat) (hw : X9_sum_j173 G post v0 v1 v2 g1 s0 s1 s2 s3 D) : J κ 0 0 G D 173 [] [.int s0, .int s1, .int s2, .ref s3] := by
  unfold X9_sum_j173 at hw
  obtain ⟨ho1, hw⟩ := hw
  refine j_cVI (As := [.int s2, .int s1, .int s0]) (st := []) C (X9_done_ok κ.2.1 G D s3 s2 s1 s0 _ hw) ho1 rfl k_986 mv_X9_done ⟨by decide, by decide⟩ ⟨rfl, rfl⟩ rfl rfl (Nat.le_of_ble_eq_true rfl) ⟨Nat.zero_le _, Nat.zero_le _⟩ dX9_sum_173 (fun r2 D3 hw => ?_)
  exact K _ _ _ _ dX9_sum_176 rfl hw
def X9_sum_j125 (G : Shp) (post : Int32 → Dat → Prop) (v0 : Nat) (v1 : Int32) (v2 : Int32) (g1 : Nat) (k70 : Int32 → Int32 → Int32 → Int32 → Dat → Prop) (v3 : Int32) (v4 : Int32) (v6 : Int32) (s0 : Int32) (s1 : Int32) (D : Dat) : Prop := (vp_in (v4 + v6) (G.2.2.1 g1) ∧ k70 v3 v4 (((s1 + s0).toUInt32 >>> ((30 : Int32).toUInt32 &&& Int32.toUInt32 31)).toInt32) (v6 + 1) (dI D g1 (v4 + v6).toNatClampNeg ((s1 + s0) &&& 1073741823)))
set_option maxRecDepth 100000 in
set_option maxHeartbeats 4000000 in
theorem X9_sum_j125_ok {κ : Ctx} {G : Shp} {post : Int32 → Dat → Prop} {v0 : Nat} {v1 : Int32} {v2 : Int32} {g1 : Nat} (C : Cx κ cX9_sum RX9 (rmN 2) 11) (K : RtI κ cX9_sum .int G post) (ho_v0 : isO G v0 9) (hr_g1 : G.2.2.2 v0 1 = some g1) (ho_g1 : isO G g1 11) {k70 : Int32 → Int32 → Int32 → Int32 → Dat → Prop} (hk70 : ∀ (v3 : Int32) (v4 : Int32) (v5 : Int32) (v6 : Int32) (D : Dat), k70 v3 v4 v5 v6 D → J κ 0 0 G D 70 [(0, .ref v0), (1, .int v1), (2, .int v2), (3, .int v3), (4, .int v4), (5, .int v5), (6, .int v6)] []) (v3 : Int32) (v4 : Int32) (v6 : Int32) (s0 : Int32) (s1 : Int32) (D : Dat) (hw : X9_sum_j125 G post v0 v1 v2 g1 k70 v3 v4 v6 s0 s1 D) : J κ 0 0 G D 125 [(0, .ref v0), (1, .int v1), (2, .int v2), (3, .int v3), (4, .int v4), (6, .int v6)] [.int s0, .int s1] := by
  unfold X9_sum_j125 at hw
  refine j_iadd C dX9_sum_125 ?_
  refine j_istore C dX9_sum_126 (by decide) rfl ?_
  refine j_aload_n C dX9_sum_128 rfl 1 rfl ?_
  refine gf_9_1 C ho_v0 hr_g1 k_765 dX9_sum_129 ?_
  refine j_iload C dX9_sum_132 5 rfl ?_
  refine j_iload C dX9_sum_134 6 rfl ?_
  refine j_iadd C dX9_sum_136 ?_
  refine j_iload C dX9_sum_137 0 rfl ?_
  refine j_ldc (v := 1073741823) C k_1019 dX9_sum_139 ?_
  refine j_iand C dX9_sum_141 ?_
  obtain ⟨hi1, hw⟩ := hw
  refine j_iast C ho_g1 hi1 dX9_sum_142 ?_
  refine j_iload C dX9_sum_143 0 rfl ?_
  refine j_bipush (v := 30) C dX9_sum_145 (by decide) ?_
  refine j_iushr C dX9_sum_147 ?_
  refine j_istore C dX9_sum_148 (by decide) rfl ?_
  refine j_iinc (v := v6 + 1) C dX9_sum_150 7 rfl rfl (by decide) rfl ?_
  refine j_goto (tgt := 70) C dX9_sum_153 (by decide) ?_
  exact J.sub (hk70 v3 v4 (((s1 + s0).toUInt32 >>> ((30 : Int32).toUInt32 &&& Int32.toUInt32 31)).toInt32) (v6 + 1) (dI D g1 (v4 + v6).toNatClampNeg ((s1 + s0) &&& 1073741823)) hw) [3, 4, 5, 6, 7, 1, 0] rfl
def X9_sum_j101 (G : Shp) (post : Int32 → Dat → Prop) (v0 : Nat) (v1 : Int32) (v2 : Int32) (g1 : Nat) (k70 : Int32 → Int32 → Int32 → Int32 → Dat → Prop) (v3 : Int32) (v4 : Int32) (v6 : Int32) (s0 : Int32) (s1 : Int32) (D : Dat) : Prop := X9_size_wp G D v0 v2 (fun r1 D2 => ((r1 < v6 → X9_sum_j125 G post v0 v1 v2 g1 k70 v3 v4 v6 0 (s1 + s0) D2) ∧ (¬ (r1 < v6) → (vp_in (v2 + v6) (G.2.2.1 g1) ∧ X9_sum_j125 G post v0 v1 v2 g1 k70 v3 v4 v6 (D2.1 g1 (v2 + v6).toNatClampNeg) (s1 + s0) D2))))
set_option maxRecDepth 100000 in
set_option maxHeartbeats 4000000 in
theorem X9_sum_j101_ok {κ : Ctx} {G : Shp} {post : Int32 → Dat → Prop} {v0 : Nat} {v1 : Int32} {v2 : Int32} {g1 : Nat} (C : Cx κ cX9_sum RX9 (rmN 2) 11) (K : RtI κ cX9_sum .int G post) (ho_v0 : isO G v0 9) (hr_g1 : G.2.2.2 v0 1 = some g1) (ho_g1 : isO G g1 11) {k70 : Int32 → Int32 → Int32 → Int32 → Dat → Prop} (hk70 : ∀ (v3 : Int32) (v4 : Int32) (v5 : Int32) (v6 : Int32) (D : Dat), k70 v3 v4 v5 v6 D → J κ 0 0 G D 70 [(0, .ref v0), (1, .int v1), (2, .int v2), (3, .int v3), (4, .int v4), (5, .int v5), (6, .int v6)] []) (v3 : Int32) (v4 : Int32) (v6 : Int32) (s0 : Int32) (s1 : Int32) (D : Dat) (hw : X9_sum_j101 G post v0 v1 v2 g1 k70 v3 v4 v6 s0 s1 D) : J κ 0 0 G D 101 [(0, .ref v0), (1, .int v1), (2, .int v2), (3, .int v3), (4, .int v4), (6, .int v6)] [.int s0, .int s1] := by
  unfold X9_sum_j101 at hw
  refine j_iadd C dX9_sum_101 ?_
  refine j_iload C dX9_sum_102 5 rfl ?_
  refine j_aload_n C dX9_sum_104 rfl 0 rfl ?_
  refine j_iload_n C dX9_sum_105 rfl 2 rfl ?_
  refine j_cVI (As := [.int v2]) (st := [.int v6, .int (s1 + s0)]) C (X9_size_ok κ.2.1 G D v0 v2 _ hw) ho_v0 rfl k_998 mv_X9_size ⟨by decide, by decide⟩ ⟨rfl, rfl⟩ rfl rfl (Nat.le_of_ble_eq_true rfl) ⟨Nat.zero_le _, Nat.zero_le _⟩ dX9_sum_106 (fun r1 D2 hw => ?_)
  refine j_icmp_gt (tgt := 124) C dX9_sum_109 (by decide) (fun hc => ?_) (fun hc => ?_)
  · have hw := hw.1 hc
    refine j_iconst (v := 0) C dX9_sum_124 (by decide) ?_
    exact J.sub (X9_sum_j125_ok C K ho_v0 hr_g1 ho_g1 hk70 v3 v4 v6 0 (s1 + s0) D2 hw) [0, 1, 2, 3, 4, 5] rfl
  · have hw := hw.2 hc
    refine j_aload_n C dX9_sum_112 rfl 0 rfl ?_
    refine gf_9_1 C ho_v0 hr_g1 k_765 dX9_sum_113 ?_
    refine j_iload_n C dX9_sum_116 rfl 2 rfl ?_
    refine j_iload C dX9_sum_117 5 rfl ?_
    refine j_iadd C dX9_sum_119 ?_
    obtain ⟨hi3, hw⟩ := hw
    refine j_iald C ho_g1 hi3 dX9_sum_120 ?_
    refine j_goto (tgt := 125) C dX9_sum_121 (by decide) ?_
    exact J.sub (X9_sum_j125_ok C K ho_v0 hr_g1 ho_g1 hk70 v3 v4 v6 (D2.1 g1 (v2 + v6).toNatClampNeg) (s1 + s0) D2 hw) [0, 1, 2, 3, 4, 5] rfl
def X9_sum_l70_b (G : Shp) (post : Int32 → Dat → Prop) (v0 : Nat) (v1 : Int32) (v2 : Int32) (g1 : Nat) (rec : Int32 → Int32 → Int32 → Int32 → Dat → Prop) (v3 : Int32) (v4 : Int32) (v5 : Int32) (v6 : Int32) (D : Dat) : Prop := ((v3 < v6 → X9_sign_wp G D v0 v1 (fun r1 D2 => ((0 ≤ r1 → X9_sum_j173 G post v0 v1 v2 g1 0 v3 v4 v0 D2) ∧ (¬ (0 ≤ r1) → X9_sum_j173 G post v0 v1 v2 g1 1 v3 v4 v0 D2)))) ∧ (¬ (v3 < v6) → X9_size_wp G D v0 v1 (fun r3 D4 => ((r3 < v6 → X9_sum_j101 G post v0 v1 v2 g1 rec v3 v4 v6 0 v5 D4) ∧ (¬ (r3 < v6) → (vp_in (v1 + v6) (G.2.2.1 g1) ∧ X9_sum_j101 G post v0 v1 v2 g1 rec v3 v4 v6 (D4.1 g1 (v1 + v6).toNatClampNeg) v5 D4))))))
def X9_sum_l70 (G : Shp) (post : Int32 → Dat → Prop) (v0 : Nat) (v1 : Int32) (v2 : Int32) (g1 : Nat) : Nat → Int32 → Int32 → Int32 → Int32 → Dat → Prop
  | 0 => fun _ _ _ _ _ => False
  | n + 1 => X9_sum_l70_b G post v0 v1 v2 g1 (X9_sum_l70 G post v0 v1 v2 g1 n)
set_option maxRecDepth 100000 in
set_option maxHeartbeats 4000000 in
theorem X9_sum_l70_ok {κ : Ctx} {G : Shp} {post : Int32 → Dat → Prop} {v0 : Nat} {v1 : Int32} {v2 : Int32} {g1 : Nat} (C : Cx κ cX9_sum RX9 (rmN 2) 11) (K : RtI κ cX9_sum .int G post) (ho_v0 : isO G v0 9) (hr_g1 : G.2.2.2 v0 1 = some g1) (ho_g1 : isO G g1 11) : ∀ (n : Nat) (v3 : Int32) (v4 : Int32) (v5 : Int32) (v6 : Int32) (D : Dat), X9_sum_l70 G post v0 v1 v2 g1 n v3 v4 v5 v6 D → J κ 0 0 G D 70 [(0, .ref v0), (1, .int v1), (2, .int v2), (3, .int v3), (4, .int v4), (5, .int v5), (6, .int v6)] [] := by
  intro n
  induction n with
  | zero => intro v3 v4 v5 v6 D hw; exact hw.elim
  | succ n ih =>
    intro v3 v4 v5 v6 D hw
    have hw : X9_sum_l70_b G post v0 v1 v2 g1 (X9_sum_l70 G post v0 v1 v2 g1 n) v3 v4 v5 v6 D := hw
    unfold X9_sum_l70_b at hw
    refine j_iload C dX9_sum_70 6 rfl ?_
    refine j_iload_n C dX9_sum_72 rfl 3 rfl ?_
    refine j_icmp_gt (tgt := 156) C dX9_sum_73 (by decide) (fun hc => ?_) (fun hc => ?_)
    · have hw := hw.1 hc
      refine j_aload_n C dX9_sum_156 rfl 0 rfl ?_
      refine j_iload C dX9_sum_157 4 rfl ?_
      refine j_iload_n C dX9_sum_159 rfl 3 rfl ?_
      refine j_aload_n C dX9_sum_160 rfl 0 rfl ?_
      refine j_iload_n C dX9_sum_161 rfl 1 rfl ?_
      refine j_cVI (As := [.int v1]) (st := [.int v3, .int v4, .ref v0]) C (X9_sign_ok κ.2.1 G D v0 v1 _ hw) ho_v0 rfl k_990 mv_X9_sign ⟨by decide, by decide⟩ ⟨rfl, rfl⟩ rfl rfl (Nat.le_of_ble_eq_true rfl) ⟨Nat.zero_le _, Nat.zero_le _⟩ dX9_sum_162 (fun r1 D2 hw => ?_)
      refine j_if_ge (tgt := 172) C dX9_sum_165 (by decide) (fun hc => ?_) (fun hc => ?_)
      · have hw := hw.1 hc
        refine j_iconst (v := 0) C dX9_sum_172 (by decide) ?_
        exact J.sub (X9_sum_j173_ok C K ho_v0 hr_g1 ho_g1 0 v3 v4 v0 D2 hw) [] rfl
      · have hw := hw.2 hc
        refine j_iconst (v := 1) C dX9_sum_168 (by decide) ?_
        refine j_goto (tgt := 173) C dX9_sum_169 (by decide) ?_
        exact J.sub (X9_sum_j173_ok C K ho_v0 hr_g1 ho_g1 1 v3 v4 v0 D2 hw) [] rfl
    · have hw := hw.2 hc
      refine j_iload C dX9_sum_76 5 rfl ?_
      refine j_iload C dX9_sum_78 6 rfl ?_
      refine j_aload_n C dX9_sum_80 rfl 0 rfl ?_
      refine j_iload_n C dX9_sum_81 rfl 1 rfl ?_
      refine j_cVI (As := [.int v1]) (st := [.int v6, .int v5]) C (X9_size_ok κ.2.1 G D v0 v1 _ hw) ho_v0 rfl k_998 mv_X9_size ⟨by decide, by decide⟩ ⟨rfl, rfl⟩ rfl rfl (Nat.le_of_ble_eq_true rfl) ⟨Nat.zero_le _, Nat.zero_le _⟩ dX9_sum_82 (fun r3 D4 hw => ?_)
      refine j_icmp_gt (tgt := 100) C dX9_sum_85 (by decide) (fun hc => ?_) (fun hc => ?_)
      · have hw := hw.1 hc
        refine j_iconst (v := 0) C dX9_sum_100 (by decide) ?_
        exact J.sub (X9_sum_j101_ok C K ho_v0 hr_g1 ho_g1 ih v3 v4 v6 0 v5 D4 hw) [0, 1, 2, 3, 4, 6] rfl
      · have hw := hw.2 hc
        refine j_aload_n C dX9_sum_88 rfl 0 rfl ?_
        refine gf_9_1 C ho_v0 hr_g1 k_765 dX9_sum_89 ?_
        refine j_iload_n C dX9_sum_92 rfl 1 rfl ?_
        refine j_iload C dX9_sum_93 6 rfl ?_
        refine j_iadd C dX9_sum_95 ?_
        obtain ⟨hi5, hw⟩ := hw
        refine j_iald C ho_g1 hi5 dX9_sum_96 ?_
        refine j_goto (tgt := 101) C dX9_sum_97 (by decide) ?_
        exact J.sub (X9_sum_j101_ok C K ho_v0 hr_g1 ho_g1 ih v3 v4 v6 (D4.1 g1 (v1 + v6).toNatClampNeg) v5 D4 hw) [0, 1, 2, 3, 4, 6] rfl
def X9_sum_wp (G : Shp) (D : Dat) (v0 : Nat) (v1 : Int32) (v2 : Int32) (post : Int32 → Dat → Prop) : Prop := isO G v0 9 ∧ ∃ g1, G.2.2.2 v0 1 = some g1 ∧ isO G g1 11 ∧ X9_sign_wp G D v0 v1 (fun r1 D2 => ((¬ r1 = 0 → X9_sign_wp G D2 v0 v2 (fun r3 D4 => ((¬ r3 = 0 → X9_sign_wp G D4 v0 v1 (fun r5 D6 => X9_sign_wp G D6 v0 v2 (fun r7 D8 => ((¬ r5 = r7 → X9_compareSizes_wp G D8 v0 v1 v2 (fun r9 D10 => ((¬ r9 = 0 → ((r9 ≤ 0 → X9_sum_j203 G post v0 v1 v2 g1 r9 v2 D10) ∧ (¬ (r9 ≤ 0) → X9_sum_j203 G post v0 v1 v2 g1 r9 v1 D10))) ∧ (r9 = 0 → X9_whole_wp G D10 v0 0 (fun r11 D12 => post r11 D12))))) ∧ (r5 = r7 → X9_size_wp G D8 v0 v1 (fun r13 D14 => X9_size_wp G D14 v0 v2 (fun r15 D16 => X9_room_wp G D16 v0 ((mxI r13 r15) + 1) (fun r17 D18 => ∃ n, X9_sum_l70 G post v0 v1 v2 g1 n ((mxI r13 r15) + 1) r17 0 1 D18)))))))) ∧ (r3 = 0 → X9_copy_wp G D4 v0 v1 (fun r19 D20 => post r19 D20))))) ∧ (r1 = 0 → X9_copy_wp G D2 v0 v2 (fun r21 D22 => post r21 D22))))
set_option maxRecDepth 100000 in
set_option maxHeartbeats 4000000 in
theorem X9_sum_ok (l : Launch) (G : Shp) (D : Dat) (v0 : Nat) (v1 : Int32) (v2 : Int32) (post : Int32 → Dat → Prop) (hw : X9_sum_wp G D v0 v1 v2 post) : CtI l yX9_sum cX9_sum 11 .int (rmN 2) [.ref v0, .int v1, .int v2] G D post := by
  obtain ⟨ho_v0, g1, hr_g1, ho_g1, hw⟩ := hw
  refine ctI_of (by decide) rfl (Nat.le_of_ble_eq_true rfl) ?_
  intro κ hκ C K
  subst hκ
  have C : Cx κ cX9_sum RX9 (rmN 2) 11 := C
  refine j_aload_n C dX9_sum_0 rfl 0 rfl ?_
  refine j_iload_n C dX9_sum_1 rfl 1 rfl ?_
  refine j_cVI (As := [.int v1]) (st := []) C (X9_sign_ok κ.2.1 G D v0 v1 _ hw) ho_v0 rfl k_990 mv_X9_sign ⟨by decide, by decide⟩ ⟨rfl, rfl⟩ rfl rfl (Nat.le_of_ble_eq_true rfl) ⟨Nat.zero_le _, Nat.zero_le _⟩ dX9_sum_2 (fun r1 D2 hw => ?_)
  refine j_if_ne (tgt := 14) C dX9_sum_5 (by decide) (fun hc => ?_) (fun hc => ?_)
  · have hw := hw.1 hc
    refine j_aload_n C dX9_sum_14 rfl 0 rfl ?_
    refine j_iload_n C dX9_sum_15 rfl 2 rfl ?_
    refine j_cVI (As := [.int v2]) (st := []) C (X9_sign_ok κ.2.1 G D2 v0 v2 _ hw) ho_v0 rfl k_990 mv_X9_sign ⟨by decide, by decide⟩ ⟨rfl, rfl⟩ rfl rfl (Nat.le_of_ble_eq_true rfl) ⟨Nat.zero_le _, Nat.zero_le _⟩ dX9_sum_16 (fun r3 D4 hw => ?_)
    refine j_if_ne (tgt := 28) C dX9_sum_19 (by decide) (fun hc => ?_) (fun hc => ?_)
    · have hw := hw.1 hc
      refine j_aload_n C dX9_sum_28 rfl 0 rfl ?_
      refine j_iload_n C dX9_sum_29 rfl 1 rfl ?_
      refine j_cVI (As := [.int v1]) (st := []) C (X9_sign_ok κ.2.1 G D4 v0 v1 _ hw) ho_v0 rfl k_990 mv_X9_sign ⟨by decide, by decide⟩ ⟨rfl, rfl⟩ rfl rfl (Nat.le_of_ble_eq_true rfl) ⟨Nat.zero_le _, Nat.zero_le _⟩ dX9_sum_30 (fun r5 D6 hw => ?_)
      refine j_aload_n C dX9_sum_33 rfl 0 rfl ?_
      refine j_iload_n C dX9_sum_34 rfl 2 rfl ?_
      refine j_cVI (As := [.int v2]) (st := [.int r5]) C (X9_sign_ok κ.2.1 G D6 v0 v2 _ hw) ho_v0 rfl k_990 mv_X9_sign ⟨by decide, by decide⟩ ⟨rfl, rfl⟩ rfl rfl (Nat.le_of_ble_eq_true rfl) ⟨Nat.zero_le _, Nat.zero_le _⟩ dX9_sum_35 (fun r7 D8 hw => ?_)
      refine j_icmp_ne (tgt := 177) C dX9_sum_38 (by decide) (fun hc => ?_) (fun hc => ?_)
      · have hw := hw.1 hc
        refine j_aload_n C dX9_sum_177 rfl 0 rfl ?_
        refine j_iload_n C dX9_sum_178 rfl 1 rfl ?_
        refine j_iload_n C dX9_sum_179 rfl 2 rfl ?_
        refine j_cVI (As := [.int v1, .int v2]) (st := []) C (X9_compareSizes_ok κ.2.1 G D8 v0 v1 v2 _ hw) ho_v0 rfl k_1020 mv_X9_compareSizes ⟨by decide, by decide⟩ ⟨rfl, rfl⟩ rfl rfl (Nat.le_of_ble_eq_true rfl) ⟨Nat.zero_le _, Nat.zero_le _⟩ dX9_sum_180 (fun r9 D10 hw => ?_)
        refine j_istore_n C dX9_sum_183 rfl (by decide) rfl ?_
        refine j_iload_n C dX9_sum_184 rfl 0 rfl ?_
        refine j_if_ne (tgt := 194) C dX9_sum_185 (by decide) (fun hc => ?_) (fun hc => ?_)
        · have hw := hw.1 hc
          refine j_iload_n C dX9_sum_194 rfl 0 rfl ?_
          refine j_if_le (tgt := 202) C dX9_sum_195 (by decide) (fun hc => ?_) (fun hc => ?_)
          · have hw := hw.1 hc
            refine j_iload_n C dX9_sum_202 rfl 3 rfl ?_
            exact J.sub (X9_sum_j203_ok C K ho_v0 hr_g1 ho_g1 r9 v2 D10 hw) [1, 2, 3, 0] rfl
          · have hw := hw.2 hc
            refine j_iload_n C dX9_sum_198 rfl 2 rfl ?_
            refine j_goto (tgt := 203) C dX9_sum_199 (by decide) ?_
            exact J.sub (X9_sum_j203_ok C K ho_v0 hr_g1 ho_g1 r9 v1 D10 hw) [1, 2, 3, 0] rfl
        · have hw := hw.2 hc
          refine j_aload_n C dX9_sum_188 rfl 1 rfl ?_
          refine j_lconst (v := 0) C dX9_sum_189 (by decide) ?_
          refine j_cVI (As := [.long 0]) (st := []) C (X9_whole_ok κ.2.1 G D10 v0 0 _ hw) ho_v0 rfl k_977 mv_X9_whole ⟨by decide, by decide⟩ ⟨rfl, rfl⟩ rfl rfl (Nat.le_of_ble_eq_true rfl) ⟨Nat.zero_le _, Nat.zero_le _⟩ dX9_sum_190 (fun r11 D12 hw => ?_)
          exact K _ _ _ _ dX9_sum_193 rfl hw
      · have hw := hw.2 hc
        refine j_aload_n C dX9_sum_41 rfl 0 rfl ?_
        refine j_iload_n C dX9_sum_42 rfl 1 rfl ?_
        refine j_cVI (As := [.int v1]) (st := []) C (X9_size_ok κ.2.1 G D8 v0 v1 _ hw) ho_v0 rfl k_998 mv_X9_size ⟨by decide, by decide⟩ ⟨rfl, rfl⟩ rfl rfl (Nat.le_of_ble_eq_true rfl) ⟨Nat.zero_le _, Nat.zero_le _⟩ dX9_sum_43 (fun r13 D14 hw => ?_)
        refine j_aload_n C dX9_sum_46 rfl 0 rfl ?_
        refine j_iload_n C dX9_sum_47 rfl 2 rfl ?_
        refine j_cVI (As := [.int v2]) (st := [.int r13]) C (X9_size_ok κ.2.1 G D14 v0 v2 _ hw) ho_v0 rfl k_998 mv_X9_size ⟨by decide, by decide⟩ ⟨rfl, rfl⟩ rfl rfl (Nat.le_of_ble_eq_true rfl) ⟨Nat.zero_le _, Nat.zero_le _⟩ dX9_sum_48 (fun r15 D16 hw => ?_)
        refine j_mxI C k_1018 ⟨by decide, Nat.le_of_ble_eq_true rfl⟩ ⟨Nat.zero_le _, Nat.zero_le _⟩ dX9_sum_51 ?_
        refine j_iconst (v := 1) C dX9_sum_54 (by decide) ?_
        refine j_iadd C dX9_sum_55 ?_
        refine j_istore_n C dX9_sum_56 rfl (by decide) rfl ?_
        refine j_aload_n C dX9_sum_57 rfl 1 rfl ?_
        refine j_iload_n C dX9_sum_58 rfl 0 rfl ?_
        refine j_cVI (As := [.int ((mxI r13 r15) + 1)]) (st := []) C (X9_room_ok κ.2.1 G D16 v0 ((mxI r13 r15) + 1) _ hw) ho_v0 rfl k_981 mv_X9_room ⟨by decide, by decide⟩ ⟨rfl, rfl⟩ rfl rfl (Nat.le_of_ble_eq_true rfl) ⟨Nat.zero_le _, Nat.zero_le _⟩ dX9_sum_59 (fun r17 D18 hw => ?_)
        refine j_istore C dX9_sum_62 (by decide) rfl ?_
        refine j_iconst (v := 0) C dX9_sum_64 (by decide) ?_
        refine j_istore C dX9_sum_65 (by decide) rfl ?_
        refine j_iconst (v := 1) C dX9_sum_67 (by decide) ?_
        refine j_istore C dX9_sum_68 (by decide) rfl ?_
        obtain ⟨n, hw⟩ := hw
        exact J.sub (X9_sum_l70_ok C K ho_v0 hr_g1 ho_g1 n ((mxI r13 r15) + 1) r17 0 1 D18 hw) [4, 5, 6, 3, 2, 1, 0] rfl
    · have hw := hw.2 hc
      refine j_aload_n C dX9_sum_22 rfl 0 rfl ?_
      refine j_iload_n C dX9_sum_23 rfl 1 rfl ?_
      refine j_cVI (As := [.int v1]) (st := []) C (X9_copy_ok κ.2.1 G D4 v0 v1 _ hw) ho_v0 rfl k_1010 mv_X9_copy ⟨by decide, by decide⟩ ⟨rfl, rfl⟩ rfl rfl (Nat.le_of_ble_eq_true rfl) ⟨Nat.zero_le _, Nat.zero_le _⟩ dX9_sum_24 (fun r19 D20 hw => ?_)
      exact K _ _ _ _ dX9_sum_27 rfl hw
  · have hw := hw.2 hc
    refine j_aload_n C dX9_sum_8 rfl 0 rfl ?_
    refine j_iload_n C dX9_sum_9 rfl 2 rfl ?_
    refine j_cVI (As := [.int v2]) (st := []) C (X9_copy_ok κ.2.1 G D2 v0 v2 _ hw) ho_v0 rfl k_1010 mv_X9_copy ⟨by decide, by decide⟩ ⟨rfl, rfl⟩ rfl rfl (Nat.le_of_ble_eq_true rfl) ⟨Nat.zero_le _, Nat.zero_le _⟩ dX9_sum_10 (fun r21 D22 hw => ?_)
    exact K _ _ _ _ dX9_sum_13 rfl hw
/-! X9_times -/
def X9_times_j225 (G : Shp) (post : Int32 → Dat → Prop) (v0 : Nat) (v1 : Int32) (v2 : Int32) (g1 : Nat) (s0 : Int32) (s1 : Int32) (s2 : Int32) (s3 : Nat) (D : Dat) : Prop := (isO G s3 9 ∧ X9_done_wp G D s3 s2 s1 s0 (fun r2 D3 => post r2 D3))
set_option maxRecDepth 100000 in
set_option maxHeartbeats 4000000 in
theorem X9_times_j225_ok {κ : Ctx} {G : Shp} {post : Int32 → Dat → Prop} {v0 : Nat} {v1 : Int32} {v2 : Int32} {g1 : Nat} (C : Cx κ cX9_times RX9 (rmN 2) 12) (K : RtI κ cX9_times .int G post) (ho_v0 : isO G v0 9) (hr_g1 : G.2.2.2 v0 1 = some g1) (ho_g1 : isO G g1 11) (s0 : Int32) (s1 : Int32) (s2 : Int32) (s3 : Nat) (D : Dat) (hw : X9_times_j225 G post v0 v1 v2 g1 s0 s1 s2 s3 D) : J κ 0 0 G D 225 [] [.int s0, .int s1, .int s2, .ref s3] := by
  unfold X9_times_j225 at hw
  obtain ⟨ho1, hw⟩ := hw
  refine j_cVI (As := [.int s2, .int s1, .int s0]) (st := []) C (X9_done_ok κ.2.1 G D s3 s2 s1 s0 _ hw) ho1 rfl k_986 mv_X9_done ⟨by decide, by decide⟩ ⟨rfl, rfl⟩ rfl rfl (Nat.le_of_ble_eq_true rfl) ⟨Nat.zero_le _, Nat.zero_le _⟩ dX9_times_225 (fun r2 D3 hw => ?_)
  exact K _ _ _ _ dX9_times_228 rfl hw
def X9_times_l101_b (G : Shp) (post : Int32 → Dat → Prop) (v0 : Nat) (v1 : Int32) (v2 : Int32) (g1 : Nat) (k77 : Int32 → Int32 → Int32 → Int32 → Dat → Prop) (rec : Int32 → Int32 → Int32 → Int32 → Int64 → Int64 → Int32 → Dat → Prop) (v3 : Int32) (v4 : Int32) (v5 : Int32) (v6 : Int32) (v7 : Int64) (v9 : Int64) (v11 : Int32) (D : Dat) : Prop := ((v4 < v11 → (vp_in ((v5 + v6) + v4) (G.2.2.1 g1) ∧ k77 v3 v4 v5 (v6 + 1) (dI D g1 ((v5 + v6) + v4).toNatClampNeg v7.toInt32))) ∧ (¬ (v4 < v11) → (vp_in (v2 + v11) (G.2.2.1 g1) ∧ vp_in (((v5 + v6) + v11) - 1) (G.2.2.1 g1) ∧ vp_in (((v5 + v6) + v11) - 1) (G.2.2.1 g1) ∧ rec v3 v4 v5 v6 (((v7 + ((v9 * ((D.1 g1 (v2 + v11).toNatClampNeg).toInt64)) + ((D.1 g1 (((v5 + v6) + v11) - 1).toNatClampNeg).toInt64))).toUInt64 >>> ((30 : Int32).toInt64.toUInt64 &&& Int64.toUInt64 63)).toInt64) v9 (v11 + 1) (dI D g1 (((v5 + v6) + v11) - 1).toNatClampNeg (((v7 + ((v9 * ((D.1 g1 (v2 + v11).toNatClampNeg).toInt64)) + ((D.1 g1 (((v5 + v6) + v11) - 1).toNatClampNeg).toInt64))) &&& 1073741823).toInt32)))))
def X9_times_l101 (G : Shp) (post : Int32 → Dat → Prop) (v0 : Nat) (v1 : Int32) (v2 : Int32) (g1 : Nat) (k77 : Int32 → Int32 → Int32 → Int32 → Dat → Prop) : Nat → Int32 → Int32 → Int32 → Int32 → Int64 → Int64 → Int32 → Dat → Prop
  | 0 => fun _ _ _ _ _ _ _ _ => False
  | n + 1 => X9_times_l101_b G post v0 v1 v2 g1 k77 (X9_times_l101 G post v0 v1 v2 g1 k77 n)
set_option maxRecDepth 100000 in
set_option maxHeartbeats 4000000 in
theorem X9_times_l101_ok {κ : Ctx} {G : Shp} {post : Int32 → Dat → Prop} {v0 : Nat} {v1 : Int32} {v2 : Int32} {g1 : Nat} (C : Cx κ cX9_times RX9 (rmN 2) 12) (K : RtI κ cX9_times .int G post) (ho_v0 : isO G v0 9) (hr_g1 : G.2.2.2 v0 1 = some g1) (ho_g1 : isO G g1 11) {k77 : Int32 → Int32 → Int32 → Int32 → Dat → Prop} (hk77 : ∀ (v3 : Int32) (v4 : Int32) (v5 : Int32) (v6 : Int32) (D : Dat), k77 v3 v4 v5 v6 D → J κ 0 0 G D 77 [(0, .ref v0), (1, .int v1), (2, .int v2), (3, .int v3), (4, .int v4), (5, .int v5), (6, .int v6)] []) : ∀ (n : Nat) (v3 : Int32) (v4 : Int32) (v5 : Int32) (v6 : Int32) (v7 : Int64) (v9 : Int64) (v11 : Int32) (D : Dat), X9_times_l101 G post v0 v1 v2 g1 k77 n v3 v4 v5 v6 v7 v9 v11 D → J κ 0 0 G D 101 [(0, .ref v0), (1, .int v1), (2, .int v2), (3, .int v3), (4, .int v4), (5, .int v5), (6, .int v6), (7, .long v7), (9, .long v9), (11, .int v11)] [] := by
  intro n
  induction n with
  | zero => intro v3 v4 v5 v6 v7 v9 v11 D hw; exact hw.elim
  | succ n ih =>
    intro v3 v4 v5 v6 v7 v9 v11 D hw
    have hw : X9_times_l101_b G post v0 v1 v2 g1 k77 (X9_times_l101 G post v0 v1 v2 g1 k77 n) v3 v4 v5 v6 v7 v9 v11 D := hw
    unfold X9_times_l101_b at hw
    refine j_iload C dX9_times_101 9 rfl ?_
    refine j_iload C dX9_times_103 4 rfl ?_
    refine j_icmp_gt (tgt := 178) C dX9_times_105 (by decide) (fun hc => ?_) (fun hc => ?_)
    · have hw := hw.1 hc
      refine j_aload_n C dX9_times_178 rfl 0 rfl ?_
      refine gf_9_1 C ho_v0 hr_g1 k_765 dX9_times_179 ?_
      refine j_iload C dX9_times_182 5 rfl ?_
      refine j_iload C dX9_times_184 6 rfl ?_
      refine j_iadd C dX9_times_186 ?_
      refine j_iload C dX9_times_187 4 rfl ?_
      refine j_iadd C dX9_times_189 ?_
      refine j_lload C dX9_times_190 7 rfl ?_
      refine j_l2i C dX9_times_192 ?_
      obtain ⟨hi1, hw⟩ := hw
      refine j_iast C ho_g1 hi1 dX9_times_193 ?_
      refine j_iinc (v := v6 + 1) C dX9_times_194 6 rfl rfl (by decide) rfl ?_
      refine j_goto (tgt := 77) C dX9_times_197 (by decide) ?_
      exact J.sub (hk77 v3 v4 v5 (v6 + 1) (dI D g1 ((v5 + v6) + v4).toNatClampNeg v7.toInt32) hw) [1, 2, 3, 4, 5, 6, 0] rfl
    · have hw := hw.2 hc
      refine j_lload C dX9_times_108 7 rfl ?_
      refine j_lload C dX9_times_110 8 rfl ?_
      refine j_aload_n C dX9_times_112 rfl 0 rfl ?_
      refine gf_9_1 C ho_v0 hr_g1 k_765 dX9_times_113 ?_
      refine j_iload_n C dX9_times_116 rfl 2 rfl ?_
      refine j_iload C dX9_times_117 9 rfl ?_
      refine j_iadd C dX9_times_119 ?_
      obtain ⟨hi2, hw⟩ := hw
      refine j_iald C ho_g1 hi2 dX9_times_120 ?_
      refine j_i2l C dX9_times_121 ?_
      refine j_lmul C dX9_times_122 ?_
      refine j_aload_n C dX9_times_123 rfl 0 rfl ?_
      refine gf_9_1 C ho_v0 hr_g1 k_765 dX9_times_124 ?_
      refine j_iload C dX9_times_127 5 rfl ?_
      refine j_iload C dX9_times_129 6 rfl ?_
      refine j_iadd C dX9_times_131 ?_
      refine j_iload C dX9_times_132 9 rfl ?_
      refine j_iadd C dX9_times_134 ?_
      refine j_iconst (v := 1) C dX9_times_135 (by decide) ?_
      refine j_isub C dX9_times_136 ?_
      obtain ⟨hi3, hw⟩ := hw
      refine j_iald C ho_g1 hi3 dX9_times_137 ?_
      refine j_i2l C dX9_times_138 ?_
      refine j_ladd C dX9_times_139 ?_
      refine j_ladd C dX9_times_140 ?_
      refine j_lstore C dX9_times_141 (by decide) rfl ?_
      refine j_aload_n C dX9_times_143 rfl 1 rfl ?_
      refine gf_9_1 C ho_v0 hr_g1 k_765 dX9_times_144 ?_
      refine j_iload C dX9_times_147 6 rfl ?_
      refine j_iload C dX9_times_149 7 rfl ?_
      refine j_iadd C dX9_times_151 ?_
      refine j_iload C dX9_times_152 9 rfl ?_
      refine j_iadd C dX9_times_154 ?_
      refine j_iconst (v := 1) C dX9_times_155 (by decide) ?_
      refine j_isub C dX9_times_156 ?_
      refine j_lload C dX9_times_157 0 rfl ?_
      refine j_ldc2 (v := 1073741823) C k_985 dX9_times_159 ?_
      refine j_land C dX9_times_162 ?_
      refine j_l2i C dX9_times_163 ?_
      obtain ⟨hi4, hw⟩ := hw
      refine j_iast C ho_g1 hi4 dX9_times_164 ?_
      refine j_lload C dX9_times_165 0 rfl ?_
      refine j_bipush (v := 30) C dX9_times_167 (by decide) ?_
      refine j_lushr C dX9_times_169 ?_
      refine j_lstore C dX9_times_170 (by decide) rfl ?_
      refine j_iinc (v := v11 + 1) C dX9_times_172 9 rfl rfl (by decide) rfl ?_
      refine j_goto (tgt := 101) C dX9_times_175 (by decide) ?_
      exact J.sub (ih v3 v4 v5 v6 (((v7 + ((v9 * ((D.1 g1 (v2 + v11).toNatClampNeg).toInt64)) + ((D.1 g1 (((v5 + v6) + v11) - 1).toNatClampNeg).toInt64))).toUInt64 >>> ((30 : Int32).toInt64.toUInt64 &&& Int64.toUInt64 63)).toInt64) v9 (v11 + 1) (dI D g1 (((v5 + v6) + v11) - 1).toNatClampNeg (((v7 + ((v9 * ((D.1 g1 (v2 + v11).toNatClampNeg).toInt64)) + ((D.1 g1 (((v5 + v6) + v11) - 1).toNatClampNeg).toInt64))) &&& 1073741823).toInt32)) hw) [2, 3, 4, 5, 6, 7, 8, 1, 9, 0] rfl
def X9_times_l77_b (G : Shp) (post : Int32 → Dat → Prop) (v0 : Nat) (v1 : Int32) (v2 : Int32) (g1 : Nat) (rec : Int32 → Int32 → Int32 → Int32 → Dat → Prop) (v3 : Int32) (v4 : Int32) (v5 : Int32) (v6 : Int32) (D : Dat) : Prop := ((v3 < v6 → X9_sign_wp G D v0 v1 (fun r1 D2 => X9_sign_wp G D2 v0 v2 (fun r3 D4 => ((r1 = r3 → X9_times_j225 G post v0 v1 v2 g1 0 (v3 + v4) v5 v0 D4) ∧ (¬ (r1 = r3) → X9_times_j225 G post v0 v1 v2 g1 1 (v3 + v4) v5 v0 D4))))) ∧ (¬ (v3 < v6) → (vp_in (v1 + v6) (G.2.2.1 g1) ∧ ∃ n, X9_times_l101 G post v0 v1 v2 g1 rec n v3 v4 v5 v6 0 ((D.1 g1 (v1 + v6).toNatClampNeg).toInt64) 1 D)))
def X9_times_l77 (G : Shp) (post : Int32 → Dat → Prop) (v0 : Nat) (v1 : Int32) (v2 : Int32) (g1 : Nat) : Nat → Int32 → Int32 → Int32 → Int32 → Dat → Prop
  | 0 => fun _ _ _ _ _ => False
  | n + 1 => X9_times_l77_b G post v0 v1 v2 g1 (X9_times_l77 G post v0 v1 v2 g1 n)
set_option maxRecDepth 100000 in
set_option maxHeartbeats 4000000 in
theorem X9_times_l77_ok {κ : Ctx} {G : Shp} {post : Int32 → Dat → Prop} {v0 : Nat} {v1 : Int32} {v2 : Int32} {g1 : Nat} (C : Cx κ cX9_times RX9 (rmN 2) 12) (K : RtI κ cX9_times .int G post) (ho_v0 : isO G v0 9) (hr_g1 : G.2.2.2 v0 1 = some g1) (ho_g1 : isO G g1 11) : ∀ (n : Nat) (v3 : Int32) (v4 : Int32) (v5 : Int32) (v6 : Int32) (D : Dat), X9_times_l77 G post v0 v1 v2 g1 n v3 v4 v5 v6 D → J κ 0 0 G D 77 [(0, .ref v0), (1, .int v1), (2, .int v2), (3, .int v3), (4, .int v4), (5, .int v5), (6, .int v6)] [] := by
  intro n
  induction n with
  | zero => intro v3 v4 v5 v6 D hw; exact hw.elim
  | succ n ih =>
    intro v3 v4 v5 v6 D hw
    have hw : X9_times_l77_b G post v0 v1 v2 g1 (X9_times_l77 G post v0 v1 v2 g1 n) v3 v4 v5 v6 D := hw
    unfold X9_times_l77_b at hw
    refine j_iload C dX9_times_77 6 rfl ?_
    refine j_iload_n C dX9_times_79 rfl 3 rfl ?_
    refine j_icmp_gt (tgt := 200) C dX9_times_80 (by decide) (fun hc => ?_) (fun hc => ?_)
    · have hw := hw.1 hc
      refine j_aload_n C dX9_times_200 rfl 0 rfl ?_
      refine j_iload C dX9_times_201 5 rfl ?_
      refine j_iload_n C dX9_times_203 rfl 3 rfl ?_
      refine j_iload C dX9_times_204 4 rfl ?_
      refine j_iadd C dX9_times_206 ?_
      refine j_aload_n C dX9_times_207 rfl 0 rfl ?_
      refine j_iload_n C dX9_times_208 rfl 1 rfl ?_
      refine j_cVI (As := [.int v1]) (st := [.int (v3 + v4), .int v5, .ref v0]) C (X9_sign_ok κ.2.1 G D v0 v1 _ hw) ho_v0 rfl k_990 mv_X9_sign ⟨by decide, by decide⟩ ⟨rfl, rfl⟩ rfl rfl (Nat.le_of_ble_eq_true rfl) ⟨Nat.zero_le _, Nat.zero_le _⟩ dX9_times_209 (fun r1 D2 hw => ?_)
      refine j_aload_n C dX9_times_212 rfl 0 rfl ?_
      refine j_iload_n C dX9_times_213 rfl 2 rfl ?_
      refine j_cVI (As := [.int v2]) (st := [.int r1, .int (v3 + v4), .int v5, .ref v0]) C (X9_sign_ok κ.2.1 G D2 v0 v2 _ hw) ho_v0 rfl k_990 mv_X9_sign ⟨by decide, by decide⟩ ⟨rfl, rfl⟩ rfl rfl (Nat.le_of_ble_eq_true rfl) ⟨Nat.zero_le _, Nat.zero_le _⟩ dX9_times_214 (fun r3 D4 hw => ?_)
      refine j_icmp_eq (tgt := 224) C dX9_times_217 (by decide) (fun hc => ?_) (fun hc => ?_)
      · have hw := hw.1 hc
        refine j_iconst (v := 0) C dX9_times_224 (by decide) ?_
        exact J.sub (X9_times_j225_ok C K ho_v0 hr_g1 ho_g1 0 (v3 + v4) v5 v0 D4 hw) [] rfl
      · have hw := hw.2 hc
        refine j_iconst (v := 1) C dX9_times_220 (by decide) ?_
        refine j_goto (tgt := 225) C dX9_times_221 (by decide) ?_
        exact J.sub (X9_times_j225_ok C K ho_v0 hr_g1 ho_g1 1 (v3 + v4) v5 v0 D4 hw) [] rfl
    · have hw := hw.2 hc
      refine j_lconst (v := 0) C dX9_times_83 (by decide) ?_
      refine j_lstore C dX9_times_84 (by decide) rfl ?_
      refine j_aload_n C dX9_times_86 rfl 1 rfl ?_
      refine gf_9_1 C ho_v0 hr_g1 k_765 dX9_times_87 ?_
      refine j_iload_n C dX9_times_90 rfl 2 rfl ?_
      refine j_iload C dX9_times_91 7 rfl ?_
      refine j_iadd C dX9_times_93 ?_
      obtain ⟨hi5, hw⟩ := hw
      refine j_iald C ho_g1 hi5 dX9_times_94 ?_
      refine j_i2l C dX9_times_95 ?_
      refine j_lstore C dX9_times_96 (by decide) rfl ?_
      refine j_iconst (v := 1) C dX9_times_98 (by decide) ?_
      refine j_istore C dX9_times_99 (by decide) rfl ?_
      obtain ⟨n, hw⟩ := hw
      exact J.sub (X9_times_l101_ok C K ho_v0 hr_g1 ho_g1 ih n v3 v4 v5 v6 0 ((D.1 g1 (v1 + v6).toNatClampNeg).toInt64) 1 D hw) [3, 4, 5, 6, 7, 8, 9, 2, 1, 0] rfl
def X9_times_l48_b (G : Shp) (post : Int32 → Dat → Prop) (v0 : Nat) (v1 : Int32) (v2 : Int32) (g1 : Nat) (rec : Int32 → Int32 → Int32 → Int32 → Dat → Prop) (v3 : Int32) (v4 : Int32) (v5 : Int32) (v6 : Int32) (D : Dat) : Prop := (((v3 + v4) < v6 → ∃ n, X9_times_l77 G post v0 v1 v2 g1 n v3 v4 v5 1 D) ∧ (¬ ((v3 + v4) < v6) → (vp_in (v5 + v6) (G.2.2.1 g1) ∧ rec v3 v4 v5 (v6 + 1) (dI D g1 (v5 + v6).toNatClampNeg 0))))
def X9_times_l48 (G : Shp) (post : Int32 → Dat → Prop) (v0 : Nat) (v1 : Int32) (v2 : Int32) (g1 : Nat) : Nat → Int32 → Int32 → Int32 → Int32 → Dat → Prop
  | 0 => fun _ _ _ _ _ => False
  | n + 1 => X9_times_l48_b G post v0 v1 v2 g1 (X9_times_l48 G post v0 v1 v2 g1 n)
set_option maxRecDepth 100000 in
set_option maxHeartbeats 4000000 in
theorem X9_times_l48_ok {κ : Ctx} {G : Shp} {post : Int32 → Dat → Prop} {v0 : Nat} {v1 : Int32} {v2 : Int32} {g1 : Nat} (C : Cx κ cX9_times RX9 (rmN 2) 12) (K : RtI κ cX9_times .int G post) (ho_v0 : isO G v0 9) (hr_g1 : G.2.2.2 v0 1 = some g1) (ho_g1 : isO G g1 11) : ∀ (n : Nat) (v3 : Int32) (v4 : Int32) (v5 : Int32) (v6 : Int32) (D : Dat), X9_times_l48 G post v0 v1 v2 g1 n v3 v4 v5 v6 D → J κ 0 0 G D 48 [(0, .ref v0), (1, .int v1), (2, .int v2), (3, .int v3), (4, .int v4), (5, .int v5), (6, .int v6)] [] := by
  intro n
  induction n with
  | zero => intro v3 v4 v5 v6 D hw; exact hw.elim
  | succ n ih =>
    intro v3 v4 v5 v6 D hw
    have hw : X9_times_l48_b G post v0 v1 v2 g1 (X9_times_l48 G post v0 v1 v2 g1 n) v3 v4 v5 v6 D := hw
    unfold X9_times_l48_b at hw
    refine j_iload C dX9_times_48 6 rfl ?_
    refine j_iload_n C dX9_times_50 rfl 3 rfl ?_
    refine j_iload C dX9_times_51 4 rfl ?_
    refine j_iadd C dX9_times_53 ?_
    refine j_icmp_gt (tgt := 74) C dX9_times_54 (by decide) (fun hc => ?_) (fun hc => ?_)
    · have hw := hw.1 hc
      refine j_iconst (v := 1) C dX9_times_74 (by decide) ?_
      refine j_istore C dX9_times_75 (by decide) rfl ?_
      obtain ⟨n, hw⟩ := hw
      exact J.sub (X9_times_l77_ok C K ho_v0 hr_g1 ho_g1 n v3 v4 v5 1 D hw) [1, 2, 3, 4, 5, 6, 0] rfl
    · have hw := hw.2 hc
      refine j_aload_n C dX9_times_57 rfl 0 rfl ?_
      refine gf_9_1 C ho_v0 hr_g1 k_765 dX9_times_58 ?_
      refine j_iload C dX9_times_61 5 rfl ?_
      refine j_iload C dX9_times_63 6 rfl ?_
      refine j_iadd C dX9_times_65 ?_
      refine j_iconst (v := 0) C dX9_times_66 (by decide) ?_
      obtain ⟨hi1, hw⟩ := hw
      refine j_iast C ho_g1 hi1 dX9_times_67 ?_
      refine j_iinc (v := v6 + 1) C dX9_times_68 6 rfl rfl (by decide) rfl ?_
      refine j_goto (tgt := 48) C dX9_times_71 (by decide) ?_
      exact J.sub (ih v3 v4 v5 (v6 + 1) (dI D g1 (v5 + v6).toNatClampNeg 0) hw) [1, 2, 3, 4, 5, 6, 0] rfl
def X9_times_j16 (G : Shp) (post : Int32 → Dat → Prop) (v0 : Nat) (v1 : Int32) (v2 : Int32) (g1 : Nat) (D : Dat) : Prop := X9_whole_wp G D v0 0 (fun r1 D2 => post r1 D2)
set_option maxRecDepth 100000 in
set_option maxHeartbeats 4000000 in
theorem X9_times_j16_ok {κ : Ctx} {G : Shp} {post : Int32 → Dat → Prop} {v0 : Nat} {v1 : Int32} {v2 : Int32} {g1 : Nat} (C : Cx κ cX9_times RX9 (rmN 2) 12) (K : RtI κ cX9_times .int G post) (ho_v0 : isO G v0 9) (hr_g1 : G.2.2.2 v0 1 = some g1) (ho_g1 : isO G g1 11) (D : Dat) (hw : X9_times_j16 G post v0 v1 v2 g1 D) : J κ 0 0 G D 16 [(0, .ref v0)] [] := by
  unfold X9_times_j16 at hw
  refine j_aload_n C dX9_times_16 rfl 0 rfl ?_
  refine j_lconst (v := 0) C dX9_times_17 (by decide) ?_
  refine j_cVI (As := [.long 0]) (st := []) C (X9_whole_ok κ.2.1 G D v0 0 _ hw) ho_v0 rfl k_977 mv_X9_whole ⟨by decide, by decide⟩ ⟨rfl, rfl⟩ rfl rfl (Nat.le_of_ble_eq_true rfl) ⟨Nat.zero_le _, Nat.zero_le _⟩ dX9_times_18 (fun r1 D2 hw => ?_)
  exact K _ _ _ _ dX9_times_21 rfl hw
def X9_times_wp (G : Shp) (D : Dat) (v0 : Nat) (v1 : Int32) (v2 : Int32) (post : Int32 → Dat → Prop) : Prop := isO G v0 9 ∧ ∃ g1, G.2.2.2 v0 1 = some g1 ∧ isO G g1 11 ∧ X9_sign_wp G D v0 v1 (fun r1 D2 => ((r1 = 0 → X9_times_j16 G post v0 v1 v2 g1 D2) ∧ (¬ (r1 = 0) → X9_sign_wp G D2 v0 v2 (fun r3 D4 => ((¬ r3 = 0 → X9_size_wp G D4 v0 v1 (fun r5 D6 => X9_size_wp G D6 v0 v2 (fun r7 D8 => X9_room_wp G D8 v0 (r5 + r7) (fun r9 D10 => ∃ n, X9_times_l48 G post v0 v1 v2 g1 n r5 r7 r9 1 D10)))) ∧ (r3 = 0 → X9_times_j16 G post v0 v1 v2 g1 D4))))))
set_option maxRecDepth 100000 in
set_option maxHeartbeats 4000000 in
theorem X9_times_ok (l : Launch) (G : Shp) (D : Dat) (v0 : Nat) (v1 : Int32) (v2 : Int32) (post : Int32 → Dat → Prop) (hw : X9_times_wp G D v0 v1 v2 post) : CtI l yX9_times cX9_times 12 .int (rmN 2) [.ref v0, .int v1, .int v2] G D post := by
  obtain ⟨ho_v0, g1, hr_g1, ho_g1, hw⟩ := hw
  refine ctI_of (by decide) rfl (Nat.le_of_ble_eq_true rfl) ?_
  intro κ hκ C K
  subst hκ
  have C : Cx κ cX9_times RX9 (rmN 2) 12 := C
  refine j_aload_n C dX9_times_0 rfl 0 rfl ?_
  refine j_iload_n C dX9_times_1 rfl 1 rfl ?_
  refine j_cVI (As := [.int v1]) (st := []) C (X9_sign_ok κ.2.1 G D v0 v1 _ hw) ho_v0 rfl k_990 mv_X9_sign ⟨by decide, by decide⟩ ⟨rfl, rfl⟩ rfl rfl (Nat.le_of_ble_eq_true rfl) ⟨Nat.zero_le _, Nat.zero_le _⟩ dX9_times_2 (fun r1 D2 hw => ?_)
  refine j_if_eq (tgt := 16) C dX9_times_5 (by decide) (fun hc => ?_) (fun hc => ?_)
  · have hw := hw.1 hc
    exact J.sub (X9_times_j16_ok C K ho_v0 hr_g1 ho_g1 D2 hw) [0] rfl
  · have hw := hw.2 hc
    refine j_aload_n C dX9_times_8 rfl 0 rfl ?_
    refine j_iload_n C dX9_times_9 rfl 2 rfl ?_
    refine j_cVI (As := [.int v2]) (st := []) C (X9_sign_ok κ.2.1 G D2 v0 v2 _ hw) ho_v0 rfl k_990 mv_X9_sign ⟨by decide, by decide⟩ ⟨rfl, rfl⟩ rfl rfl (Nat.le_of_ble_eq_true rfl) ⟨Nat.zero_le _, Nat.zero_le _⟩ dX9_times_10 (fun r3 D4 hw => ?_)
    refine j_if_ne (tgt := 22) C dX9_times_13 (by decide) (fun hc => ?_) (fun hc => ?_)
    · have hw := hw.1 hc
      refine j_aload_n C dX9_times_22 rfl 0 rfl ?_
      refine j_iload_n C dX9_times_23 rfl 1 rfl ?_
      refine j_cVI (As := [.int v1]) (st := []) C (X9_size_ok κ.2.1 G D4 v0 v1 _ hw) ho_v0 rfl k_998 mv_X9_size ⟨by decide, by decide⟩ ⟨rfl, rfl⟩ rfl rfl (Nat.le_of_ble_eq_true rfl) ⟨Nat.zero_le _, Nat.zero_le _⟩ dX9_times_24 (fun r5 D6 hw => ?_)
      refine j_istore_n C dX9_times_27 rfl (by decide) rfl ?_
      refine j_aload_n C dX9_times_28 rfl 1 rfl ?_
      refine j_iload_n C dX9_times_29 rfl 3 rfl ?_
      refine j_cVI (As := [.int v2]) (st := []) C (X9_size_ok κ.2.1 G D6 v0 v2 _ hw) ho_v0 rfl k_998 mv_X9_size ⟨by decide, by decide⟩ ⟨rfl, rfl⟩ rfl rfl (Nat.le_of_ble_eq_true rfl) ⟨Nat.zero_le _, Nat.zero_le _⟩ dX9_times_30 (fun r7 D8 hw => ?_)
      refine j_istore C dX9_times_33 (by decide) rfl ?_
      refine j_aload_n C dX9_times_35 rfl 2 rfl ?_
      refine j_iload_n C dX9_times_36 rfl 1 rfl ?_
      refine j_iload C dX9_times_37 0 rfl ?_
      refine j_iadd C dX9_times_39 ?_
      refine j_cVI (As := [.int (r5 + r7)]) (st := []) C (X9_room_ok κ.2.1 G D8 v0 (r5 + r7) _ hw) ho_v0 rfl k_981 mv_X9_room ⟨by decide, by decide⟩ ⟨rfl, rfl⟩ rfl rfl (Nat.le_of_ble_eq_true rfl) ⟨Nat.zero_le _, Nat.zero_le _⟩ dX9_times_40 (fun r9 D10 hw => ?_)
      refine j_istore C dX9_times_43 (by decide) rfl ?_
      refine j_iconst (v := 1) C dX9_times_45 (by decide) ?_
      refine j_istore C dX9_times_46 (by decide) rfl ?_
      obtain ⟨n, hw⟩ := hw
      exact J.sub (X9_times_l48_ok C K ho_v0 hr_g1 ho_g1 n r5 r7 r9 1 D10 hw) [4, 5, 6, 3, 2, 1, 0] rfl
    · have hw := hw.2 hc
      exact J.sub (X9_times_j16_ok C K ho_v0 hr_g1 ho_g1 D4 hw) [0] rfl
/-! X9_told -/
def X9_told_j183 (G : Shp) (post : Int32 → Dat → Prop) (v0 : Nat) (v1 : Int32) (v2 : Int32) (g1 : Nat) (g2 : Nat) (g3 : Nat) (g4 : Nat) (g5 : Nat) (g6 : Nat) (s0 : Int32) (D : Dat) : Prop := post s0 D
set_option maxRecDepth 100000 in
set_option maxHeartbeats 4000000 in
theorem X9_told_j183_ok {κ : Ctx} {G : Shp} {post : Int32 → Dat → Prop} {v0 : Nat} {v1 : Int32} {v2 : Int32} {g1 : Nat} {g2 : Nat} {g3 : Nat} {g4 : Nat} {g5 : Nat} {g6 : Nat} (C : Cx κ cX9_told RX9 (rmN 2) 5) (K : RtI κ cX9_told .int G post) (ho_v0 : isO G v0 9) (hr_g1 : G.2.2.2 v0 16 = some g1) (ho_g1 : isO G g1 13) (hr_g2 : G.2.2.2 v0 15 = some g2) (ho_g2 : isO G g2 13) (hr_g3 : G.2.2.2 v0 12 = some g3) (ho_g3 : isO G g3 11) (hr_g4 : G.2.2.2 v0 14 = some g4) (ho_g4 : isO G g4 11) (hr_g5 : G.2.2.2 v0 11 = some g5) (ho_g5 : isO G g5 11) (hr_g6 : G.2.2.2 v0 17 = some g6) (ho_g6 : isO G g6 13) (s0 : Int32) (D : Dat) (hw : X9_told_j183 G post v0 v1 v2 g1 g2 g3 g4 g5 g6 s0 D) : J κ 0 0 G D 183 [] [.int s0] := by
  unfold X9_told_j183 at hw
  exact K _ _ _ _ dX9_told_183 rfl hw
def X9_told_j118 (G : Shp) (post : Int32 → Dat → Prop) (v0 : Nat) (v1 : Int32) (v2 : Int32) (g1 : Nat) (g2 : Nat) (g3 : Nat) (g4 : Nat) (g5 : Nat) (g6 : Nat) (v3 : Int32) (D : Dat) : Prop := (((v2.toInt < 3 ∨ 6 < v2.toInt) → post v3 D) ∧ (v2.toInt = 3 → (vp_in v1 (G.2.2.1 g3) ∧ post (D.1 g3 v1.toNatClampNeg) D)) ∧ (v2.toInt = 4 → (vp_in v1 (G.2.2.1 g4) ∧ post (D.1 g4 v1.toNatClampNeg) D)) ∧ (v2.toInt = 5 → (vp_in v1 (G.2.2.1 g5) ∧ post (D.1 g5 v1.toNatClampNeg) D)) ∧ (v2.toInt = 6 → (vp_in v1 (G.2.2.1 g6) ∧ (((D.1 g6 v1.toNatClampNeg) = 0 → X9_told_j183 G post v0 v1 v2 g1 g2 g3 g4 g5 g6 0 D) ∧ (¬ ((D.1 g6 v1.toNatClampNeg) = 0) → X9_told_j183 G post v0 v1 v2 g1 g2 g3 g4 g5 g6 1 D)))))
set_option maxRecDepth 100000 in
set_option maxHeartbeats 4000000 in
theorem X9_told_j118_ok {κ : Ctx} {G : Shp} {post : Int32 → Dat → Prop} {v0 : Nat} {v1 : Int32} {v2 : Int32} {g1 : Nat} {g2 : Nat} {g3 : Nat} {g4 : Nat} {g5 : Nat} {g6 : Nat} (C : Cx κ cX9_told RX9 (rmN 2) 5) (K : RtI κ cX9_told .int G post) (ho_v0 : isO G v0 9) (hr_g1 : G.2.2.2 v0 16 = some g1) (ho_g1 : isO G g1 13) (hr_g2 : G.2.2.2 v0 15 = some g2) (ho_g2 : isO G g2 13) (hr_g3 : G.2.2.2 v0 12 = some g3) (ho_g3 : isO G g3 11) (hr_g4 : G.2.2.2 v0 14 = some g4) (ho_g4 : isO G g4 11) (hr_g5 : G.2.2.2 v0 11 = some g5) (ho_g5 : isO G g5 11) (hr_g6 : G.2.2.2 v0 17 = some g6) (ho_g6 : isO G g6 13) (v3 : Int32) (D : Dat) (hw : X9_told_j118 G post v0 v1 v2 g1 g2 g3 g4 g5 g6 v3 D) : J κ 0 0 G D 118 [(0, .ref v0), (1, .int v1), (2, .int v2), (3, .int v3)] [] := by
  unfold X9_told_j118 at hw
  refine j_iload_n C dX9_told_118 rfl 2 rfl ?_
  by_cases hsw : v2.toInt < 3 ∨ 6 < v2.toInt
  · have hw := hw.1 hsw
    refine j_tableOut (tgt := 184) C dX9_told_119 hsw (by decide) ?_
    refine j_iload_n C dX9_told_184 rfl 3 rfl ?_
    exact K _ _ _ _ dX9_told_185 rfl hw
  · have hcs : v2.toInt = 3 ∨ v2.toInt = 4 ∨ v2.toInt = 5 ∨ v2.toInt = 6 := by omega
    rcases hcs with hc | hc | hc | hc
    · have hw := hw.2.1 hc
      refine j_tableIn (off := 29) (tgt := 148) C dX9_told_119 (by omega) (by omega) (by rw [hc]; rfl) (by decide) ?_
      refine j_aload_n C dX9_told_148 rfl 0 rfl ?_
      refine gf_9_12 C ho_v0 hr_g3 k_776 dX9_told_149 ?_
      refine j_iload_n C dX9_told_152 rfl 1 rfl ?_
      obtain ⟨hi1, hw⟩ := hw
      refine j_iald C ho_g3 hi1 dX9_told_153 ?_
      exact K _ _ _ _ dX9_told_154 rfl hw
    · have hw := hw.2.2.1 hc
      refine j_tableIn (off := 36) (tgt := 155) C dX9_told_119 (by omega) (by omega) (by rw [hc]; rfl) (by decide) ?_
      refine j_aload_n C dX9_told_155 rfl 0 rfl ?_
      refine gf_9_14 C ho_v0 hr_g4 k_778 dX9_told_156 ?_
      refine j_iload_n C dX9_told_159 rfl 1 rfl ?_
      obtain ⟨hi2, hw⟩ := hw
      refine j_iald C ho_g4 hi2 dX9_told_160 ?_
      exact K _ _ _ _ dX9_told_161 rfl hw
    · have hw := hw.2.2.2.1 hc
      refine j_tableIn (off := 43) (tgt := 162) C dX9_told_119 (by omega) (by omega) (by rw [hc]; rfl) (by decide) ?_
      refine j_aload_n C dX9_told_162 rfl 0 rfl ?_
      refine gf_9_11 C ho_v0 hr_g5 k_775 dX9_told_163 ?_
      refine j_iload_n C dX9_told_166 rfl 1 rfl ?_
      obtain ⟨hi3, hw⟩ := hw
      refine j_iald C ho_g5 hi3 dX9_told_167 ?_
      exact K _ _ _ _ dX9_told_168 rfl hw
    · have hw := hw.2.2.2.2 hc
      refine j_tableIn (off := 50) (tgt := 169) C dX9_told_119 (by omega) (by omega) (by rw [hc]; rfl) (by decide) ?_
      refine j_aload_n C dX9_told_169 rfl 0 rfl ?_
      refine gf_9_17 C ho_v0 hr_g6 k_781 dX9_told_170 ?_
      refine j_iload_n C dX9_told_173 rfl 1 rfl ?_
      obtain ⟨hi4, hw⟩ := hw
      refine j_zald C ho_g6 hi4 dX9_told_174 ?_
      refine j_if_eq (tgt := 182) C dX9_told_175 (by decide) (fun hc => ?_) (fun hc => ?_)
      · have hw := hw.1 hc
        refine j_iconst (v := 0) C dX9_told_182 (by decide) ?_
        exact J.sub (X9_told_j183_ok C K ho_v0 hr_g1 ho_g1 hr_g2 ho_g2 hr_g3 ho_g3 hr_g4 ho_g4 hr_g5 ho_g5 hr_g6 ho_g6 0 D hw) [] rfl
      · have hw := hw.2 hc
        refine j_iconst (v := 1) C dX9_told_178 (by decide) ?_
        refine j_goto (tgt := 183) C dX9_told_179 (by decide) ?_
        exact J.sub (X9_told_j183_ok C K ho_v0 hr_g1 ho_g1 hr_g2 ho_g2 hr_g3 ho_g3 hr_g4 ho_g4 hr_g5 ho_g5 hr_g6 ho_g6 1 D hw) [] rfl
def X9_told_j110 (G : Shp) (post : Int32 → Dat → Prop) (v0 : Nat) (v1 : Int32) (v2 : Int32) (g1 : Nat) (g2 : Nat) (g3 : Nat) (g4 : Nat) (g5 : Nat) (g6 : Nat) (k39 : Int32 → Int32 → Dat → Prop) (v4 : Int32) (s0 : Int32) (s1 : Int32) (D : Dat) : Prop := k39 (s1 + s0) (v4 + 1) D
set_option maxRecDepth 100000 in
set_option maxHeartbeats 4000000 in
theorem X9_told_j110_ok {κ : Ctx} {G : Shp} {post : Int32 → Dat → Prop} {v0 : Nat} {v1 : Int32} {v2 : Int32} {g1 : Nat} {g2 : Nat} {g3 : Nat} {g4 : Nat} {g5 : Nat} {g6 : Nat} (C : Cx κ cX9_told RX9 (rmN 2) 5) (K : RtI κ cX9_told .int G post) (ho_v0 : isO G v0 9) (hr_g1 : G.2.2.2 v0 16 = some g1) (ho_g1 : isO G g1 13) (hr_g2 : G.2.2.2 v0 15 = some g2) (ho_g2 : isO G g2 13) (hr_g3 : G.2.2.2 v0 12 = some g3) (ho_g3 : isO G g3 11) (hr_g4 : G.2.2.2 v0 14 = some g4) (ho_g4 : isO G g4 11) (hr_g5 : G.2.2.2 v0 11 = some g5) (ho_g5 : isO G g5 11) (hr_g6 : G.2.2.2 v0 17 = some g6) (ho_g6 : isO G g6 13) {k39 : Int32 → Int32 → Dat → Prop} (hk39 : ∀ (v3 : Int32) (v4 : Int32) (D : Dat), k39 v3 v4 D → J κ 0 0 G D 39 [(0, .ref v0), (1, .int v1), (2, .int v2), (3, .int v3), (4, .int v4)] []) (v4 : Int32) (s0 : Int32) (s1 : Int32) (D : Dat) (hw : X9_told_j110 G post v0 v1 v2 g1 g2 g3 g4 g5 g6 k39 v4 s0 s1 D) : J κ 0 0 G D 110 [(0, .ref v0), (1, .int v1), (2, .int v2), (4, .int v4)] [.int s0, .int s1] := by
  unfold X9_told_j110 at hw
  refine j_iadd C dX9_told_110 ?_
  refine j_istore_n C dX9_told_111 rfl (by decide) rfl ?_
  refine j_iinc (v := v4 + 1) C dX9_told_112 4 rfl rfl (by decide) rfl ?_
  refine j_goto (tgt := 39) C dX9_told_115 (by decide) ?_
  exact J.sub (hk39 (s1 + s0) (v4 + 1) D hw) [2, 3, 4, 1, 0] rfl
def X9_told_j109 (G : Shp) (post : Int32 → Dat → Prop) (v0 : Nat) (v1 : Int32) (v2 : Int32) (g1 : Nat) (g2 : Nat) (g3 : Nat) (g4 : Nat) (g5 : Nat) (g6 : Nat) (k39 : Int32 → Int32 → Dat → Prop) (v4 : Int32) (s0 : Int32) (D : Dat) : Prop := X9_told_j110 G post v0 v1 v2 g1 g2 g3 g4 g5 g6 k39 v4 0 s0 D
set_option maxRecDepth 100000 in
set_option maxHeartbeats 4000000 in
theorem X9_told_j109_ok {κ : Ctx} {G : Shp} {post : Int32 → Dat → Prop} {v0 : Nat} {v1 : Int32} {v2 : Int32} {g1 : Nat} {g2 : Nat} {g3 : Nat} {g4 : Nat} {g5 : Nat} {g6 : Nat} (C : Cx κ cX9_told RX9 (rmN 2) 5) (K : RtI κ cX9_told .int G post) (ho_v0 : isO G v0 9) (hr_g1 : G.2.2.2 v0 16 = some g1) (ho_g1 : isO G g1 13) (hr_g2 : G.2.2.2 v0 15 = some g2) (ho_g2 : isO G g2 13) (hr_g3 : G.2.2.2 v0 12 = some g3) (ho_g3 : isO G g3 11) (hr_g4 : G.2.2.2 v0 14 = some g4) (ho_g4 : isO G g4 11) (hr_g5 : G.2.2.2 v0 11 = some g5) (ho_g5 : isO G g5 11) (hr_g6 : G.2.2.2 v0 17 = some g6) (ho_g6 : isO G g6 13) {k39 : Int32 → Int32 → Dat → Prop} (hk39 : ∀ (v3 : Int32) (v4 : Int32) (D : Dat), k39 v3 v4 D → J κ 0 0 G D 39 [(0, .ref v0), (1, .int v1), (2, .int v2), (3, .int v3), (4, .int v4)] []) (v4 : Int32) (s0 : Int32) (D : Dat) (hw : X9_told_j109 G post v0 v1 v2 g1 g2 g3 g4 g5 g6 k39 v4 s0 D) : J κ 0 0 G D 109 [(0, .ref v0), (1, .int v1), (2, .int v2), (4, .int v4)] [.int s0] := by
  unfold X9_told_j109 at hw
  refine j_iconst (v := 0) C dX9_told_109 (by decide) ?_
  exact J.sub (X9_told_j110_ok C K ho_v0 hr_g1 ho_g1 hr_g2 ho_g2 hr_g3 ho_g3 hr_g4 ho_g4 hr_g5 ho_g5 hr_g6 ho_g6 hk39 v4 0 s0 D hw) [0, 1, 2, 3] rfl
def X9_told_j105 (G : Shp) (post : Int32 → Dat → Prop) (v0 : Nat) (v1 : Int32) (v2 : Int32) (g1 : Nat) (g2 : Nat) (g3 : Nat) (g4 : Nat) (g5 : Nat) (g6 : Nat) (k39 : Int32 → Int32 → Dat → Prop) (v4 : Int32) (s0 : Int32) (D : Dat) : Prop := X9_told_j110 G post v0 v1 v2 g1 g2 g3 g4 g5 g6 k39 v4 1 s0 D
set_option maxRecDepth 100000 in
set_option maxHeartbeats 4000000 in
theorem X9_told_j105_ok {κ : Ctx} {G : Shp} {post : Int32 → Dat → Prop} {v0 : Nat} {v1 : Int32} {v2 : Int32} {g1 : Nat} {g2 : Nat} {g3 : Nat} {g4 : Nat} {g5 : Nat} {g6 : Nat} (C : Cx κ cX9_told RX9 (rmN 2) 5) (K : RtI κ cX9_told .int G post) (ho_v0 : isO G v0 9) (hr_g1 : G.2.2.2 v0 16 = some g1) (ho_g1 : isO G g1 13) (hr_g2 : G.2.2.2 v0 15 = some g2) (ho_g2 : isO G g2 13) (hr_g3 : G.2.2.2 v0 12 = some g3) (ho_g3 : isO G g3 11) (hr_g4 : G.2.2.2 v0 14 = some g4) (ho_g4 : isO G g4 11) (hr_g5 : G.2.2.2 v0 11 = some g5) (ho_g5 : isO G g5 11) (hr_g6 : G.2.2.2 v0 17 = some g6) (ho_g6 : isO G g6 13) {k39 : Int32 → Int32 → Dat → Prop} (hk39 : ∀ (v3 : Int32) (v4 : Int32) (D : Dat), k39 v3 v4 D → J κ 0 0 G D 39 [(0, .ref v0), (1, .int v1), (2, .int v2), (3, .int v3), (4, .int v4)] []) (v4 : Int32) (s0 : Int32) (D : Dat) (hw : X9_told_j105 G post v0 v1 v2 g1 g2 g3 g4 g5 g6 k39 v4 s0 D) : J κ 0 0 G D 105 [(0, .ref v0), (1, .int v1), (2, .int v2), (4, .int v4)] [.int s0] := by
  unfold X9_told_j105 at hw
  refine j_iconst (v := 1) C dX9_told_105 (by decide) ?_
  refine j_goto (tgt := 110) C dX9_told_106 (by decide) ?_
  exact J.sub (X9_told_j110_ok C K ho_v0 hr_g1 ho_g1 hr_g2 ho_g2 hr_g3 ho_g3 hr_g4 ho_g4 hr_g5 ho_g5 hr_g6 ho_g6 hk39 v4 1 s0 D hw) [0, 1, 2, 3] rfl
def X9_told_l39_b (G : Shp) (post : Int32 → Dat → Prop) (v0 : Nat) (v1 : Int32) (v2 : Int32) (g1 : Nat) (g2 : Nat) (g3 : Nat) (g4 : Nat) (g5 : Nat) (g6 : Nat) (rec : Int32 → Int32 → Dat → Prop) (v3 : Int32) (v4 : Int32) (D : Dat) : Prop := ((40 ≤ v4 → X9_told_j118 G post v0 v1 v2 g1 g2 g3 g4 g5 g6 v3 D) ∧ (¬ (40 ≤ v4) → ((3 ≤ v2 → X9_told_j118 G post v0 v1 v2 g1 g2 g3 g4 g5 g6 v3 D) ∧ (¬ (3 ≤ v2) → ((¬ v2 = 0 → ((¬ v2 = 1 → X9_spot_wp G D v1 v4 (fun r1 D2 => (vp_in r1 (G.2.2.1 g1) ∧ (((D2.1 g1 r1.toNatClampNeg) = 0 → X9_told_j109 G post v0 v1 v2 g1 g2 g3 g4 g5 g6 rec v4 v3 D2) ∧ (¬ ((D2.1 g1 r1.toNatClampNeg) = 0) → X9_told_j105 G post v0 v1 v2 g1 g2 g3 g4 g5 g6 rec v4 v3 D2))))) ∧ (v2 = 1 → X9_counts_wp G D v0 v1 v4 (fun r4 D5 => ((r4 = 0 → X9_told_j109 G post v0 v1 v2 g1 g2 g3 g4 g5 g6 rec v4 v3 D5) ∧ (¬ (r4 = 0) → X9_told_j105 G post v0 v1 v2 g1 g2 g3 g4 g5 g6 rec v4 v3 D5)))))) ∧ (v2 = 0 → X9_spot_wp G D v1 v4 (fun r6 D7 => (vp_in r6 (G.2.2.1 g2) ∧ (((D7.1 g2 r6.toNatClampNeg) = 0 → X9_told_j109 G post v0 v1 v2 g1 g2 g3 g4 g5 g6 rec v4 v3 D7) ∧ (¬ ((D7.1 g2 r6.toNatClampNeg) = 0) → X9_told_j105 G post v0 v1 v2 g1 g2 g3 g4 g5 g6 rec v4 v3 D7))))))))))
def X9_told_l39 (G : Shp) (post : Int32 → Dat → Prop) (v0 : Nat) (v1 : Int32) (v2 : Int32) (g1 : Nat) (g2 : Nat) (g3 : Nat) (g4 : Nat) (g5 : Nat) (g6 : Nat) : Nat → Int32 → Int32 → Dat → Prop
  | 0 => fun _ _ _ => False
  | n + 1 => X9_told_l39_b G post v0 v1 v2 g1 g2 g3 g4 g5 g6 (X9_told_l39 G post v0 v1 v2 g1 g2 g3 g4 g5 g6 n)
set_option maxRecDepth 100000 in
set_option maxHeartbeats 4000000 in
theorem X9_told_l39_ok {κ : Ctx} {G : Shp} {post : Int32 → Dat → Prop} {v0 : Nat} {v1 : Int32} {v2 : Int32} {g1 : Nat} {g2 : Nat} {g3 : Nat} {g4 : Nat} {g5 : Nat} {g6 : Nat} (C : Cx κ cX9_told RX9 (rmN 2) 5) (K : RtI κ cX9_told .int G post) (ho_v0 : isO G v0 9) (hr_g1 : G.2.2.2 v0 16 = some g1) (ho_g1 : isO G g1 13) (hr_g2 : G.2.2.2 v0 15 = some g2) (ho_g2 : isO G g2 13) (hr_g3 : G.2.2.2 v0 12 = some g3) (ho_g3 : isO G g3 11) (hr_g4 : G.2.2.2 v0 14 = some g4) (ho_g4 : isO G g4 11) (hr_g5 : G.2.2.2 v0 11 = some g5) (ho_g5 : isO G g5 11) (hr_g6 : G.2.2.2 v0 17 = some g6) (ho_g6 : isO G g6 13) : ∀ (n : Nat) (v3 : Int32) (v4 : Int32) (D : Dat), X9_told_l39 G post v0 v1 v2 g1 g2 g3 g4 g5 g6 n v3 v4 D → J κ 0 0 G D 39 [(0, .ref v0), (1, .int v1), (2, .int v2), (3, .int v3), (4, .int v4)] [] := by
  intro n
  induction n with
  | zero => intro v3 v4 D hw; exact hw.elim
  | succ n ih =>
    intro v3 v4 D hw
    have hw : X9_told_l39_b G post v0 v1 v2 g1 g2 g3 g4 g5 g6 (X9_told_l39 G post v0 v1 v2 g1 g2 g3 g4 g5 g6 n) v3 v4 D := hw
    unfold X9_told_l39_b at hw
    refine j_iload C dX9_told_39 4 rfl ?_
    refine j_bipush (v := 40) C dX9_told_41 (by decide) ?_
    refine j_icmp_ge (tgt := 118) C dX9_told_43 (by decide) (fun hc => ?_) (fun hc => ?_)
    · have hw := hw.1 hc
      exact J.sub (X9_told_j118_ok C K ho_v0 hr_g1 ho_g1 hr_g2 ho_g2 hr_g3 ho_g3 hr_g4 ho_g4 hr_g5 ho_g5 hr_g6 ho_g6 v3 D hw) [0, 1, 2, 3] rfl
    · have hw := hw.2 hc
      refine j_iload_n C dX9_told_46 rfl 2 rfl ?_
      refine j_iconst (v := 3) C dX9_told_47 (by decide) ?_
      refine j_icmp_ge (tgt := 118) C dX9_told_48 (by decide) (fun hc => ?_) (fun hc => ?_)
      · have hw := hw.1 hc
        exact J.sub (X9_told_j118_ok C K ho_v0 hr_g1 ho_g1 hr_g2 ho_g2 hr_g3 ho_g3 hr_g4 ho_g4 hr_g5 ho_g5 hr_g6 ho_g6 v3 D hw) [0, 1, 2, 3] rfl
      · have hw := hw.2 hc
        refine j_iload_n C dX9_told_51 rfl 3 rfl ?_
        refine j_iload_n C dX9_told_52 rfl 2 rfl ?_
        refine j_if_ne (tgt := 73) C dX9_told_53 (by decide) (fun hc => ?_) (fun hc => ?_)
        · have hw := hw.1 hc
          refine j_iload_n C dX9_told_73 rfl 2 rfl ?_
          refine j_iconst (v := 1) C dX9_told_74 (by decide) ?_
          refine j_icmp_ne (tgt := 91) C dX9_told_75 (by decide) (fun hc => ?_) (fun hc => ?_)
          · have hw := hw.1 hc
            refine j_aload_n C dX9_told_91 rfl 0 rfl ?_
            refine gf_9_16 C ho_v0 hr_g1 k_780 dX9_told_92 ?_
            refine j_iload_n C dX9_told_95 rfl 1 rfl ?_
            refine j_iload C dX9_told_96 4 rfl ?_
            refine j_cSI (As := [.int v1, .int v4]) (st := [.ref g1, .int v3]) C (X9_spot_ok κ.2.1 G D v1 v4 _ hw) k_882 ms_X9_spot ⟨by decide, by decide⟩ ⟨rfl, rfl⟩ rfl rfl (Nat.le_of_ble_eq_true rfl) ⟨Nat.zero_le _, Nat.zero_le _⟩ dX9_told_98 (fun r1 D2 hw => ?_)
            obtain ⟨hi3, hw⟩ := hw
            refine j_zald C ho_g1 hi3 dX9_told_101 ?_
            refine j_if_eq (tgt := 109) C dX9_told_102 (by decide) (fun hc => ?_) (fun hc => ?_)
            · have hw := hw.1 hc
              exact J.sub (X9_told_j109_ok C K ho_v0 hr_g1 ho_g1 hr_g2 ho_g2 hr_g3 ho_g3 hr_g4 ho_g4 hr_g5 ho_g5 hr_g6 ho_g6 ih v4 v3 D2 hw) [0, 1, 2, 4] rfl
            · have hw := hw.2 hc
              exact J.sub (X9_told_j105_ok C K ho_v0 hr_g1 ho_g1 hr_g2 ho_g2 hr_g3 ho_g3 hr_g4 ho_g4 hr_g5 ho_g5 hr_g6 ho_g6 ih v4 v3 D2 hw) [0, 1, 2, 4] rfl
          · have hw := hw.2 hc
            refine j_aload_n C dX9_told_78 rfl 0 rfl ?_
            refine j_iload_n C dX9_told_79 rfl 1 rfl ?_
            refine j_iload C dX9_told_80 4 rfl ?_
            refine j_cVI (As := [.int v1, .int v4]) (st := [.int v3]) C (X9_counts_ok κ.2.1 G D v0 v1 v4 _ hw) ho_v0 rfl k_905 mv_X9_counts ⟨by decide, by decide⟩ ⟨rfl, rfl⟩ rfl rfl (Nat.le_of_ble_eq_true rfl) ⟨Nat.zero_le _, Nat.zero_le _⟩ dX9_told_82 (fun r4 D5 hw => ?_)
            refine j_if_eq (tgt := 109) C dX9_told_85 (by decide) (fun hc => ?_) (fun hc => ?_)
            · have hw := hw.1 hc
              exact J.sub (X9_told_j109_ok C K ho_v0 hr_g1 ho_g1 hr_g2 ho_g2 hr_g3 ho_g3 hr_g4 ho_g4 hr_g5 ho_g5 hr_g6 ho_g6 ih v4 v3 D5 hw) [0, 1, 2, 4] rfl
            · have hw := hw.2 hc
              refine j_goto (tgt := 105) C dX9_told_88 (by decide) ?_
              exact J.sub (X9_told_j105_ok C K ho_v0 hr_g1 ho_g1 hr_g2 ho_g2 hr_g3 ho_g3 hr_g4 ho_g4 hr_g5 ho_g5 hr_g6 ho_g6 ih v4 v3 D5 hw) [0, 1, 2, 4] rfl
        · have hw := hw.2 hc
          refine j_aload_n C dX9_told_56 rfl 0 rfl ?_
          refine gf_9_15 C ho_v0 hr_g2 k_779 dX9_told_57 ?_
          refine j_iload_n C dX9_told_60 rfl 1 rfl ?_
          refine j_iload C dX9_told_61 4 rfl ?_
          refine j_cSI (As := [.int v1, .int v4]) (st := [.ref g2, .int v3]) C (X9_spot_ok κ.2.1 G D v1 v4 _ hw) k_882 ms_X9_spot ⟨by decide, by decide⟩ ⟨rfl, rfl⟩ rfl rfl (Nat.le_of_ble_eq_true rfl) ⟨Nat.zero_le _, Nat.zero_le _⟩ dX9_told_63 (fun r6 D7 hw => ?_)
          obtain ⟨hi8, hw⟩ := hw
          refine j_zald C ho_g2 hi8 dX9_told_66 ?_
          refine j_if_eq (tgt := 109) C dX9_told_67 (by decide) (fun hc => ?_) (fun hc => ?_)
          · have hw := hw.1 hc
            exact J.sub (X9_told_j109_ok C K ho_v0 hr_g1 ho_g1 hr_g2 ho_g2 hr_g3 ho_g3 hr_g4 ho_g4 hr_g5 ho_g5 hr_g6 ho_g6 ih v4 v3 D7 hw) [0, 1, 2, 4] rfl
          · have hw := hw.2 hc
            refine j_goto (tgt := 105) C dX9_told_70 (by decide) ?_
            exact J.sub (X9_told_j105_ok C K ho_v0 hr_g1 ho_g1 hr_g2 ho_g2 hr_g3 ho_g3 hr_g4 ho_g4 hr_g5 ho_g5 hr_g6 ho_g6 ih v4 v3 D7 hw) [0, 1, 2, 4] rfl
def X9_told_j23 (G : Shp) (post : Int32 → Dat → Prop) (v0 : Nat) (v1 : Int32) (v2 : Int32) (g1 : Nat) (g2 : Nat) (g3 : Nat) (g4 : Nat) (g5 : Nat) (g6 : Nat) (D : Dat) : Prop := X9_refuse_wp G D v0 2 (fun r1 D2 => post r1 D2)
set_option maxRecDepth 100000 in
set_option maxHeartbeats 4000000 in
theorem X9_told_j23_ok {κ : Ctx} {G : Shp} {post : Int32 → Dat → Prop} {v0 : Nat} {v1 : Int32} {v2 : Int32} {g1 : Nat} {g2 : Nat} {g3 : Nat} {g4 : Nat} {g5 : Nat} {g6 : Nat} (C : Cx κ cX9_told RX9 (rmN 2) 5) (K : RtI κ cX9_told .int G post) (ho_v0 : isO G v0 9) (hr_g1 : G.2.2.2 v0 16 = some g1) (ho_g1 : isO G g1 13) (hr_g2 : G.2.2.2 v0 15 = some g2) (ho_g2 : isO G g2 13) (hr_g3 : G.2.2.2 v0 12 = some g3) (ho_g3 : isO G g3 11) (hr_g4 : G.2.2.2 v0 14 = some g4) (ho_g4 : isO G g4 11) (hr_g5 : G.2.2.2 v0 11 = some g5) (ho_g5 : isO G g5 11) (hr_g6 : G.2.2.2 v0 17 = some g6) (ho_g6 : isO G g6 13) (D : Dat) (hw : X9_told_j23 G post v0 v1 v2 g1 g2 g3 g4 g5 g6 D) : J κ 0 0 G D 23 [(0, .ref v0)] [] := by
  unfold X9_told_j23 at hw
  refine j_aload_n C dX9_told_23 rfl 0 rfl ?_
  refine j_iconst (v := 2) C dX9_told_24 (by decide) ?_
  refine j_cVI (As := [.int 2]) (st := []) C (X9_refuse_ok κ.2.1 G D v0 2 _ hw) ho_v0 rfl k_897 mv_X9_refuse ⟨by decide, by decide⟩ ⟨rfl, rfl⟩ rfl rfl (Nat.le_of_ble_eq_true rfl) ⟨Nat.zero_le _, Nat.zero_le _⟩ dX9_told_25 (fun r1 D2 hw => ?_)
  exact K _ _ _ _ dX9_told_28 rfl hw
def X9_told_wp (G : Shp) (D : Dat) (v0 : Nat) (v1 : Int32) (v2 : Int32) (post : Int32 → Dat → Prop) : Prop := isO G v0 9 ∧ ∃ g1, G.2.2.2 v0 16 = some g1 ∧ isO G g1 13 ∧ ∃ g2, G.2.2.2 v0 15 = some g2 ∧ isO G g2 13 ∧ ∃ g3, G.2.2.2 v0 12 = some g3 ∧ isO G g3 11 ∧ ∃ g4, G.2.2.2 v0 14 = some g4 ∧ isO G g4 11 ∧ ∃ g5, G.2.2.2 v0 11 = some g5 ∧ isO G g5 11 ∧ ∃ g6, G.2.2.2 v0 17 = some g6 ∧ isO G g6 13 ∧ X9_isRow_wp G D v1 (fun r1 D2 => ((¬ r1 = 0 → ((v2 < 0 → X9_told_j23 G post v0 v1 v2 g1 g2 g3 g4 g5 g6 D2) ∧ (¬ (v2 < 0) → ((v2 ≤ 6 → ∃ n, X9_told_l39 G post v0 v1 v2 g1 g2 g3 g4 g5 g6 n 0 0 (dI D2 v0 0 0)) ∧ (¬ (v2 ≤ 6) → X9_told_j23 G post v0 v1 v2 g1 g2 g3 g4 g5 g6 D2))))) ∧ (r1 = 0 → X9_refuse_wp G D2 v0 1 (fun r3 D4 => post r3 D4))))
set_option maxRecDepth 100000 in
set_option maxHeartbeats 4000000 in
theorem X9_told_ok (l : Launch) (G : Shp) (D : Dat) (v0 : Nat) (v1 : Int32) (v2 : Int32) (post : Int32 → Dat → Prop) (hw : X9_told_wp G D v0 v1 v2 post) : CtI l yX9_told cX9_told 5 .int (rmN 2) [.ref v0, .int v1, .int v2] G D post := by
  obtain ⟨ho_v0, g1, hr_g1, ho_g1, g2, hr_g2, ho_g2, g3, hr_g3, ho_g3, g4, hr_g4, ho_g4, g5, hr_g5, ho_g5, g6, hr_g6, ho_g6, hw⟩ := hw
  refine ctI_of (by decide) rfl (Nat.le_of_ble_eq_true rfl) ?_
  intro κ hκ C K
  subst hκ
  have C : Cx κ cX9_told RX9 (rmN 2) 5 := C
  refine j_iload_n C dX9_told_0 rfl 1 rfl ?_
  refine j_cSI (As := [.int v1]) (st := []) C (X9_isRow_ok κ.2.1 G D v1 _ hw) k_867 ms_X9_isRow ⟨by decide, by decide⟩ ⟨rfl, rfl⟩ rfl rfl (Nat.le_of_ble_eq_true rfl) ⟨Nat.zero_le _, Nat.zero_le _⟩ dX9_told_1 (fun r1 D2 hw => ?_)
  refine j_if_ne (tgt := 13) C dX9_told_4 (by decide) (fun hc => ?_) (fun hc => ?_)
  · have hw := hw.1 hc
    refine j_iload_n C dX9_told_13 rfl 2 rfl ?_
    refine j_if_lt (tgt := 23) C dX9_told_14 (by decide) (fun hc => ?_) (fun hc => ?_)
    · have hw := hw.1 hc
      exact J.sub (X9_told_j23_ok C K ho_v0 hr_g1 ho_g1 hr_g2 ho_g2 hr_g3 ho_g3 hr_g4 ho_g4 hr_g5 ho_g5 hr_g6 ho_g6 D2 hw) [0] rfl
    · have hw := hw.2 hc
      refine j_iload_n C dX9_told_17 rfl 2 rfl ?_
      refine j_bipush (v := 6) C dX9_told_18 (by decide) ?_
      refine j_icmp_le (tgt := 29) C dX9_told_20 (by decide) (fun hc => ?_) (fun hc => ?_)
      · have hw := hw.1 hc
        refine j_aload_n C dX9_told_29 rfl 0 rfl ?_
        refine j_iconst (v := 0) C dX9_told_30 (by decide) ?_
        refine pf_9_0 C ho_v0 k_764 dX9_told_31 ?_
        refine j_iconst (v := 0) C dX9_told_34 (by decide) ?_
        refine j_istore_n C dX9_told_35 rfl (by decide) rfl ?_
        refine j_iconst (v := 0) C dX9_told_36 (by decide) ?_
        refine j_istore C dX9_told_37 (by decide) rfl ?_
        obtain ⟨n, hw⟩ := hw
        exact J.sub (X9_told_l39_ok C K ho_v0 hr_g1 ho_g1 hr_g2 ho_g2 hr_g3 ho_g3 hr_g4 ho_g4 hr_g5 ho_g5 hr_g6 ho_g6 n 0 0 (dI D2 v0 0 0) hw) [2, 3, 4, 1, 0] rfl
      · have hw := hw.2 hc
        exact J.sub (X9_told_j23_ok C K ho_v0 hr_g1 ho_g1 hr_g2 ho_g2 hr_g3 ho_g3 hr_g4 ho_g4 hr_g5 ho_g5 hr_g6 ho_g6 D2 hw) [0] rfl
  · have hw := hw.2 hc
    refine j_aload_n C dX9_told_7 rfl 0 rfl ?_
    refine j_iconst (v := 1) C dX9_told_8 (by decide) ?_
    refine j_cVI (As := [.int 1]) (st := []) C (X9_refuse_ok κ.2.1 G D2 v0 1 _ hw) ho_v0 rfl k_897 mv_X9_refuse ⟨by decide, by decide⟩ ⟨rfl, rfl⟩ rfl rfl (Nat.le_of_ble_eq_true rfl) ⟨Nat.zero_le _, Nat.zero_le _⟩ dX9_told_9 (fun r3 D4 hw => ?_)
    exact K _ _ _ _ dX9_told_12 rfl hw
