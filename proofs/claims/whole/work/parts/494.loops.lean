/-! the loops that make Bigs; the larger constructors -/
set_option maxRecDepth 100000 in
set_option maxHeartbeats 4000000 in
theorem lp_X2_124 {κ : Ctx} (C : Cx κ cX2_init RX2 (rmC 2 156 1708) 3) (Cw : Cc κ) {G0 : Shp} {I : List Mk} {i jc v0 v1 c0 s0 : Nat} (hcs : c0 + 2 * 49 ≤ (rmC 2 156 1708).cells ∧ s0 + 15 * 49 ≤ (rmC 2 156 1708).slots) (hf : i < I.length ∧ jc < I.length ∧ i ≠ jc ∧ (gk I i).1 = 2 ∧ (gk I jc).1 = 14 ∧ (gk I jc).2.1 = 49 ∧ rfI I i 5 = some jc) (e0 : aG G0 i = v0) (kx : ∀ G D, Em G D (bigsI jc I 49) → (∀ j, j < I.length → aG G j = aG G0 j) → J κ (c0 + 2 * 49) (s0 + 15 * 49) G D 149 [(2, .int (nI 49)), (0, .ref v0), (1, .ref v1)] []) : ∀ n k, k + n = 49 → ∀ G D, Em G D (bigsI jc I k) → (∀ j, j < I.length → aG G j = aG G0 j) → J κ (c0 + 2 * k) (s0 + 15 * k) G D 124 [(2, .int (nI k)), (0, .ref v0), (1, .ref v1)] [] := by
  intro n
  induction n with
  | zero =>
    intro k hk G D hE hx
    have ek : k = 49 := by omega
    subst ek
    refine j_iload_n C dX2_init_124 rfl 0 rfl ?_
    refine j_bipush (v := 49) C dX2_init_125 (by decide) ?_
    refine j_icmp_ge (tgt := 149) C dX2_init_127 (by decide) (fun _ => ?_) (fun hc => absurd (by decide) hc)
    exact kx G D hE hx
  | succ n ih =>
    intro k hk G D hE hx
    have hk2 : k < 49 := by omega
    have hl := bigs_len jc I k
    refine j_iload_n C dX2_init_124 rfl 0 rfl ?_
    refine j_bipush (v := 49) C dX2_init_125 (by decide) ?_
    refine j_icmp_ge (tgt := 149) C dX2_init_127 (by decide) (fun hc => absurd hc (by rw [show (49 : Int32) = nI 49 by decide]; exact nI_ge hk2 (by omega))) (fun _ => ?_)
    refine j_aload_n C dX2_init_130 rfl 1 rfl ?_
    obtain ⟨y, ey⟩ : ∃ y, aG G jc = y := ⟨_, rfl⟩
    have e1 := (hx i hf.1).trans e0
    refine gf_2_5 C (hE.o (j := i) (by omega) (by rw [(bigs_kd hf.1 k).1]; exact hf.2.2.2.1) e1) (hE.r (j := i) (x := jc) (by omega) (by rw [bigs_rf hf.1 hf.2.2.1 k]; exact hf.2.2.2.2.2.2) e1 ey) k_151 dX2_init_131 ?_
    refine j_iload_n C dX2_init_134 rfl 0 rfl ?_
    refine en_0 C hE k_143 ⟨by have := hcs.1; omega, by have := hcs.2; omega⟩ dX2_init_135 (fun G1 D1 q hE1 x1 eq1 => ?_)
    have ey1 := (x1 jc (by omega)).trans ey
    refine j_dup C dX2_init_138 rfl ?_
    refine j_cIN C Cw (big_c _ hE1 (i := (bigsI jc I k).length) ⟨by rw [len_sN]; omega, by rw [kd_new]⟩ eq1) nc_4 mi_0 ⟨Nat.le_of_ble_eq_true rfl, Nat.le_of_ble_eq_true rfl⟩ ⟨by have := hcs.1; show _ + 1 ≤ _; omega, by have := hcs.2; show _ + 12 ≤ _; omega⟩ rfl rfl (Nat.le_of_ble_eq_true rfl) dX2_init_139 (fun G2 D2 hp => ?_)
    obtain ⟨hE2, x2⟩ := hp
    have ey2 := (x2 jc (by rw [len_sN]; omega)).trans ey1
    have eq2 := (x2 (bigsI jc I k).length (by rw [len_sN]; omega)).trans eq1
    refine es_14 C hE2 (i := jc) (j := (bigsI jc I k).length) (t := k) rfl ⟨by rw [len_bigI, len_sN]; omega, by rw [(kd_bigI (by rw [len_sN]; omega)).1, kd_sN (by omega), (bigs_kd hf.2.1 k).1]; exact hf.2.2.2.2.1, by rw [len_bigI, len_sN]; omega, by rw [(kd_bigI (by rw [len_sN]; omega)).1, kd_new], by rw [(kd_bigI (by rw [len_sN]; omega)).2, kd_sN (by omega), (bigs_kd hf.2.1 k).2, hf.2.2.2.2.2.1]; exact hk2, by rw [(kd_bigI (by rw [len_sN]; omega)).2, kd_sN (by omega), (bigs_kd hf.2.1 k).2, hf.2.2.2.2.2.1]; omega⟩ ey2 eq2 dX2_init_142 (fun G3 hE3 x3 => ?_)
    refine j_iinc (v := nI (k + 1)) C dX2_init_143 0 rfl (nI_1 k) (by decide) rfl ?_
    refine j_goto (tgt := 124) C dX2_init_146 (by decide) ?_
    refine J.widen (k := c0 + 2 * (k + 1)) (n := s0 + 15 * (k + 1)) (by show c0 + 2 * k + 1 + 1 ≤ _; omega) (by show s0 + 15 * k + 3 + 12 ≤ _; omega) ?_
    exact ih (k + 1) (by omega) G3 D2 hE3 (fun j hj => (x3 j).trans ((x2 j (by rw [len_sN]; omega)).trans ((x1 j (by omega)).trans (hx j hj))))
set_option maxRecDepth 100000 in
set_option maxHeartbeats 4000000 in
theorem lp_X2_151 {κ : Ctx} (C : Cx κ cX2_init RX2 (rmC 2 156 1708) 3) (Cw : Cc κ) {G0 : Shp} {I : List Mk} {i jc v0 v1 c0 s0 : Nat} (hcs : c0 + 2 * 6 ≤ (rmC 2 156 1708).cells ∧ s0 + 15 * 6 ≤ (rmC 2 156 1708).slots) (hf : i < I.length ∧ jc < I.length ∧ i ≠ jc ∧ (gk I i).1 = 2 ∧ (gk I jc).1 = 14 ∧ (gk I jc).2.1 = 6 ∧ rfI I i 6 = some jc) (e0 : aG G0 i = v0) (kx : ∀ G D, Em G D (bigsI jc I 6) → (∀ j, j < I.length → aG G j = aG G0 j) → J κ (c0 + 2 * 6) (s0 + 15 * 6) G D 176 [(2, .int (nI 6)), (0, .ref v0), (1, .ref v1)] []) : ∀ n k, k + n = 6 → ∀ G D, Em G D (bigsI jc I k) → (∀ j, j < I.length → aG G j = aG G0 j) → J κ (c0 + 2 * k) (s0 + 15 * k) G D 151 [(2, .int (nI k)), (0, .ref v0), (1, .ref v1)] [] := by
  intro n
  induction n with
  | zero =>
    intro k hk G D hE hx
    have ek : k = 6 := by omega
    subst ek
    refine j_iload_n C dX2_init_151 rfl 0 rfl ?_
    refine j_bipush (v := 6) C dX2_init_152 (by decide) ?_
    refine j_icmp_ge (tgt := 176) C dX2_init_154 (by decide) (fun _ => ?_) (fun hc => absurd (by decide) hc)
    exact kx G D hE hx
  | succ n ih =>
    intro k hk G D hE hx
    have hk2 : k < 6 := by omega
    have hl := bigs_len jc I k
    refine j_iload_n C dX2_init_151 rfl 0 rfl ?_
    refine j_bipush (v := 6) C dX2_init_152 (by decide) ?_
    refine j_icmp_ge (tgt := 176) C dX2_init_154 (by decide) (fun hc => absurd hc (by rw [show (6 : Int32) = nI 6 by decide]; exact nI_ge hk2 (by omega))) (fun _ => ?_)
    refine j_aload_n C dX2_init_157 rfl 1 rfl ?_
    obtain ⟨y, ey⟩ : ∃ y, aG G jc = y := ⟨_, rfl⟩
    have e1 := (hx i hf.1).trans e0
    refine gf_2_6 C (hE.o (j := i) (by omega) (by rw [(bigs_kd hf.1 k).1]; exact hf.2.2.2.1) e1) (hE.r (j := i) (x := jc) (by omega) (by rw [bigs_rf hf.1 hf.2.2.1 k]; exact hf.2.2.2.2.2.2) e1 ey) k_152 dX2_init_158 ?_
    refine j_iload_n C dX2_init_161 rfl 0 rfl ?_
    refine en_0 C hE k_143 ⟨by have := hcs.1; omega, by have := hcs.2; omega⟩ dX2_init_162 (fun G1 D1 q hE1 x1 eq1 => ?_)
    have ey1 := (x1 jc (by omega)).trans ey
    refine j_dup C dX2_init_165 rfl ?_
    refine j_cIN C Cw (big_c _ hE1 (i := (bigsI jc I k).length) ⟨by rw [len_sN]; omega, by rw [kd_new]⟩ eq1) nc_4 mi_0 ⟨Nat.le_of_ble_eq_true rfl, Nat.le_of_ble_eq_true rfl⟩ ⟨by have := hcs.1; show _ + 1 ≤ _; omega, by have := hcs.2; show _ + 12 ≤ _; omega⟩ rfl rfl (Nat.le_of_ble_eq_true rfl) dX2_init_166 (fun G2 D2 hp => ?_)
    obtain ⟨hE2, x2⟩ := hp
    have ey2 := (x2 jc (by rw [len_sN]; omega)).trans ey1
    have eq2 := (x2 (bigsI jc I k).length (by rw [len_sN]; omega)).trans eq1
    refine es_14 C hE2 (i := jc) (j := (bigsI jc I k).length) (t := k) rfl ⟨by rw [len_bigI, len_sN]; omega, by rw [(kd_bigI (by rw [len_sN]; omega)).1, kd_sN (by omega), (bigs_kd hf.2.1 k).1]; exact hf.2.2.2.2.1, by rw [len_bigI, len_sN]; omega, by rw [(kd_bigI (by rw [len_sN]; omega)).1, kd_new], by rw [(kd_bigI (by rw [len_sN]; omega)).2, kd_sN (by omega), (bigs_kd hf.2.1 k).2, hf.2.2.2.2.2.1]; exact hk2, by rw [(kd_bigI (by rw [len_sN]; omega)).2, kd_sN (by omega), (bigs_kd hf.2.1 k).2, hf.2.2.2.2.2.1]; omega⟩ ey2 eq2 dX2_init_169 (fun G3 hE3 x3 => ?_)
    refine j_iinc (v := nI (k + 1)) C dX2_init_170 0 rfl (nI_1 k) (by decide) rfl ?_
    refine j_goto (tgt := 151) C dX2_init_173 (by decide) ?_
    refine J.widen (k := c0 + 2 * (k + 1)) (n := s0 + 15 * (k + 1)) (by show c0 + 2 * k + 1 + 1 ≤ _; omega) (by show s0 + 15 * k + 3 + 12 ≤ _; omega) ?_
    exact ih (k + 1) (by omega) G3 D2 hE3 (fun j hj => (x3 j).trans ((x2 j (by rw [len_sN]; omega)).trans ((x1 j (by omega)).trans (hx j hj))))
set_option maxRecDepth 100000 in
set_option maxHeartbeats 4000000 in
theorem lp_X2_178 {κ : Ctx} (C : Cx κ cX2_init RX2 (rmC 2 156 1708) 3) (Cw : Cc κ) {G0 : Shp} {I : List Mk} {i jc v0 v1 c0 s0 : Nat} (hcs : c0 + 2 * 7 ≤ (rmC 2 156 1708).cells ∧ s0 + 15 * 7 ≤ (rmC 2 156 1708).slots) (hf : i < I.length ∧ jc < I.length ∧ i ≠ jc ∧ (gk I i).1 = 2 ∧ (gk I jc).1 = 14 ∧ (gk I jc).2.1 = 7 ∧ rfI I i 7 = some jc) (e0 : aG G0 i = v0) (kx : ∀ G D, Em G D (bigsI jc I 7) → (∀ j, j < I.length → aG G j = aG G0 j) → J κ (c0 + 2 * 7) (s0 + 15 * 7) G D 203 [(2, .int (nI 7)), (0, .ref v0), (1, .ref v1)] []) : ∀ n k, k + n = 7 → ∀ G D, Em G D (bigsI jc I k) → (∀ j, j < I.length → aG G j = aG G0 j) → J κ (c0 + 2 * k) (s0 + 15 * k) G D 178 [(2, .int (nI k)), (0, .ref v0), (1, .ref v1)] [] := by
  intro n
  induction n with
  | zero =>
    intro k hk G D hE hx
    have ek : k = 7 := by omega
    subst ek
    refine j_iload_n C dX2_init_178 rfl 0 rfl ?_
    refine j_bipush (v := 7) C dX2_init_179 (by decide) ?_
    refine j_icmp_ge (tgt := 203) C dX2_init_181 (by decide) (fun _ => ?_) (fun hc => absurd (by decide) hc)
    exact kx G D hE hx
  | succ n ih =>
    intro k hk G D hE hx
    have hk2 : k < 7 := by omega
    have hl := bigs_len jc I k
    refine j_iload_n C dX2_init_178 rfl 0 rfl ?_
    refine j_bipush (v := 7) C dX2_init_179 (by decide) ?_
    refine j_icmp_ge (tgt := 203) C dX2_init_181 (by decide) (fun hc => absurd hc (by rw [show (7 : Int32) = nI 7 by decide]; exact nI_ge hk2 (by omega))) (fun _ => ?_)
    refine j_aload_n C dX2_init_184 rfl 1 rfl ?_
    obtain ⟨y, ey⟩ : ∃ y, aG G jc = y := ⟨_, rfl⟩
    have e1 := (hx i hf.1).trans e0
    refine gf_2_7 C (hE.o (j := i) (by omega) (by rw [(bigs_kd hf.1 k).1]; exact hf.2.2.2.1) e1) (hE.r (j := i) (x := jc) (by omega) (by rw [bigs_rf hf.1 hf.2.2.1 k]; exact hf.2.2.2.2.2.2) e1 ey) k_153 dX2_init_185 ?_
    refine j_iload_n C dX2_init_188 rfl 0 rfl ?_
    refine en_0 C hE k_143 ⟨by have := hcs.1; omega, by have := hcs.2; omega⟩ dX2_init_189 (fun G1 D1 q hE1 x1 eq1 => ?_)
    have ey1 := (x1 jc (by omega)).trans ey
    refine j_dup C dX2_init_192 rfl ?_
    refine j_cIN C Cw (big_c _ hE1 (i := (bigsI jc I k).length) ⟨by rw [len_sN]; omega, by rw [kd_new]⟩ eq1) nc_4 mi_0 ⟨Nat.le_of_ble_eq_true rfl, Nat.le_of_ble_eq_true rfl⟩ ⟨by have := hcs.1; show _ + 1 ≤ _; omega, by have := hcs.2; show _ + 12 ≤ _; omega⟩ rfl rfl (Nat.le_of_ble_eq_true rfl) dX2_init_193 (fun G2 D2 hp => ?_)
    obtain ⟨hE2, x2⟩ := hp
    have ey2 := (x2 jc (by rw [len_sN]; omega)).trans ey1
    have eq2 := (x2 (bigsI jc I k).length (by rw [len_sN]; omega)).trans eq1
    refine es_14 C hE2 (i := jc) (j := (bigsI jc I k).length) (t := k) rfl ⟨by rw [len_bigI, len_sN]; omega, by rw [(kd_bigI (by rw [len_sN]; omega)).1, kd_sN (by omega), (bigs_kd hf.2.1 k).1]; exact hf.2.2.2.2.1, by rw [len_bigI, len_sN]; omega, by rw [(kd_bigI (by rw [len_sN]; omega)).1, kd_new], by rw [(kd_bigI (by rw [len_sN]; omega)).2, kd_sN (by omega), (bigs_kd hf.2.1 k).2, hf.2.2.2.2.2.1]; exact hk2, by rw [(kd_bigI (by rw [len_sN]; omega)).2, kd_sN (by omega), (bigs_kd hf.2.1 k).2, hf.2.2.2.2.2.1]; omega⟩ ey2 eq2 dX2_init_196 (fun G3 hE3 x3 => ?_)
    refine j_iinc (v := nI (k + 1)) C dX2_init_197 0 rfl (nI_1 k) (by decide) rfl ?_
    refine j_goto (tgt := 178) C dX2_init_200 (by decide) ?_
    refine J.widen (k := c0 + 2 * (k + 1)) (n := s0 + 15 * (k + 1)) (by show c0 + 2 * k + 1 + 1 ≤ _; omega) (by show s0 + 15 * k + 3 + 12 ≤ _; omega) ?_
    exact ih (k + 1) (by omega) G3 D2 hE3 (fun j hj => (x3 j).trans ((x2 j (by rw [len_sN]; omega)).trans ((x1 j (by omega)).trans (hx j hj))))
set_option maxRecDepth 100000 in
set_option maxHeartbeats 4000000 in
theorem lp_X5_58 {κ : Ctx} (C : Cx κ cX5_init RX5 (rmC 2 87 712) 4) (Cw : Cc κ) {G0 : Shp} {I : List Mk} {i jc v0 v1 v2 c0 s0 : Nat} (hcs : c0 + 2 * 40 ≤ (rmC 2 87 712).cells ∧ s0 + 15 * 40 ≤ (rmC 2 87 712).slots) (hf : i < I.length ∧ jc < I.length ∧ i ≠ jc ∧ (gk I i).1 = 5 ∧ (gk I jc).1 = 14 ∧ (gk I jc).2.1 = 40 ∧ rfI I i 2 = some jc) (e0 : aG G0 i = v0) (kx : ∀ G D, Em G D (bigsI jc I 40) → (∀ j, j < I.length → aG G j = aG G0 j) → J κ (c0 + 2 * 40) (s0 + 15 * 40) G D 83 [(3, .int (nI 40)), (0, .ref v0), (1, .ref v1), (2, .ref v2)] []) : ∀ n k, k + n = 40 → ∀ G D, Em G D (bigsI jc I k) → (∀ j, j < I.length → aG G j = aG G0 j) → J κ (c0 + 2 * k) (s0 + 15 * k) G D 58 [(3, .int (nI k)), (0, .ref v0), (1, .ref v1), (2, .ref v2)] [] := by
  intro n
  induction n with
  | zero =>
    intro k hk G D hE hx
    have ek : k = 40 := by omega
    subst ek
    refine j_iload_n C dX5_init_58 rfl 0 rfl ?_
    refine j_bipush (v := 40) C dX5_init_59 (by decide) ?_
    refine j_icmp_ge (tgt := 83) C dX5_init_61 (by decide) (fun _ => ?_) (fun hc => absurd (by decide) hc)
    exact kx G D hE hx
  | succ n ih =>
    intro k hk G D hE hx
    have hk2 : k < 40 := by omega
    have hl := bigs_len jc I k
    refine j_iload_n C dX5_init_58 rfl 0 rfl ?_
    refine j_bipush (v := 40) C dX5_init_59 (by decide) ?_
    refine j_icmp_ge (tgt := 83) C dX5_init_61 (by decide) (fun hc => absurd hc (by rw [show (40 : Int32) = nI 40 by decide]; exact nI_ge hk2 (by omega))) (fun _ => ?_)
    refine j_aload_n C dX5_init_64 rfl 1 rfl ?_
    obtain ⟨y, ey⟩ : ∃ y, aG G jc = y := ⟨_, rfl⟩
    have e1 := (hx i hf.1).trans e0
    refine gf_5_2 C (hE.o (j := i) (by omega) (by rw [(bigs_kd hf.1 k).1]; exact hf.2.2.2.1) e1) (hE.r (j := i) (x := jc) (by omega) (by rw [bigs_rf hf.1 hf.2.2.1 k]; exact hf.2.2.2.2.2.2) e1 ey) k_205 dX5_init_65 ?_
    refine j_iload_n C dX5_init_68 rfl 0 rfl ?_
    refine en_0 C hE k_199 ⟨by have := hcs.1; omega, by have := hcs.2; omega⟩ dX5_init_69 (fun G1 D1 q hE1 x1 eq1 => ?_)
    have ey1 := (x1 jc (by omega)).trans ey
    refine j_dup C dX5_init_72 rfl ?_
    refine j_cIN C Cw (big_c _ hE1 (i := (bigsI jc I k).length) ⟨by rw [len_sN]; omega, by rw [kd_new]⟩ eq1) nc_6 mi_0 ⟨Nat.le_of_ble_eq_true rfl, Nat.le_of_ble_eq_true rfl⟩ ⟨by have := hcs.1; show _ + 1 ≤ _; omega, by have := hcs.2; show _ + 12 ≤ _; omega⟩ rfl rfl (Nat.le_of_ble_eq_true rfl) dX5_init_73 (fun G2 D2 hp => ?_)
    obtain ⟨hE2, x2⟩ := hp
    have ey2 := (x2 jc (by rw [len_sN]; omega)).trans ey1
    have eq2 := (x2 (bigsI jc I k).length (by rw [len_sN]; omega)).trans eq1
    refine es_14 C hE2 (i := jc) (j := (bigsI jc I k).length) (t := k) rfl ⟨by rw [len_bigI, len_sN]; omega, by rw [(kd_bigI (by rw [len_sN]; omega)).1, kd_sN (by omega), (bigs_kd hf.2.1 k).1]; exact hf.2.2.2.2.1, by rw [len_bigI, len_sN]; omega, by rw [(kd_bigI (by rw [len_sN]; omega)).1, kd_new], by rw [(kd_bigI (by rw [len_sN]; omega)).2, kd_sN (by omega), (bigs_kd hf.2.1 k).2, hf.2.2.2.2.2.1]; exact hk2, by rw [(kd_bigI (by rw [len_sN]; omega)).2, kd_sN (by omega), (bigs_kd hf.2.1 k).2, hf.2.2.2.2.2.1]; omega⟩ ey2 eq2 dX5_init_76 (fun G3 hE3 x3 => ?_)
    refine j_iinc (v := nI (k + 1)) C dX5_init_77 0 rfl (nI_1 k) (by decide) rfl ?_
    refine j_goto (tgt := 58) C dX5_init_80 (by decide) ?_
    refine J.widen (k := c0 + 2 * (k + 1)) (n := s0 + 15 * (k + 1)) (by show c0 + 2 * k + 1 + 1 ≤ _; omega) (by show s0 + 15 * k + 3 + 12 ≤ _; omega) ?_
    exact ih (k + 1) (by omega) G3 D2 hE3 (fun j hj => (x3 j).trans ((x2 j (by rw [len_sN]; omega)).trans ((x1 j (by omega)).trans (hx j hj))))
