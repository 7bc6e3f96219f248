/-! the small constructors; the loops that make Bigs -/
theorem kd_sR (I : List Mk) (i s j x : Nat) : (gk (sR I i s j) x).1 = (gk I x).1 ∧ (gk (sR I i s j) x).2.1 = (gk I x).2.1 := by
  by_cases e : x = i
  · subst e
    by_cases h : x < I.length
    · unfold sR
      rw [gk_set_eq h]
      exact ⟨rfl, rfl⟩
    · unfold sR gk
      rw [List.getD_eq_getElem?_getD, List.getD_eq_getElem?_getD, List.getElem?_eq_none (by rw [List.length_set]; omega), List.getElem?_eq_none (by omega)]
      exact ⟨rfl, rfl⟩
  · unfold sR
    rw [gk_set_ne e]
    exact ⟨rfl, rfl⟩
theorem kd_sI (I : List Mk) (i s v x : Nat) : (gk (sI I i s v) x).1 = (gk I x).1 ∧ (gk (sI I i s v) x).2.1 = (gk I x).2.1 ∧ (gk (sI I i s v) x).2.2.1 = (gk I x).2.2.1 := by
  by_cases e : x = i
  · subst e
    by_cases h : x < I.length
    · unfold sI
      rw [gk_set_eq h]
      exact ⟨rfl, rfl, rfl⟩
    · unfold sI gk
      rw [List.getD_eq_getElem?_getD, List.getD_eq_getElem?_getD, List.getElem?_eq_none (by rw [List.length_set]; omega), List.getElem?_eq_none (by omega)]
      exact ⟨rfl, rfl, rfl⟩
  · unfold sI
    rw [gk_set_ne e]
    exact ⟨rfl, rfl, rfl⟩
theorem kd_sN {I : List Mk} {k n x : Nat} (h : x < I.length) : gk (sN I k n) x = gk I x := gk_lt h
theorem kd_new (I : List Mk) (k n : Nat) : gk (sN I k n) I.length = (k, n, [], []) := gk_eq
theorem rf_sR {I : List Mk} {i s j x t : Nat} (h : x ≠ i) : rfI (sR I i s j) x t = rfI I x t := by unfold rfI sR; rw [gk_set_ne h]
theorem rf_sI (I : List Mk) (i s v x t : Nat) : rfI (sI I i s v) x t = rfI I x t := by unfold rfI; rw [(kd_sI I i s v x).2.2]
theorem rf_sN {I : List Mk} {k n x t : Nat} (h : x < I.length) : rfI (sN I k n) x t = rfI I x t := by unfold rfI; rw [kd_sN h]
def bigI (I : List Mk) (i : Nat) : List Mk := sI (sI (sR (sN I 12 12) i 0 I.length) i 1 0) i 2 0
def tickI (I : List Mk) (i : Nat) : List Mk := sI (sR (sN I 13 40) i 0 I.length) i 1 0
def talI (I : List Mk) (i : Nat) : List Mk := sI (sR (sN I 12 12) i 0 I.length) i 1 0
def sheI (I : List Mk) (i : Nat) : List Mk := sI (sR (sN I 10 256) i 0 I.length) i 1 256
theorem len_bigI (I : List Mk) (i : Nat) : (bigI I i).length = I.length + 1 := by unfold bigI; rw [len_sI, len_sI, len_sR, len_sN]
theorem kd_bigI {I : List Mk} {i x : Nat} (h : x < I.length) : (gk (bigI I i) x).1 = (gk I x).1 ∧ (gk (bigI I i) x).2.1 = (gk I x).2.1 := by
  unfold bigI
  rw [(kd_sI _ _ _ _ _).1, (kd_sI _ _ _ _ _).1, (kd_sR _ _ _ _ _).1, (kd_sI _ _ _ _ _).2.1, (kd_sI _ _ _ _ _).2.1, (kd_sR _ _ _ _ _).2, kd_sN h]
  exact ⟨rfl, rfl⟩
theorem rf_bigI {I : List Mk} {i x t : Nat} (h : x < I.length) (hx : x ≠ i) : rfI (bigI I i) x t = rfI I x t := by
  unfold bigI
  rw [rf_sI, rf_sI, rf_sR hx, rf_sN h]
/-- Bigs are put into an array, one by one -/
def stepB (jc k : Nat) (J : List Mk) : List Mk := sR (bigI (sN J 0 0) J.length) jc k J.length
def bigsI (jc : Nat) (I : List Mk) : Nat → List Mk
  | 0 => I
  | k + 1 => stepB jc k (bigsI jc I k)
theorem bigs_len (jc : Nat) (I : List Mk) : ∀ k, (bigsI jc I k).length = I.length + 2 * k
  | 0 => rfl
  | k + 1 => by
    show (stepB jc k (bigsI jc I k)).length = _
    unfold stepB
    rw [len_sR, len_bigI, len_sN, bigs_len jc I k]
    omega
theorem bigs_kd {jc : Nat} {I : List Mk} {x : Nat} (h : x < I.length) : ∀ k, (gk (bigsI jc I k) x).1 = (gk I x).1 ∧ (gk (bigsI jc I k) x).2.1 = (gk I x).2.1
  | 0 => ⟨rfl, rfl⟩
  | k + 1 => by
    have hl := bigs_len jc I k
    show (gk (stepB jc k (bigsI jc I k)) x).1 = _ ∧ (gk (stepB jc k (bigsI jc I k)) x).2.1 = _
    unfold stepB
    rw [(kd_sR _ _ _ _ _).1, (kd_sR _ _ _ _ _).2, (kd_bigI (by rw [len_sN]; omega)).1, (kd_bigI (by rw [len_sN]; omega)).2, kd_sN (by omega)]
    exact bigs_kd h k
theorem bigs_rf {jc : Nat} {I : List Mk} {x t : Nat} (h : x < I.length) (hx : x ≠ jc) : ∀ k, rfI (bigsI jc I k) x t = rfI I x t
  | 0 => rfl
  | k + 1 => by
    have hl := bigs_len jc I k
    show rfI (stepB jc k (bigsI jc I k)) x t = _
    unfold stepB
    rw [rf_sR hx, rf_bigI (by rw [len_sN]; omega) (by omega), rf_sN (by omega)]
    exact bigs_rf h hx k
theorem mi_0 : MI yX0_init cX0_init 1 0 := ⟨k_40, k_3, k_41, rfl, by decide +kernel⟩
theorem mi_7 : MI yX7_init cX7_init 1 0 := ⟨k_68, k_5, k_69, rfl, by decide +kernel⟩
theorem mi_6 : MI yX6_init cX6_init 1 0 := ⟨k_125, k_6, k_126, rfl, by decide +kernel⟩
theorem mi_4 : MI yX4_init cX4_init 1 0 := ⟨k_26, k_2, k_27, rfl, by decide +kernel⟩
theorem nc_0 : Cond.methodLinkNest RX8 (17) yX4_init RX8 ∈ nwC := List.mem_of_getElem? (i := 0) rfl
theorem nc_1 : Cond.methodLinkNest RX8 (24) yX0_init RX8 ∈ nwC := List.mem_of_getElem? (i := 1) rfl
theorem nc_2 : Cond.methodLinkNest RX3 (17) yX7_init RX8 ∈ nwC := List.mem_of_getElem? (i := 2) rfl
theorem nc_3 : Cond.methodLinkNest RX8 (42) yX6_init RX8 ∈ nwC := List.mem_of_getElem? (i := 3) rfl
theorem nc_4 : Cond.methodLinkNest RX2 (38) yX0_init RX8 ∈ nwC := List.mem_of_getElem? (i := 4) rfl
theorem nc_5 : Cond.methodLinkNest RX5 (19) yX7_init RX8 ∈ nwC := List.mem_of_getElem? (i := 5) rfl
theorem nc_6 : Cond.methodLinkNest RX5 (24) yX0_init RX8 ∈ nwC := List.mem_of_getElem? (i := 6) rfl
theorem nc_7 : Cond.methodLinkNest RX1 (11) yX0_init RX8 ∈ nwC := List.mem_of_getElem? (i := 7) rfl
set_option maxRecDepth 100000 in
set_option maxHeartbeats 4000000 in
theorem big_c (l : Launch) {G : Shp} {D : Dat} {I : List Mk} (hE : Em G D I) {i a : Nat} (hf : i < I.length ∧ (gk I i).1 = 0) (ea : aG G i = a) : CtC l yX0_init cX0_init 1 (rmC 1 1 12) [.ref a] G D (fun G' D' => Em G' D' (bigI I i) ∧ ∀ j, j < I.length → aG G' j = aG G j) := by
  refine ctC_of (by decide) rfl rfl (Nat.le_of_ble_eq_true rfl) ?_
  intro κ hκ C Cw Ck K
  subst hκ
  have C : Cx κ cX0_init RX0 (rmC 1 1 12) 1 := C
  refine j_aload_n C dX0_init_0 rfl 0 rfl ?_
  refine j_obj C k_42 k_19 k_20 dX0_init_1 ⟨Nat.le_of_ble_eq_true rfl, Nat.le_of_ble_eq_true rfl⟩ ?_
  refine j_aload_n C dX0_init_4 rfl 0 rfl ?_
  refine j_bipush (v := 12) C dX0_init_5 (by decide) ?_
  refine ea_j C hE (N' := 12) (by decide) (by decide) (by decide) ⟨Nat.le_of_ble_eq_true rfl, Nat.le_of_ble_eq_true rfl⟩ dX0_init_7 (fun G1 D1 q hE1 x1 eq => ?_)
  have ea1 := (x1 i hf.1).trans ea
  refine pr_0_0 C Ck rfl hE1 (i := i) (j := I.length) ⟨by rw [len_sN]; have := hf.1; omega, by rw [kd_sN hf.1]; exact hf.2, by rw [len_sN]; omega⟩ ea1 eq k_43 dX0_init_9 (fun G2 hE2 x2 => ?_)
  have ea2 := (x2 i).trans ea1
  refine j_aload_n C dX0_init_12 rfl 0 rfl ?_
  refine j_iconst (v := 0) C dX0_init_13 (by decide) ?_
  refine pi_0_1 C hE2 (i := i) (v := 0) ⟨by rw [len_sR, len_sN]; have := hf.1; omega, by rw [(kd_sR _ _ _ _ _).1, kd_sN hf.1]; exact hf.2⟩ ea2 (by decide) k_45 dX0_init_14 (fun D3 hE3 => ?_)
  refine j_aload_n C dX0_init_17 rfl 0 rfl ?_
  refine j_iconst (v := 0) C dX0_init_18 (by decide) ?_
  refine pi_0_2 C hE3 (i := i) (v := 0) (Or.inl rfl) ⟨by rw [len_sI, len_sR, len_sN]; have := hf.1; omega, by rw [(kd_sI _ _ _ _ _).1, (kd_sR _ _ _ _ _).1, kd_sN hf.1]; exact hf.2⟩ ea2 (by decide) k_47 dX0_init_19 (fun D4 hE4 => ?_)
  exact K _ _ _ _ _ _ (Nat.le_of_ble_eq_true rfl) (Nat.le_of_ble_eq_true rfl) dX0_init_22 ⟨hE4, fun j hj => (x2 j).trans (x1 j hj)⟩
set_option maxRecDepth 100000 in
set_option maxHeartbeats 4000000 in
theorem tick_c (l : Launch) {G : Shp} {D : Dat} {I : List Mk} (hE : Em G D I) {i a : Nat} (hf : i < I.length ∧ (gk I i).1 = 7) (ea : aG G i = a) : CtC l yX7_init cX7_init 1 (rmC 1 1 40) [.ref a] G D (fun G' D' => Em G' D' (tickI I i) ∧ ∀ j, j < I.length → aG G' j = aG G j) := by
  refine ctC_of (by decide) rfl rfl (Nat.le_of_ble_eq_true rfl) ?_
  intro κ hκ C Cw Ck K
  subst hκ
  have C : Cx κ cX7_init RX7 (rmC 1 1 40) 1 := C
  refine j_aload_n C dX7_init_0 rfl 0 rfl ?_
  refine j_obj C k_70 k_19 k_20 dX7_init_1 ⟨Nat.le_of_ble_eq_true rfl, Nat.le_of_ble_eq_true rfl⟩ ?_
  refine j_aload_n C dX7_init_4 rfl 0 rfl ?_
  refine j_bipush (v := 40) C dX7_init_5 (by decide) ?_
  refine ea_z C hE (N' := 40) (by decide) (by decide) (by decide) ⟨Nat.le_of_ble_eq_true rfl, Nat.le_of_ble_eq_true rfl⟩ dX7_init_7 (fun G1 D1 q hE1 x1 eq => ?_)
  have ea1 := (x1 i hf.1).trans ea
  refine pr_7_0 C Ck rfl hE1 (i := i) (j := I.length) ⟨by rw [len_sN]; have := hf.1; omega, by rw [kd_sN hf.1]; exact hf.2, by rw [len_sN]; omega⟩ ea1 eq k_71 dX7_init_9 (fun G2 hE2 x2 => ?_)
  have ea2 := (x2 i).trans ea1
  refine j_aload_n C dX7_init_12 rfl 0 rfl ?_
  refine j_iconst (v := 0) C dX7_init_13 (by decide) ?_
  refine pi_7_1 C hE2 (i := i) (v := 0) ⟨by rw [len_sR, len_sN]; have := hf.1; omega, by rw [(kd_sR _ _ _ _ _).1, kd_sN hf.1]; exact hf.2⟩ ea2 (by decide) k_72 dX7_init_14 (fun D3 hE3 => ?_)
  exact K _ _ _ _ _ _ (Nat.le_of_ble_eq_true rfl) (Nat.le_of_ble_eq_true rfl) dX7_init_17 ⟨hE3, fun j hj => (x2 j).trans (x1 j hj)⟩
set_option maxRecDepth 100000 in
set_option maxHeartbeats 4000000 in
theorem tal_c (l : Launch) {G : Shp} {D : Dat} {I : List Mk} (hE : Em G D I) {i a : Nat} (hf : i < I.length ∧ (gk I i).1 = 6) (ea : aG G i = a) : CtC l yX6_init cX6_init 1 (rmC 1 1 12) [.ref a] G D (fun G' D' => Em G' D' (talI I i) ∧ ∀ j, j < I.length → aG G' j = aG G j) := by
  refine ctC_of (by decide) rfl rfl (Nat.le_of_ble_eq_true rfl) ?_
  intro κ hκ C Cw Ck K
  subst hκ
  have C : Cx κ cX6_init RX6 (rmC 1 1 12) 1 := C
  refine j_aload_n C dX6_init_0 rfl 0 rfl ?_
  refine j_obj C k_127 k_19 k_20 dX6_init_1 ⟨Nat.le_of_ble_eq_true rfl, Nat.le_of_ble_eq_true rfl⟩ ?_
  refine j_aload_n C dX6_init_4 rfl 0 rfl ?_
  refine j_bipush (v := 12) C dX6_init_5 (by decide) ?_
  refine ea_j C hE (N' := 12) (by decide) (by decide) (by decide) ⟨Nat.le_of_ble_eq_true rfl, Nat.le_of_ble_eq_true rfl⟩ dX6_init_7 (fun G1 D1 q hE1 x1 eq => ?_)
  have ea1 := (x1 i hf.1).trans ea
  refine pr_6_0 C Ck rfl hE1 (i := i) (j := I.length) ⟨by rw [len_sN]; have := hf.1; omega, by rw [kd_sN hf.1]; exact hf.2, by rw [len_sN]; omega⟩ ea1 eq k_128 dX6_init_9 (fun G2 hE2 x2 => ?_)
  have ea2 := (x2 i).trans ea1
  refine j_aload_n C dX6_init_12 rfl 0 rfl ?_
  refine j_iconst (v := 0) C dX6_init_13 (by decide) ?_
  refine pi_6_1 C hE2 (i := i) (v := 0) ⟨by rw [len_sR, len_sN]; have := hf.1; omega, by rw [(kd_sR _ _ _ _ _).1, kd_sN hf.1]; exact hf.2⟩ ea2 (by decide) k_129 dX6_init_14 (fun D3 hE3 => ?_)
  exact K _ _ _ _ _ _ (Nat.le_of_ble_eq_true rfl) (Nat.le_of_ble_eq_true rfl) dX6_init_17 ⟨hE3, fun j hj => (x2 j).trans (x1 j hj)⟩
set_option maxRecDepth 100000 in
set_option maxHeartbeats 4000000 in
theorem she_c (l : Launch) {G : Shp} {D : Dat} {I : List Mk} (hE : Em G D I) {i a : Nat} (hf : i < I.length ∧ (gk I i).1 = 4) (ea : aG G i = a) : CtC l yX4_init cX4_init 1 (rmC 1 1 256) [.ref a] G D (fun G' D' => Em G' D' (sheI I i) ∧ ∀ j, j < I.length → aG G' j = aG G j) := by
  refine ctC_of (by decide) rfl rfl (Nat.le_of_ble_eq_true rfl) ?_
  intro κ hκ C Cw Ck K
  subst hκ
  have C : Cx κ cX4_init RX4 (rmC 1 1 256) 1 := C
  refine j_aload_n C dX4_init_0 rfl 0 rfl ?_
  refine j_obj C k_28 k_19 k_20 dX4_init_1 ⟨Nat.le_of_ble_eq_true rfl, Nat.le_of_ble_eq_true rfl⟩ ?_
  refine j_aload_n C dX4_init_4 rfl 0 rfl ?_
  refine j_sipush (v := 256) C dX4_init_5 (by decide) ?_
  refine ea_b C hE (N' := 256) (by decide) (by decide) (by decide) ⟨Nat.le_of_ble_eq_true rfl, Nat.le_of_ble_eq_true rfl⟩ dX4_init_8 (fun G1 D1 q hE1 x1 eq => ?_)
  have ea1 := (x1 i hf.1).trans ea
  refine pr_4_0 C Ck rfl hE1 (i := i) (j := I.length) ⟨by rw [len_sN]; have := hf.1; omega, by rw [kd_sN hf.1]; exact hf.2, by rw [len_sN]; omega⟩ ea1 eq k_29 dX4_init_10 (fun G2 hE2 x2 => ?_)
  have ea2 := (x2 i).trans ea1
  refine j_aload_n C dX4_init_13 rfl 0 rfl ?_
  refine j_sipush (v := 256) C dX4_init_14 (by decide) ?_
  refine pi_4_1 C hE2 (i := i) (v := 256) ⟨by rw [len_sR, len_sN]; have := hf.1; omega, by rw [(kd_sR _ _ _ _ _).1, kd_sN hf.1]; exact hf.2⟩ ea2 (by decide) k_30 dX4_init_17 (fun D3 hE3 => ?_)
  exact K _ _ _ _ _ _ (Nat.le_of_ble_eq_true rfl) (Nat.le_of_ble_eq_true rfl) dX4_init_20 ⟨hE3, fun j hj => (x2 j).trans (x1 j hj)⟩
