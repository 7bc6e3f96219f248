/-! the larger constructors -/
theorem mi_3 : MI yX3_init cX3_init 2 0 := ⟨k_62, k_4, k_63, rfl, by decide +kernel⟩
theorem mi_2 : MI yX2_init cX2_init 3 1 := ⟨k_138, k_7, k_139, rfl, by decide +kernel⟩
theorem mi_5 : MI yX5_init cX5_init 4 2 := ⟨k_196, k_8, k_197, rfl, by decide +kernel⟩
theorem mi_1 : MI yX1_init cX1_init 2 1 := ⟨k_225, k_9, k_226, rfl, by decide +kernel⟩
theorem mi_8 : MI yX8_init cX8_init 2 0 := ⟨k_16, k_1, k_17, rfl, by decide +kernel⟩
theorem mi_9 : MI yX9_init cX9_init 1 0 := ⟨k_760, k_10, k_761, rfl, by decide +kernel⟩
def row_0_e : List Mk := [(8, 0, [(7, 8), (6, 6), (5, 4), (4, 2), (0, 1)], [(8, 0)]), (15, 4, [], []), (4, 0, [(0, 3)], [(1, 256)]), (10, 256, [], []), (0, 0, [(0, 5)], [(2, 0), (1, 0)]), (12, 12, [], []), (0, 0, [(0, 7)], [(2, 0), (1, 0)]), (12, 12, [], []), (0, 0, [(0, 9)], [(2, 0), (1, 0)]), (12, 12, [], []), (3, 0, [], [])]
def row_0_f : List Mk := [(8, 0, [(7, 8), (6, 6), (5, 4), (4, 2), (0, 1)], [(8, 0)]), (15, 4, [], []), (4, 0, [(0, 3)], [(1, 256)]), (10, 256, [], []), (0, 0, [(0, 5)], [(2, 0), (1, 0)]), (12, 12, [], []), (0, 0, [(0, 7)], [(2, 0), (1, 0)]), (12, 12, [], []), (0, 0, [(0, 9)], [(2, 0), (1, 0)]), (12, 12, [], []), (3, 0, [(4, 18), (3, 16), (2, 14), (1, 12), (0, 11)], [(7, 0), (6, 0), (5, 0)]), (11, 40, [], []), (7, 0, [(0, 13)], [(1, 0)]), (13, 40, [], []), (7, 0, [(0, 15)], [(1, 0)]), (13, 40, [], []), (7, 0, [(0, 17)], [(1, 0)]), (13, 40, [], []), (16, 2, [(1, 21), (0, 19)], []), (7, 0, [(0, 20)], [(1, 0)]), (13, 40, [], []), (7, 0, [(0, 22)], [(1, 0)]), (13, 40, [], [])]
set_option maxRecDepth 100000 in
set_option maxHeartbeats 40000000 in
theorem row_0 (l : Launch) {G : Shp} {D : Dat} (hE : Em G D row_0_e) {a : Nat} (ea : aG G 10 = a) : CtC l yX3_init cX3_init 2 (rmC 2 12 252) [.ref a] G D (fun G' D' => Em G' D' row_0_f ∧ ∀ j, j < 11 → aG G' j = aG G j) := by
  refine ctC_of (by decide) rfl rfl (Nat.le_of_ble_eq_true rfl) ?_
  intro κ hκ C Cw Ck K
  subst hκ
  have C : Cx κ cX3_init RX3 (rmC 2 12 252) 2 := C
  refine j_aload_n C dX3_init_0 rfl 0 rfl ?_
  refine j_obj C k_64 k_19 k_20 dX3_init_1 ⟨Nat.le_of_ble_eq_true rfl, Nat.le_of_ble_eq_true rfl⟩ ?_
  refine j_aload_n C dX3_init_4 rfl 0 rfl ?_
  refine j_bipush (v := 40) C dX3_init_5 (by decide) ?_
  refine ea_i C hE (N' := 40) (by decide) (by decide) (by decide) ⟨Nat.le_of_ble_eq_true rfl, Nat.le_of_ble_eq_true rfl⟩ dX3_init_7 (fun G1 D1 q1 hE1 x1 eq1_1 => ?_)
  have hx1 : ∀ j, j < 11 → aG G1 j = aG G j := fun j hj => x1 j (Nat.lt_of_lt_of_le hj (by decide +kernel))
  refine pr_3_0 C Ck rfl hE1 (i := 10) (j := 11) (by decide +kernel) ((hx1 10 (by decide)).trans ea) eq1_1 k_83 dX3_init_9 (fun G2 hE2 x2 => ?_)
  have hx2 : ∀ j, j < 11 → aG G2 j = aG G j := fun j hj => (x2 j).trans (hx1 j hj)
  refine j_aload_n C dX3_init_12 rfl 0 rfl ?_
  refine en_7 C hE2 k_65 ⟨Nat.le_of_ble_eq_true rfl, Nat.le_of_ble_eq_true rfl⟩ dX3_init_13 (fun G3 D3 q2 hE3 x3 eq2_3 => ?_)
  have hx3 : ∀ j, j < 11 → aG G3 j = aG G j := fun j hj => (x3 j (Nat.lt_of_lt_of_le hj (by decide +kernel))).trans (hx2 j hj)
  refine j_dup C dX3_init_16 rfl ?_
  refine j_cIN C Cw (tick_c _ hE3 (i := 12) (by decide +kernel) eq2_3) nc_2 mi_7 ⟨Nat.le_of_ble_eq_true rfl, Nat.le_of_ble_eq_true rfl⟩ ⟨Nat.le_of_ble_eq_true rfl, Nat.le_of_ble_eq_true rfl⟩ rfl rfl (Nat.le_of_ble_eq_true rfl) dX3_init_17 (fun G4 D4 hp => ?_)
  obtain ⟨hE4, x4⟩ := hp
  have hx4 : ∀ j, j < 11 → aG G4 j = aG G j := fun j hj => (x4 j (Nat.lt_of_lt_of_le hj (by decide +kernel))).trans (hx3 j hj)
  have eq2_4 := (x4 12 (by decide +kernel)).trans eq2_3
  refine pr_3_1 C Ck rfl hE4 (i := 10) (j := 12) (by decide +kernel) ((hx4 10 (by decide)).trans ea) eq2_4 k_86 dX3_init_20 (fun G5 hE5 x5 => ?_)
  have hx5 : ∀ j, j < 11 → aG G5 j = aG G j := fun j hj => (x5 j).trans (hx4 j hj)
  refine j_aload_n C dX3_init_23 rfl 0 rfl ?_
  refine en_7 C hE5 k_65 ⟨Nat.le_of_ble_eq_true rfl, Nat.le_of_ble_eq_true rfl⟩ dX3_init_24 (fun G6 D6 q3 hE6 x6 eq3_6 => ?_)
  have hx6 : ∀ j, j < 11 → aG G6 j = aG G j := fun j hj => (x6 j (Nat.lt_of_lt_of_le hj (by decide +kernel))).trans (hx5 j hj)
  refine j_dup C dX3_init_27 rfl ?_
  refine j_cIN C Cw (tick_c _ hE6 (i := 14) (by decide +kernel) eq3_6) nc_2 mi_7 ⟨Nat.le_of_ble_eq_true rfl, Nat.le_of_ble_eq_true rfl⟩ ⟨Nat.le_of_ble_eq_true rfl, Nat.le_of_ble_eq_true rfl⟩ rfl rfl (Nat.le_of_ble_eq_true rfl) dX3_init_28 (fun G7 D7 hp => ?_)
  obtain ⟨hE7, x7⟩ := hp
  have hx7 : ∀ j, j < 11 → aG G7 j = aG G j := fun j hj => (x7 j (Nat.lt_of_lt_of_le hj (by decide +kernel))).trans (hx6 j hj)
  have eq3_7 := (x7 14 (by decide +kernel)).trans eq3_6
  refine pr_3_2 C Ck rfl hE7 (i := 10) (j := 14) (by decide +kernel) ((hx7 10 (by decide)).trans ea) eq3_7 k_88 dX3_init_31 (fun G8 hE8 x8 => ?_)
  have hx8 : ∀ j, j < 11 → aG G8 j = aG G j := fun j hj => (x8 j).trans (hx7 j hj)
  refine j_aload_n C dX3_init_34 rfl 0 rfl ?_
  refine en_7 C hE8 k_65 ⟨Nat.le_of_ble_eq_true rfl, Nat.le_of_ble_eq_true rfl⟩ dX3_init_35 (fun G9 D9 q4 hE9 x9 eq4_9 => ?_)
  have hx9 : ∀ j, j < 11 → aG G9 j = aG G j := fun j hj => (x9 j (Nat.lt_of_lt_of_le hj (by decide +kernel))).trans (hx8 j hj)
  refine j_dup C dX3_init_38 rfl ?_
  refine j_cIN C Cw (tick_c _ hE9 (i := 16) (by decide +kernel) eq4_9) nc_2 mi_7 ⟨Nat.le_of_ble_eq_true rfl, Nat.le_of_ble_eq_true rfl⟩ ⟨Nat.le_of_ble_eq_true rfl, Nat.le_of_ble_eq_true rfl⟩ rfl rfl (Nat.le_of_ble_eq_true rfl) dX3_init_39 (fun G10 D10 hp => ?_)
  obtain ⟨hE10, x10⟩ := hp
  have hx10 : ∀ j, j < 11 → aG G10 j = aG G j := fun j hj => (x10 j (Nat.lt_of_lt_of_le hj (by decide +kernel))).trans (hx9 j hj)
  have eq4_10 := (x10 16 (by decide +kernel)).trans eq4_9
  refine pr_3_3 C Ck rfl hE10 (i := 10) (j := 16) (by decide +kernel) ((hx10 10 (by decide)).trans ea) eq4_10 k_91 dX3_init_42 (fun G11 hE11 x11 => ?_)
  have hx11 : ∀ j, j < 11 → aG G11 j = aG G j := fun j hj => (x11 j).trans (hx10 j hj)
  refine j_aload_n C dX3_init_45 rfl 0 rfl ?_
  refine j_iconst (v := 2) C dX3_init_46 (by decide) ?_
  refine eq_16 C Cw hE11 k_65 (N' := 2) (by decide) (by decide) (by decide) ⟨Nat.le_of_ble_eq_true rfl, Nat.le_of_ble_eq_true rfl⟩ dX3_init_47 (fun G12 D12 q5 hE12 x12 eq5_12 => ?_)
  have hx12 : ∀ j, j < 11 → aG G12 j = aG G j := fun j hj => (x12 j (Nat.lt_of_lt_of_le hj (by decide +kernel))).trans (hx11 j hj)
  refine pr_3_4 C Ck rfl hE12 (i := 10) (j := 18) (by decide +kernel) ((hx12 10 (by decide)).trans ea) eq5_12 k_94 dX3_init_50 (fun G13 hE13 x13 => ?_)
  have hx13 : ∀ j, j < 11 → aG G13 j = aG G j := fun j hj => (x13 j).trans (hx12 j hj)
  refine j_aload_n C dX3_init_53 rfl 0 rfl ?_
  refine j_iconst (v := 0) C dX3_init_54 (by decide) ?_
  refine pi_3_5 C hE13 (i := 10) (v := 0) (by decide +kernel) ((hx13 10 (by decide)).trans ea) (by decide) k_97 dX3_init_55 (fun D14 hE14 => ?_)
  refine j_aload_n C dX3_init_58 rfl 0 rfl ?_
  refine j_iconst (v := 0) C dX3_init_59 (by decide) ?_
  refine pi_3_6 C hE14 (i := 10) (v := 0) (Or.inl rfl) (by decide +kernel) ((hx13 10 (by decide)).trans ea) (by decide) k_99 dX3_init_60 (fun D15 hE15 => ?_)
  refine j_aload_n C dX3_init_63 rfl 0 rfl ?_
  refine j_iconst (v := 0) C dX3_init_64 (by decide) ?_
  refine pi_3_7 C hE15 (i := 10) (v := 0) (by decide +kernel) ((hx13 10 (by decide)).trans ea) (by decide) k_102 dX3_init_65 (fun D16 hE16 => ?_)
  refine j_iconst (v := 0) C dX3_init_68 (by decide) ?_
  refine j_istore_n C dX3_init_69 rfl (by decide) rfl ?_
  refine j_iload_n C dX3_init_70 rfl 0 rfl ?_
  refine j_iconst (v := 2) C dX3_init_71 (by decide) ?_
  refine j_icmp_ge (tgt := 94) C dX3_init_72 (by decide) (fun hc => absurd hc (by decide)) (fun _ => ?_)
  refine j_aload_n C dX3_init_75 rfl 1 rfl ?_
  obtain ⟨q6, eq6_16⟩ : ∃ y, aG G13 18 = y := ⟨_, rfl⟩
  refine gf_3_4 C (hE16.o (j := 10) (by decide +kernel) (by decide +kernel) ((hx13 10 (by decide)).trans ea)) (hE16.r (j := 10) (x := 18) (by decide +kernel) (by decide +kernel) ((hx13 10 (by decide)).trans ea) eq6_16) k_94 dX3_init_76 ?_
  refine j_iload_n C dX3_init_79 rfl 0 rfl ?_
  refine en_7 C hE16 k_65 ⟨Nat.le_of_ble_eq_true rfl, Nat.le_of_ble_eq_true rfl⟩ dX3_init_80 (fun G17 D17 q7 hE17 x17 eq7_17 => ?_)
  have hx17 : ∀ j, j < 11 → aG G17 j = aG G j := fun j hj => (x17 j (Nat.lt_of_lt_of_le hj (by decide +kernel))).trans (hx13 j hj)
  have eq6_17 := (x17 18 (by decide +kernel)).trans eq6_16
  refine j_dup C dX3_init_83 rfl ?_
  refine j_cIN C Cw (tick_c _ hE17 (i := 19) (by decide +kernel) eq7_17) nc_2 mi_7 ⟨Nat.le_of_ble_eq_true rfl, Nat.le_of_ble_eq_true rfl⟩ ⟨Nat.le_of_ble_eq_true rfl, Nat.le_of_ble_eq_true rfl⟩ rfl rfl (Nat.le_of_ble_eq_true rfl) dX3_init_84 (fun G18 D18 hp => ?_)
  obtain ⟨hE18, x18⟩ := hp
  have hx18 : ∀ j, j < 11 → aG G18 j = aG G j := fun j hj => (x18 j (Nat.lt_of_lt_of_le hj (by decide +kernel))).trans (hx17 j hj)
  have eq6_18 := (x18 18 (by decide +kernel)).trans eq6_17
  have eq7_18 := (x18 19 (by decide +kernel)).trans eq7_17
  refine es_16 C hE18 (i := 18) (j := 19) (t := 0) (by decide) (by decide +kernel) eq6_18 eq7_18 dX3_init_87 (fun G19 hE19 x19 => ?_)
  have hx19 : ∀ j, j < 11 → aG G19 j = aG G j := fun j hj => (x19 j).trans (hx18 j hj)
  refine j_iinc (v := 1) C dX3_init_88 0 rfl (by decide) (by decide) rfl ?_
  refine j_goto (tgt := 70) C dX3_init_91 (by decide) ?_
  refine j_iload_n C dX3_init_70 rfl 0 rfl ?_
  refine j_iconst (v := 2) C dX3_init_71 (by decide) ?_
  refine j_icmp_ge (tgt := 94) C dX3_init_72 (by decide) (fun hc => absurd hc (by decide)) (fun _ => ?_)
  refine j_aload_n C dX3_init_75 rfl 1 rfl ?_
  obtain ⟨q8, eq8_19⟩ : ∃ y, aG G19 18 = y := ⟨_, rfl⟩
  refine gf_3_4 C (hE19.o (j := 10) (by decide +kernel) (by decide +kernel) ((hx19 10 (by decide)).trans ea)) (hE19.r (j := 10) (x := 18) (by decide +kernel) (by decide +kernel) ((hx19 10 (by decide)).trans ea) eq8_19) k_94 dX3_init_76 ?_
  refine j_iload_n C dX3_init_79 rfl 0 rfl ?_
  refine en_7 C hE19 k_65 ⟨Nat.le_of_ble_eq_true rfl, Nat.le_of_ble_eq_true rfl⟩ dX3_init_80 (fun G20 D20 q9 hE20 x20 eq9_20 => ?_)
  have hx20 : ∀ j, j < 11 → aG G20 j = aG G j := fun j hj => (x20 j (Nat.lt_of_lt_of_le hj (by decide +kernel))).trans (hx19 j hj)
  have eq8_20 := (x20 18 (by decide +kernel)).trans eq8_19
  refine j_dup C dX3_init_83 rfl ?_
  refine j_cIN C Cw (tick_c _ hE20 (i := 21) (by decide +kernel) eq9_20) nc_2 mi_7 ⟨Nat.le_of_ble_eq_true rfl, Nat.le_of_ble_eq_true rfl⟩ ⟨Nat.le_of_ble_eq_true rfl, Nat.le_of_ble_eq_true rfl⟩ rfl rfl (Nat.le_of_ble_eq_true rfl) dX3_init_84 (fun G21 D21 hp => ?_)
  obtain ⟨hE21, x21⟩ := hp
  have hx21 : ∀ j, j < 11 → aG G21 j = aG G j := fun j hj => (x21 j (Nat.lt_of_lt_of_le hj (by decide +kernel))).trans (hx20 j hj)
  have eq8_21 := (x21 18 (by decide +kernel)).trans eq8_20
  have eq9_21 := (x21 21 (by decide +kernel)).trans eq9_20
  refine es_16 C hE21 (i := 18) (j := 21) (t := 1) (by decide) (by decide +kernel) eq8_21 eq9_21 dX3_init_87 (fun G22 hE22 x22 => ?_)
  have hx22 : ∀ j, j < 11 → aG G22 j = aG G j := fun j hj => (x22 j).trans (hx21 j hj)
  refine j_iinc (v := 2) C dX3_init_88 0 rfl (by decide) (by decide) rfl ?_
  refine j_goto (tgt := 70) C dX3_init_91 (by decide) ?_
  refine j_iload_n C dX3_init_70 rfl 0 rfl ?_
  refine j_iconst (v := 2) C dX3_init_71 (by decide) ?_
  refine j_icmp_ge (tgt := 94) C dX3_init_72 (by decide) (fun _ => ?_) (fun hc => absurd (by decide) hc)
  exact K _ _ _ _ _ _ (Nat.le_of_ble_eq_true rfl) (Nat.le_of_ble_eq_true rfl) dX3_init_94 ⟨hE22.cast (by decide +kernel), hx22⟩
def row_1_e : List Mk := [(8, 0, [(7, 8), (6, 6), (5, 4), (4, 2), (0, 1)], [(8, 0)]), (15, 4, [(0, 10)], []), (4, 0, [(0, 3)], [(1, 256)]), (10, 256, [], []), (0, 0, [(0, 5)], [(2, 0), (1, 0)]), (12, 12, [], []), (0, 0, [(0, 7)], [(2, 0), (1, 0)]), (12, 12, [], []), (0, 0, [(0, 9)], [(2, 0), (1, 0)]), (12, 12, [], []), (3, 0, [(4, 18), (3, 16), (2, 14), (1, 12), (0, 11)], [(7, 0), (6, 0), (5, 0)]), (11, 40, [], []), (7, 0, [(0, 13)], [(1, 0)]), (13, 40, [], []), (7, 0, [(0, 15)], [(1, 0)]), (13, 40, [], []), (7, 0, [(0, 17)], [(1, 0)]), (13, 40, [], []), (16, 2, [(1, 21), (0, 19)], []), (7, 0, [(0, 20)], [(1, 0)]), (13, 40, [], []), (7, 0, [(0, 22)], [(1, 0)]), (13, 40, [], []), (3, 0, [], [])]
def row_1_f : List Mk := [(8, 0, [(7, 8), (6, 6), (5, 4), (4, 2), (0, 1)], [(8, 0)]), (15, 4, [(0, 10)], []), (4, 0, [(0, 3)], [(1, 256)]), (10, 256, [], []), (0, 0, [(0, 5)], [(2, 0), (1, 0)]), (12, 12, [], []), (0, 0, [(0, 7)], [(2, 0), (1, 0)]), (12, 12, [], []), (0, 0, [(0, 9)], [(2, 0), (1, 0)]), (12, 12, [], []), (3, 0, [(4, 18), (3, 16), (2, 14), (1, 12), (0, 11)], [(7, 0), (6, 0), (5, 0)]), (11, 40, [], []), (7, 0, [(0, 13)], [(1, 0)]), (13, 40, [], []), (7, 0, [(0, 15)], [(1, 0)]), (13, 40, [], []), (7, 0, [(0, 17)], [(1, 0)]), (13, 40, [], []), (16, 2, [(1, 21), (0, 19)], []), (7, 0, [(0, 20)], [(1, 0)]), (13, 40, [], []), (7, 0, [(0, 22)], [(1, 0)]), (13, 40, [], []), (3, 0, [(4, 31), (3, 29), (2, 27), (1, 25), (0, 24)], [(7, 0), (6, 0), (5, 0)]), (11, 40, [], []), (7, 0, [(0, 26)], [(1, 0)]), (13, 40, [], []), (7, 0, [(0, 28)], [(1, 0)]), (13, 40, [], []), (7, 0, [(0, 30)], [(1, 0)]), (13, 40, [], []), (16, 2, [(1, 34), (0, 32)], []), (7, 0, [(0, 33)], [(1, 0)]), (13, 40, [], []), (7, 0, [(0, 35)], [(1, 0)]), (13, 40, [], [])]
set_option maxRecDepth 100000 in
set_option maxHeartbeats 40000000 in
theorem row_1 (l : Launch) {G : Shp} {D : Dat} (hE : Em G D row_1_e) {a : Nat} (ea : aG G 23 = a) : CtC l yX3_init cX3_init 2 (rmC 2 12 252) [.ref a] G D (fun G' D' => Em G' D' row_1_f ∧ ∀ j, j < 24 → aG G' j = aG G j) := by
  refine ctC_of (by decide) rfl rfl (Nat.le_of_ble_eq_true rfl) ?_
  intro κ hκ C Cw Ck K
  subst hκ
  have C : Cx κ cX3_init RX3 (rmC 2 12 252) 2 := C
  refine j_aload_n C dX3_init_0 rfl 0 rfl ?_
  refine j_obj C k_64 k_19 k_20 dX3_init_1 ⟨Nat.le_of_ble_eq_true rfl, Nat.le_of_ble_eq_true rfl⟩ ?_
  refine j_aload_n C dX3_init_4 rfl 0 rfl ?_
  refine j_bipush (v := 40) C dX3_init_5 (by decide) ?_
  refine ea_i C hE (N' := 40) (by decide) (by decide) (by decide) ⟨Nat.le_of_ble_eq_true rfl, Nat.le_of_ble_eq_true rfl⟩ dX3_init_7 (fun G1 D1 q1 hE1 x1 eq1_1 => ?_)
  have hx1 : ∀ j, j < 24 → aG G1 j = aG G j := fun j hj => x1 j (Nat.lt_of_lt_of_le hj (by decide +kernel))
  refine pr_3_0 C Ck rfl hE1 (i := 23) (j := 24) (by decide +kernel) ((hx1 23 (by decide)).trans ea) eq1_1 k_83 dX3_init_9 (fun G2 hE2 x2 => ?_)
  have hx2 : ∀ j, j < 24 → aG G2 j = aG G j := fun j hj => (x2 j).trans (hx1 j hj)
  refine j_aload_n C dX3_init_12 rfl 0 rfl ?_
  refine en_7 C hE2 k_65 ⟨Nat.le_of_ble_eq_true rfl, Nat.le_of_ble_eq_true rfl⟩ dX3_init_13 (fun G3 D3 q2 hE3 x3 eq2_3 => ?_)
  have hx3 : ∀ j, j < 24 → aG G3 j = aG G j := fun j hj => (x3 j (Nat.lt_of_lt_of_le hj (by decide +kernel))).trans (hx2 j hj)
  refine j_dup C dX3_init_16 rfl ?_
  refine j_cIN C Cw (tick_c _ hE3 (i := 25) (by decide +kernel) eq2_3) nc_2 mi_7 ⟨Nat.le_of_ble_eq_true rfl, Nat.le_of_ble_eq_true rfl⟩ ⟨Nat.le_of_ble_eq_true rfl, Nat.le_of_ble_eq_true rfl⟩ rfl rfl (Nat.le_of_ble_eq_true rfl) dX3_init_17 (fun G4 D4 hp => ?_)
  obtain ⟨hE4, x4⟩ := hp
  have hx4 : ∀ j, j < 24 → aG G4 j = aG G j := fun j hj => (x4 j (Nat.lt_of_lt_of_le hj (by decide +kernel))).trans (hx3 j hj)
  have eq2_4 := (x4 25 (by decide +kernel)).trans eq2_3
  refine pr_3_1 C Ck rfl hE4 (i := 23) (j := 25) (by decide +kernel) ((hx4 23 (by decide)).trans ea) eq2_4 k_86 dX3_init_20 (fun G5 hE5 x5 => ?_)
  have hx5 : ∀ j, j < 24 → aG G5 j = aG G j := fun j hj => (x5 j).trans (hx4 j hj)
  refine j_aload_n C dX3_init_23 rfl 0 rfl ?_
  refine en_7 C hE5 k_65 ⟨Nat.le_of_ble_eq_true rfl, Nat.le_of_ble_eq_true rfl⟩ dX3_init_24 (fun G6 D6 q3 hE6 x6 eq3_6 => ?_)
  have hx6 : ∀ j, j < 24 → aG G6 j = aG G j := fun j hj => (x6 j (Nat.lt_of_lt_of_le hj (by decide +kernel))).trans (hx5 j hj)
  refine j_dup C dX3_init_27 rfl ?_
  refine j_cIN C Cw (tick_c _ hE6 (i := 27) (by decide +kernel) eq3_6) nc_2 mi_7 ⟨Nat.le_of_ble_eq_true rfl, Nat.le_of_ble_eq_true rfl⟩ ⟨Nat.le_of_ble_eq_true rfl, Nat.le_of_ble_eq_true rfl⟩ rfl rfl (Nat.le_of_ble_eq_true rfl) dX3_init_28 (fun G7 D7 hp => ?_)
  obtain ⟨hE7, x7⟩ := hp
  have hx7 : ∀ j, j < 24 → aG G7 j = aG G j := fun j hj => (x7 j (Nat.lt_of_lt_of_le hj (by decide +kernel))).trans (hx6 j hj)
  have eq3_7 := (x7 27 (by decide +kernel)).trans eq3_6
  refine pr_3_2 C Ck rfl hE7 (i := 23) (j := 27) (by decide +kernel) ((hx7 23 (by decide)).trans ea) eq3_7 k_88 dX3_init_31 (fun G8 hE8 x8 => ?_)
  have hx8 : ∀ j, j < 24 → aG G8 j = aG G j := fun j hj => (x8 j).trans (hx7 j hj)
  refine j_aload_n C dX3_init_34 rfl 0 rfl ?_
  refine en_7 C hE8 k_65 ⟨Nat.le_of_ble_eq_true rfl, Nat.le_of_ble_eq_true rfl⟩ dX3_init_35 (fun G9 D9 q4 hE9 x9 eq4_9 => ?_)
  have hx9 : ∀ j, j < 24 → aG G9 j = aG G j := fun j hj => (x9 j (Nat.lt_of_lt_of_le hj (by decide +kernel))).trans (hx8 j hj)
  refine j_dup C dX3_init_38 rfl ?_
  refine j_cIN C Cw (tick_c _ hE9 (i := 29) (by decide +kernel) eq4_9) nc_2 mi_7 ⟨Nat.le_of_ble_eq_true rfl, Nat.le_of_ble_eq_true rfl⟩ ⟨Nat.le_of_ble_eq_true rfl, Nat.le_of_ble_eq_true rfl⟩ rfl rfl (Nat.le_of_ble_eq_true rfl) dX3_init_39 (fun G10 D10 hp => ?_)
  obtain ⟨hE10, x10⟩ := hp
  have hx10 : ∀ j, j < 24 → aG G10 j = aG G j := fun j hj => (x10 j (Nat.lt_of_lt_of_le hj (by decide +kernel))).trans (hx9 j hj)
  have eq4_10 := (x10 29 (by decide +kernel)).trans eq4_9
  refine pr_3_3 C Ck rfl hE10 (i := 23) (j := 29) (by decide +kernel) ((hx10 23 (by decide)).trans ea) eq4_10 k_91 dX3_init_42 (fun G11 hE11 x11 => ?_)
  have hx11 : ∀ j, j < 24 → aG G11 j = aG G j := fun j hj => (x11 j).trans (hx10 j hj)
  refine j_aload_n C dX3_init_45 rfl 0 rfl ?_
  refine j_iconst (v := 2) C dX3_init_46 (by decide) ?_
  refine eq_16 C Cw hE11 k_65 (N' := 2) (by decide) (by decide) (by decide) ⟨Nat.le_of_ble_eq_true rfl, Nat.le_of_ble_eq_true rfl⟩ dX3_init_47 (fun G12 D12 q5 hE12 x12 eq5_12 => ?_)
  have hx12 : ∀ j, j < 24 → aG G12 j = aG G j := fun j hj => (x12 j (Nat.lt_of_lt_of_le hj (by decide +kernel))).trans (hx11 j hj)
  refine pr_3_4 C Ck rfl hE12 (i := 23) (j := 31) (by decide +kernel) ((hx12 23 (by decide)).trans ea) eq5_12 k_94 dX3_init_50 (fun G13 hE13 x13 => ?_)
  have hx13 : ∀ j, j < 24 → aG G13 j = aG G j := fun j hj => (x13 j).trans (hx12 j hj)
  refine j_aload_n C dX3_init_53 rfl 0 rfl ?_
  refine j_iconst (v := 0) C dX3_init_54 (by decide) ?_
  refine pi_3_5 C hE13 (i := 23) (v := 0) (by decide +kernel) ((hx13 23 (by decide)).trans ea) (by decide) k_97 dX3_init_55 (fun D14 hE14 => ?_)
  refine j_aload_n C dX3_init_58 rfl 0 rfl ?_
  refine j_iconst (v := 0) C dX3_init_59 (by decide) ?_
  refine pi_3_6 C hE14 (i := 23) (v := 0) (Or.inl rfl) (by decide +kernel) ((hx13 23 (by decide)).trans ea) (by decide) k_99 dX3_init_60 (fun D15 hE15 => ?_)
  refine j_aload_n C dX3_init_63 rfl 0 rfl ?_
  refine j_iconst (v := 0) C dX3_init_64 (by decide) ?_
  refine pi_3_7 C hE15 (i := 23) (v := 0) (by decide +kernel) ((hx13 23 (by decide)).trans ea) (by decide) k_102 dX3_init_65 (fun D16 hE16 => ?_)
  refine j_iconst (v := 0) C dX3_init_68 (by decide) ?_
  refine j_istore_n C dX3_init_69 rfl (by decide) rfl ?_
  refine j_iload_n C dX3_init_70 rfl 0 rfl ?_
  refine j_iconst (v := 2) C dX3_init_71 (by decide) ?_
  refine j_icmp_ge (tgt := 94) C dX3_init_72 (by decide) (fun hc => absurd hc (by decide)) (fun _ => ?_)
  refine j_aload_n C dX3_init_75 rfl 1 rfl ?_
  obtain ⟨q6, eq6_16⟩ : ∃ y, aG G13 31 = y := ⟨_, rfl⟩
  refine gf_3_4 C (hE16.o (j := 23) (by decide +kernel) (by decide +kernel) ((hx13 23 (by decide)).trans ea)) (hE16.r (j := 23) (x := 31) (by decide +kernel) (by decide +kernel) ((hx13 23 (by decide)).trans ea) eq6_16) k_94 dX3_init_76 ?_
  refine j_iload_n C dX3_init_79 rfl 0 rfl ?_
  refine en_7 C hE16 k_65 ⟨Nat.le_of_ble_eq_true rfl, Nat.le_of_ble_eq_true rfl⟩ dX3_init_80 (fun G17 D17 q7 hE17 x17 eq7_17 => ?_)
  have hx17 : ∀ j, j < 24 → aG G17 j = aG G j := fun j hj => (x17 j (Nat.lt_of_lt_of_le hj (by decide +kernel))).trans (hx13 j hj)
  have eq6_17 := (x17 31 (by decide +kernel)).trans eq6_16
  refine j_dup C dX3_init_83 rfl ?_
  refine j_cIN C Cw (tick_c _ hE17 (i := 32) (by decide +kernel) eq7_17) nc_2 mi_7 ⟨Nat.le_of_ble_eq_true rfl, Nat.le_of_ble_eq_true rfl⟩ ⟨Nat.le_of_ble_eq_true rfl, Nat.le_of_ble_eq_true rfl⟩ rfl rfl (Nat.le_of_ble_eq_true rfl) dX3_init_84 (fun G18 D18 hp => ?_)
  obtain ⟨hE18, x18⟩ := hp
  have hx18 : ∀ j, j < 24 → aG G18 j = aG G j := fun j hj => (x18 j (Nat.lt_of_lt_of_le hj (by decide +kernel))).trans (hx17 j hj)
  have eq6_18 := (x18 31 (by decide +kernel)).trans eq6_17
  have eq7_18 := (x18 32 (by decide +kernel)).trans eq7_17
  refine es_16 C hE18 (i := 31) (j := 32) (t := 0) (by decide) (by decide +kernel) eq6_18 eq7_18 dX3_init_87 (fun G19 hE19 x19 => ?_)
  have hx19 : ∀ j, j < 24 → aG G19 j = aG G j := fun j hj => (x19 j).trans (hx18 j hj)
  refine j_iinc (v := 1) C dX3_init_88 0 rfl (by decide) (by decide) rfl ?_
  refine j_goto (tgt := 70) C dX3_init_91 (by decide) ?_
  refine j_iload_n C dX3_init_70 rfl 0 rfl ?_
  refine j_iconst (v := 2) C dX3_init_71 (by decide) ?_
  refine j_icmp_ge (tgt := 94) C dX3_init_72 (by decide) (fun hc => absurd hc (by decide)) (fun _ => ?_)
  refine j_aload_n C dX3_init_75 rfl 1 rfl ?_
  obtain ⟨q8, eq8_19⟩ : ∃ y, aG G19 31 = y := ⟨_, rfl⟩
  refine gf_3_4 C (hE19.o (j := 23) (by decide +kernel) (by decide +kernel) ((hx19 23 (by decide)).trans ea)) (hE19.r (j := 23) (x := 31) (by decide +kernel) (by decide +kernel) ((hx19 23 (by decide)).trans ea) eq8_19) k_94 dX3_init_76 ?_
  refine j_iload_n C dX3_init_79 rfl 0 rfl ?_
  refine en_7 C hE19 k_65 ⟨Nat.le_of_ble_eq_true rfl, Nat.le_of_ble_eq_true rfl⟩ dX3_init_80 (fun G20 D20 q9 hE20 x20 eq9_20 => ?_)
  have hx20 : ∀ j, j < 24 → aG G20 j = aG G j := fun j hj => (x20 j (Nat.lt_of_lt_of_le hj (by decide +kernel))).trans (hx19 j hj)
  have eq8_20 := (x20 31 (by decide +kernel)).trans eq8_19
  refine j_dup C dX3_init_83 rfl ?_
  refine j_cIN C Cw (tick_c _ hE20 (i := 34) (by decide +kernel) eq9_20) nc_2 mi_7 ⟨Nat.le_of_ble_eq_true rfl, Nat.le_of_ble_eq_true rfl⟩ ⟨Nat.le_of_ble_eq_true rfl, Nat.le_of_ble_eq_true rfl⟩ rfl rfl (Nat.le_of_ble_eq_true rfl) dX3_init_84 (fun G21 D21 hp => ?_)
  obtain ⟨hE21, x21⟩ := hp
  have hx21 : ∀ j, j < 24 → aG G21 j = aG G j := fun j hj => (x21 j (Nat.lt_of_lt_of_le hj (by decide +kernel))).trans (hx20 j hj)
  have eq8_21 := (x21 31 (by decide +kernel)).trans eq8_20
  have eq9_21 := (x21 34 (by decide +kernel)).trans eq9_20
  refine es_16 C hE21 (i := 31) (j := 34) (t := 1) (by decide) (by decide +kernel) eq8_21 eq9_21 dX3_init_87 (fun G22 hE22 x22 => ?_)
  have hx22 : ∀ j, j < 24 → aG G22 j = aG G j := fun j hj => (x22 j).trans (hx21 j hj)
  refine j_iinc (v := 2) C dX3_init_88 0 rfl (by decide) (by decide) rfl ?_
  refine j_goto (tgt := 70) C dX3_init_91 (by decide) ?_
  refine j_iload_n C dX3_init_70 rfl 0 rfl ?_
  refine j_iconst (v := 2) C dX3_init_71 (by decide) ?_
  refine j_icmp_ge (tgt := 94) C dX3_init_72 (by decide) (fun _ => ?_) (fun hc => absurd (by decide) hc)
  exact K _ _ _ _ _ _ (Nat.le_of_ble_eq_true rfl) (Nat.le_of_ble_eq_true rfl) dX3_init_94 ⟨hE22.cast (by decide +kernel), hx22⟩
def row_2_e : List Mk := [(8, 0, [(7, 8), (6, 6), (5, 4), (4, 2), (0, 1)], [(8, 0)]), (15, 4, [(1, 23), (0, 10)], []), (4, 0, [(0, 3)], [(1, 256)]), (10, 256, [], []), (0, 0, [(0, 5)], [(2, 0), (1, 0)]), (12, 12, [], []), (0, 0, [(0, 7)], [(2, 0), (1, 0)]), (12, 12, [], []), (0, 0, [(0, 9)], [(2, 0), (1, 0)]), (12, 12, [], []), (3, 0, [(4, 18), (3, 16), (2, 14), (1, 12), (0, 11)], [(7, 0), (6, 0), (5, 0)]), (11, 40, [], []), (7, 0, [(0, 13)], [(1, 0)]), (13, 40, [], []), (7, 0, [(0, 15)], [(1, 0)]), (13, 40, [], []), (7, 0, [(0, 17)], [(1, 0)]), (13, 40, [], []), (16, 2, [(1, 21), (0, 19)], []), (7, 0, [(0, 20)], [(1, 0)]), (13, 40, [], []), (7, 0, [(0, 22)], [(1, 0)]), (13, 40, [], []), (3, 0, [(4, 31), (3, 29), (2, 27), (1, 25), (0, 24)], [(7, 0), (6, 0), (5, 0)]), (11, 40, [], []), (7, 0, [(0, 26)], [(1, 0)]), (13, 40, [], []), (7, 0, [(0, 28)], [(1, 0)]), (13, 40, [], []), (7, 0, [(0, 30)], [(1, 0)]), (13, 40, [], []), (16, 2, [(1, 34), (0, 32)], []), (7, 0, [(0, 33)], [(1, 0)]), (13, 40, [], []), (7, 0, [(0, 35)], [(1, 0)]), (13, 40, [], []), (3, 0, [], [])]
def row_2_f : List Mk := [(8, 0, [(7, 8), (6, 6), (5, 4), (4, 2), (0, 1)], [(8, 0)]), (15, 4, [(1, 23), (0, 10)], []), (4, 0, [(0, 3)], [(1, 256)]), (10, 256, [], []), (0, 0, [(0, 5)], [(2, 0), (1, 0)]), (12, 12, [], []), (0, 0, [(0, 7)], [(2, 0), (1, 0)]), (12, 12, [], []), (0, 0, [(0, 9)], [(2, 0), (1, 0)]), (12, 12, [], []), (3, 0, [(4, 18), (3, 16), (2, 14), (1, 12), (0, 11)], [(7, 0), (6, 0), (5, 0)]), (11, 40, [], []), (7, 0, [(0, 13)], [(1, 0)]), (13, 40, [], []), (7, 0, [(0, 15)], [(1, 0)]), (13, 40, [], []), (7, 0, [(0, 17)], [(1, 0)]), (13, 40, [], []), (16, 2, [(1, 21), (0, 19)], []), (7, 0, [(0, 20)], [(1, 0)]), (13, 40, [], []), (7, 0, [(0, 22)], [(1, 0)]), (13, 40, [], []), (3, 0, [(4, 31), (3, 29), (2, 27), (1, 25), (0, 24)], [(7, 0), (6, 0), (5, 0)]), (11, 40, [], []), (7, 0, [(0, 26)], [(1, 0)]), (13, 40, [], []), (7, 0, [(0, 28)], [(1, 0)]), (13, 40, [], []), (7, 0, [(0, 30)], [(1, 0)]), (13, 40, [], []), (16, 2, [(1, 34), (0, 32)], []), (7, 0, [(0, 33)], [(1, 0)]), (13, 40, [], []), (7, 0, [(0, 35)], [(1, 0)]), (13, 40, [], []), (3, 0, [(4, 44), (3, 42), (2, 40), (1, 38), (0, 37)], [(7, 0), (6, 0), (5, 0)]), (11, 40, [], []), (7, 0, [(0, 39)], [(1, 0)]), (13, 40, [], []), (7, 0, [(0, 41)], [(1, 0)]), (13, 40, [], []), (7, 0, [(0, 43)], [(1, 0)]), (13, 40, [], []), (16, 2, [(1, 47), (0, 45)], []), (7, 0, [(0, 46)], [(1, 0)]), (13, 40, [], []), (7, 0, [(0, 48)], [(1, 0)]), (13, 40, [], [])]
set_option maxRecDepth 100000 in
set_option maxHeartbeats 40000000 in
theorem row_2 (l : Launch) {G : Shp} {D : Dat} (hE : Em G D row_2_e) {a : Nat} (ea : aG G 36 = a) : CtC l yX3_init cX3_init 2 (rmC 2 12 252) [.ref a] G D (fun G' D' => Em G' D' row_2_f ∧ ∀ j, j < 37 → aG G' j = aG G j) := by
  refine ctC_of (by decide) rfl rfl (Nat.le_of_ble_eq_true rfl) ?_
  intro κ hκ C Cw Ck K
  subst hκ
  have C : Cx κ cX3_init RX3 (rmC 2 12 252) 2 := C
  refine j_aload_n C dX3_init_0 rfl 0 rfl ?_
  refine j_obj C k_64 k_19 k_20 dX3_init_1 ⟨Nat.le_of_ble_eq_true rfl, Nat.le_of_ble_eq_true rfl⟩ ?_
  refine j_aload_n C dX3_init_4 rfl 0 rfl ?_
  refine j_bipush (v := 40) C dX3_init_5 (by decide) ?_
  refine ea_i C hE (N' := 40) (by decide) (by decide) (by decide) ⟨Nat.le_of_ble_eq_true rfl, Nat.le_of_ble_eq_true rfl⟩ dX3_init_7 (fun G1 D1 q1 hE1 x1 eq1_1 => ?_)
  have hx1 : ∀ j, j < 37 → aG G1 j = aG G j := fun j hj => x1 j (Nat.lt_of_lt_of_le hj (by decide +kernel))
  refine pr_3_0 C Ck rfl hE1 (i := 36) (j := 37) (by decide +kernel) ((hx1 36 (by decide)).trans ea) eq1_1 k_83 dX3_init_9 (fun G2 hE2 x2 => ?_)
  have hx2 : ∀ j, j < 37 → aG G2 j = aG G j := fun j hj => (x2 j).trans (hx1 j hj)
  refine j_aload_n C dX3_init_12 rfl 0 rfl ?_
  refine en_7 C hE2 k_65 ⟨Nat.le_of_ble_eq_true rfl, Nat.le_of_ble_eq_true rfl⟩ dX3_init_13 (fun G3 D3 q2 hE3 x3 eq2_3 => ?_)
  have hx3 : ∀ j, j < 37 → aG G3 j = aG G j := fun j hj => (x3 j (Nat.lt_of_lt_of_le hj (by decide +kernel))).trans (hx2 j hj)
  refine j_dup C dX3_init_16 rfl ?_
  refine j_cIN C Cw (tick_c _ hE3 (i := 38) (by decide +kernel) eq2_3) nc_2 mi_7 ⟨Nat.le_of_ble_eq_true rfl, Nat.le_of_ble_eq_true rfl⟩ ⟨Nat.le_of_ble_eq_true rfl, Nat.le_of_ble_eq_true rfl⟩ rfl rfl (Nat.le_of_ble_eq_true rfl) dX3_init_17 (fun G4 D4 hp => ?_)
  obtain ⟨hE4, x4⟩ := hp
  have hx4 : ∀ j, j < 37 → aG G4 j = aG G j := fun j hj => (x4 j (Nat.lt_of_lt_of_le hj (by decide +kernel))).trans (hx3 j hj)
  have eq2_4 := (x4 38 (by decide +kernel)).trans eq2_3
  refine pr_3_1 C Ck rfl hE4 (i := 36) (j := 38) (by decide +kernel) ((hx4 36 (by decide)).trans ea) eq2_4 k_86 dX3_init_20 (fun G5 hE5 x5 => ?_)
  have hx5 : ∀ j, j < 37 → aG G5 j = aG G j := fun j hj => (x5 j).trans (hx4 j hj)
  refine j_aload_n C dX3_init_23 rfl 0 rfl ?_
  refine en_7 C hE5 k_65 ⟨Nat.le_of_ble_eq_true rfl, Nat.le_of_ble_eq_true rfl⟩ dX3_init_24 (fun G6 D6 q3 hE6 x6 eq3_6 => ?_)
  have hx6 : ∀ j, j < 37 → aG G6 j = aG G j := fun j hj => (x6 j (Nat.lt_of_lt_of_le hj (by decide +kernel))).trans (hx5 j hj)
  refine j_dup C dX3_init_27 rfl ?_
  refine j_cIN C Cw (tick_c _ hE6 (i := 40) (by decide +kernel) eq3_6) nc_2 mi_7 ⟨Nat.le_of_ble_eq_true rfl, Nat.le_of_ble_eq_true rfl⟩ ⟨Nat.le_of_ble_eq_true rfl, Nat.le_of_ble_eq_true rfl⟩ rfl rfl (Nat.le_of_ble_eq_true rfl) dX3_init_28 (fun G7 D7 hp => ?_)
  obtain ⟨hE7, x7⟩ := hp
  have hx7 : ∀ j, j < 37 → aG G7 j = aG G j := fun j hj => (x7 j (Nat.lt_of_lt_of_le hj (by decide +kernel))).trans (hx6 j hj)
  have eq3_7 := (x7 40 (by decide +kernel)).trans eq3_6
  refine pr_3_2 C Ck rfl hE7 (i := 36) (j := 40) (by decide +kernel) ((hx7 36 (by decide)).trans ea) eq3_7 k_88 dX3_init_31 (fun G8 hE8 x8 => ?_)
  have hx8 : ∀ j, j < 37 → aG G8 j = aG G j := fun j hj => (x8 j).trans (hx7 j hj)
  refine j_aload_n C dX3_init_34 rfl 0 rfl ?_
  refine en_7 C hE8 k_65 ⟨Nat.le_of_ble_eq_true rfl, Nat.le_of_ble_eq_true rfl⟩ dX3_init_35 (fun G9 D9 q4 hE9 x9 eq4_9 => ?_)
  have hx9 : ∀ j, j < 37 → aG G9 j = aG G j := fun j hj => (x9 j (Nat.lt_of_lt_of_le hj (by decide +kernel))).trans (hx8 j hj)
  refine j_dup C dX3_init_38 rfl ?_
  refine j_cIN C Cw (tick_c _ hE9 (i := 42) (by decide +kernel) eq4_9) nc_2 mi_7 ⟨Nat.le_of_ble_eq_true rfl, Nat.le_of_ble_eq_true rfl⟩ ⟨Nat.le_of_ble_eq_true rfl, Nat.le_of_ble_eq_true rfl⟩ rfl rfl (Nat.le_of_ble_eq_true rfl) dX3_init_39 (fun G10 D10 hp => ?_)
  obtain ⟨hE10, x10⟩ := hp
  have hx10 : ∀ j, j < 37 → aG G10 j = aG G j := fun j hj => (x10 j (Nat.lt_of_lt_of_le hj (by decide +kernel))).trans (hx9 j hj)
  have eq4_10 := (x10 42 (by decide +kernel)).trans eq4_9
  refine pr_3_3 C Ck rfl hE10 (i := 36) (j := 42) (by decide +kernel) ((hx10 36 (by decide)).trans ea) eq4_10 k_91 dX3_init_42 (fun G11 hE11 x11 => ?_)
  have hx11 : ∀ j, j < 37 → aG G11 j = aG G j := fun j hj => (x11 j).trans (hx10 j hj)
  refine j_aload_n C dX3_init_45 rfl 0 rfl ?_
  refine j_iconst (v := 2) C dX3_init_46 (by decide) ?_
  refine eq_16 C Cw hE11 k_65 (N' := 2) (by decide) (by decide) (by decide) ⟨Nat.le_of_ble_eq_true rfl, Nat.le_of_ble_eq_true rfl⟩ dX3_init_47 (fun G12 D12 q5 hE12 x12 eq5_12 => ?_)
  have hx12 : ∀ j, j < 37 → aG G12 j = aG G j := fun j hj => (x12 j (Nat.lt_of_lt_of_le hj (by decide +kernel))).trans (hx11 j hj)
  refine pr_3_4 C Ck rfl hE12 (i := 36) (j := 44) (by decide +kernel) ((hx12 36 (by decide)).trans ea) eq5_12 k_94 dX3_init_50 (fun G13 hE13 x13 => ?_)
  have hx13 : ∀ j, j < 37 → aG G13 j = aG G j := fun j hj => (x13 j).trans (hx12 j hj)
  refine j_aload_n C dX3_init_53 rfl 0 rfl ?_
  refine j_iconst (v := 0) C dX3_init_54 (by decide) ?_
  refine pi_3_5 C hE13 (i := 36) (v := 0) (by decide +kernel) ((hx13 36 (by decide)).trans ea) (by decide) k_97 dX3_init_55 (fun D14 hE14 => ?_)
  refine j_aload_n C dX3_init_58 rfl 0 rfl ?_
  refine j_iconst (v := 0) C dX3_init_59 (by decide) ?_
  refine pi_3_6 C hE14 (i := 36) (v := 0) (Or.inl rfl) (by decide +kernel) ((hx13 36 (by decide)).trans ea) (by decide) k_99 dX3_init_60 (fun D15 hE15 => ?_)
  refine j_aload_n C dX3_init_63 rfl 0 rfl ?_
  refine j_iconst (v := 0) C dX3_init_64 (by decide) ?_
  refine pi_3_7 C hE15 (i := 36) (v := 0) (by decide +kernel) ((hx13 36 (by decide)).trans ea) (by decide) k_102 dX3_init_65 (fun D16 hE16 => ?_)
  refine j_iconst (v := 0) C dX3_init_68 (by decide) ?_
  refine j_istore_n C dX3_init_69 rfl (by decide) rfl ?_
  refine j_iload_n C dX3_init_70 rfl 0 rfl ?_
  refine j_iconst (v := 2) C dX3_init_71 (by decide) ?_
  refine j_icmp_ge (tgt := 94) C dX3_init_72 (by decide) (fun hc => absurd hc (by decide)) (fun _ => ?_)
  refine j_aload_n C dX3_init_75 rfl 1 rfl ?_
  obtain ⟨q6, eq6_16⟩ : ∃ y, aG G13 44 = y := ⟨_, rfl⟩
  refine gf_3_4 C (hE16.o (j := 36) (by decide +kernel) (by decide +kernel) ((hx13 36 (by decide)).trans ea)) (hE16.r (j := 36) (x := 44) (by decide +kernel) (by decide +kernel) ((hx13 36 (by decide)).trans ea) eq6_16) k_94 dX3_init_76 ?_
  refine j_iload_n C dX3_init_79 rfl 0 rfl ?_
  refine en_7 C hE16 k_65 ⟨Nat.le_of_ble_eq_true rfl, Nat.le_of_ble_eq_true rfl⟩ dX3_init_80 (fun G17 D17 q7 hE17 x17 eq7_17 => ?_)
  have hx17 : ∀ j, j < 37 → aG G17 j = aG G j := fun j hj => (x17 j (Nat.lt_of_lt_of_le hj (by decide +kernel))).trans (hx13 j hj)
  have eq6_17 := (x17 44 (by decide +kernel)).trans eq6_16
  refine j_dup C dX3_init_83 rfl ?_
  refine j_cIN C Cw (tick_c _ hE17 (i := 45) (by decide +kernel) eq7_17) nc_2 mi_7 ⟨Nat.le_of_ble_eq_true rfl, Nat.le_of_ble_eq_true rfl⟩ ⟨Nat.le_of_ble_eq_true rfl, Nat.le_of_ble_eq_true rfl⟩ rfl rfl (Nat.le_of_ble_eq_true rfl) dX3_init_84 (fun G18 D18 hp => ?_)
  obtain ⟨hE18, x18⟩ := hp
  have hx18 : ∀ j, j < 37 → aG G18 j = aG G j := fun j hj => (x18 j (Nat.lt_of_lt_of_le hj (by decide +kernel))).trans (hx17 j hj)
  have eq6_18 := (x18 44 (by decide +kernel)).trans eq6_17
  have eq7_18 := (x18 45 (by decide +kernel)).trans eq7_17
  refine es_16 C hE18 (i := 44) (j := 45) (t := 0) (by decide) (by decide +kernel) eq6_18 eq7_18 dX3_init_87 (fun G19 hE19 x19 => ?_)
  have hx19 : ∀ j, j < 37 → aG G19 j = aG G j := fun j hj => (x19 j).trans (hx18 j hj)
  refine j_iinc (v := 1) C dX3_init_88 0 rfl (by decide) (by decide) rfl ?_
  refine j_goto (tgt := 70) C dX3_init_91 (by decide) ?_
  refine j_iload_n C dX3_init_70 rfl 0 rfl ?_
  refine j_iconst (v := 2) C dX3_init_71 (by decide) ?_
  refine j_icmp_ge (tgt := 94) C dX3_init_72 (by decide) (fun hc => absurd hc (by decide)) (fun _ => ?_)
  refine j_aload_n C dX3_init_75 rfl 1 rfl ?_
  obtain ⟨q8, eq8_19⟩ : ∃ y, aG G19 44 = y := ⟨_, rfl⟩
  refine gf_3_4 C (hE19.o (j := 36) (by decide +kernel) (by decide +kernel) ((hx19 36 (by decide)).trans ea)) (hE19.r (j := 36) (x := 44) (by decide +kernel) (by decide +kernel) ((hx19 36 (by decide)).trans ea) eq8_19) k_94 dX3_init_76 ?_
  refine j_iload_n C dX3_init_79 rfl 0 rfl ?_
  refine en_7 C hE19 k_65 ⟨Nat.le_of_ble_eq_true rfl, Nat.le_of_ble_eq_true rfl⟩ dX3_init_80 (fun G20 D20 q9 hE20 x20 eq9_20 => ?_)
  have hx20 : ∀ j, j < 37 → aG G20 j = aG G j := fun j hj => (x20 j (Nat.lt_of_lt_of_le hj (by decide +kernel))).trans (hx19 j hj)
  have eq8_20 := (x20 44 (by decide +kernel)).trans eq8_19
  refine j_dup C dX3_init_83 rfl ?_
  refine j_cIN C Cw (tick_c _ hE20 (i := 47) (by decide +kernel) eq9_20) nc_2 mi_7 ⟨Nat.le_of_ble_eq_true rfl, Nat.le_of_ble_eq_true rfl⟩ ⟨Nat.le_of_ble_eq_true rfl, Nat.le_of_ble_eq_true rfl⟩ rfl rfl (Nat.le_of_ble_eq_true rfl) dX3_init_84 (fun G21 D21 hp => ?_)
  obtain ⟨hE21, x21⟩ := hp
  have hx21 : ∀ j, j < 37 → aG G21 j = aG G j := fun j hj => (x21 j (Nat.lt_of_lt_of_le hj (by decide +kernel))).trans (hx20 j hj)
  have eq8_21 := (x21 44 (by decide +kernel)).trans eq8_20
  have eq9_21 := (x21 47 (by decide +kernel)).trans eq9_20
  refine es_16 C hE21 (i := 44) (j := 47) (t := 1) (by decide) (by decide +kernel) eq8_21 eq9_21 dX3_init_87 (fun G22 hE22 x22 => ?_)
  have hx22 : ∀ j, j < 37 → aG G22 j = aG G j := fun j hj => (x22 j).trans (hx21 j hj)
  refine j_iinc (v := 2) C dX3_init_88 0 rfl (by decide) (by decide) rfl ?_
  refine j_goto (tgt := 70) C dX3_init_91 (by decide) ?_
  refine j_iload_n C dX3_init_70 rfl 0 rfl ?_
  refine j_iconst (v := 2) C dX3_init_71 (by decide) ?_
  refine j_icmp_ge (tgt := 94) C dX3_init_72 (by decide) (fun _ => ?_) (fun hc => absurd (by decide) hc)
  exact K _ _ _ _ _ _ (Nat.le_of_ble_eq_true rfl) (Nat.le_of_ble_eq_true rfl) dX3_init_94 ⟨hE22.cast (by decide +kernel), hx22⟩
def row_3_e : List Mk := [(8, 0, [(7, 8), (6, 6), (5, 4), (4, 2), (0, 1)], [(8, 0)]), (15, 4, [(2, 36), (1, 23), (0, 10)], []), (4, 0, [(0, 3)], [(1, 256)]), (10, 256, [], []), (0, 0, [(0, 5)], [(2, 0), (1, 0)]), (12, 12, [], []), (0, 0, [(0, 7)], [(2, 0), (1, 0)]), (12, 12, [], []), (0, 0, [(0, 9)], [(2, 0), (1, 0)]), (12, 12, [], []), (3, 0, [(4, 18), (3, 16), (2, 14), (1, 12), (0, 11)], [(7, 0), (6, 0), (5, 0)]), (11, 40, [], []), (7, 0, [(0, 13)], [(1, 0)]), (13, 40, [], []), (7, 0, [(0, 15)], [(1, 0)]), (13, 40, [], []), (7, 0, [(0, 17)], [(1, 0)]), (13, 40, [], []), (16, 2, [(1, 21), (0, 19)], []), (7, 0, [(0, 20)], [(1, 0)]), (13, 40, [], []), (7, 0, [(0, 22)], [(1, 0)]), (13, 40, [], []), (3, 0, [(4, 31), (3, 29), (2, 27), (1, 25), (0, 24)], [(7, 0), (6, 0), (5, 0)]), (11, 40, [], []), (7, 0, [(0, 26)], [(1, 0)]), (13, 40, [], []), (7, 0, [(0, 28)], [(1, 0)]), (13, 40, [], []), (7, 0, [(0, 30)], [(1, 0)]), (13, 40, [], []), (16, 2, [(1, 34), (0, 32)], []), (7, 0, [(0, 33)], [(1, 0)]), (13, 40, [], []), (7, 0, [(0, 35)], [(1, 0)]), (13, 40, [], []), (3, 0, [(4, 44), (3, 42), (2, 40), (1, 38), (0, 37)], [(7, 0), (6, 0), (5, 0)]), (11, 40, [], []), (7, 0, [(0, 39)], [(1, 0)]), (13, 40, [], []), (7, 0, [(0, 41)], [(1, 0)]), (13, 40, [], []), (7, 0, [(0, 43)], [(1, 0)]), (13, 40, [], []), (16, 2, [(1, 47), (0, 45)], []), (7, 0, [(0, 46)], [(1, 0)]), (13, 40, [], []), (7, 0, [(0, 48)], [(1, 0)]), (13, 40, [], []), (3, 0, [], [])]
def row_3_f : List Mk := [(8, 0, [(7, 8), (6, 6), (5, 4), (4, 2), (0, 1)], [(8, 0)]), (15, 4, [(2, 36), (1, 23), (0, 10)], []), (4, 0, [(0, 3)], [(1, 256)]), (10, 256, [], []), (0, 0, [(0, 5)], [(2, 0), (1, 0)]), (12, 12, [], []), (0, 0, [(0, 7)], [(2, 0), (1, 0)]), (12, 12, [], []), (0, 0, [(0, 9)], [(2, 0), (1, 0)]), (12, 12, [], []), (3, 0, [(4, 18), (3, 16), (2, 14), (1, 12), (0, 11)], [(7, 0), (6, 0), (5, 0)]), (11, 40, [], []), (7, 0, [(0, 13)], [(1, 0)]), (13, 40, [], []), (7, 0, [(0, 15)], [(1, 0)]), (13, 40, [], []), (7, 0, [(0, 17)], [(1, 0)]), (13, 40, [], []), (16, 2, [(1, 21), (0, 19)], []), (7, 0, [(0, 20)], [(1, 0)]), (13, 40, [], []), (7, 0, [(0, 22)], [(1, 0)]), (13, 40, [], []), (3, 0, [(4, 31), (3, 29), (2, 27), (1, 25), (0, 24)], [(7, 0), (6, 0), (5, 0)]), (11, 40, [], []), (7, 0, [(0, 26)], [(1, 0)]), (13, 40, [], []), (7, 0, [(0, 28)], [(1, 0)]), (13, 40, [], []), (7, 0, [(0, 30)], [(1, 0)]), (13, 40, [], []), (16, 2, [(1, 34), (0, 32)], []), (7, 0, [(0, 33)], [(1, 0)]), (13, 40, [], []), (7, 0, [(0, 35)], [(1, 0)]), (13, 40, [], []), (3, 0, [(4, 44), (3, 42), (2, 40), (1, 38), (0, 37)], [(7, 0), (6, 0), (5, 0)]), (11, 40, [], []), (7, 0, [(0, 39)], [(1, 0)]), (13, 40, [], []), (7, 0, [(0, 41)], [(1, 0)]), (13, 40, [], []), (7, 0, [(0, 43)], [(1, 0)]), (13, 40, [], []), (16, 2, [(1, 47), (0, 45)], []), (7, 0, [(0, 46)], [(1, 0)]), (13, 40, [], []), (7, 0, [(0, 48)], [(1, 0)]), (13, 40, [], []), (3, 0, [(4, 57), (3, 55), (2, 53), (1, 51), (0, 50)], [(7, 0), (6, 0), (5, 0)]), (11, 40, [], []), (7, 0, [(0, 52)], [(1, 0)]), (13, 40, [], []), (7, 0, [(0, 54)], [(1, 0)]), (13, 40, [], []), (7, 0, [(0, 56)], [(1, 0)]), (13, 40, [], []), (16, 2, [(1, 60), (0, 58)], []), (7, 0, [(0, 59)], [(1, 0)]), (13, 40, [], []), (7, 0, [(0, 61)], [(1, 0)]), (13, 40, [], [])]
set_option maxRecDepth 100000 in
set_option maxHeartbeats 40000000 in
theorem row_3 (l : Launch) {G : Shp} {D : Dat} (hE : Em G D row_3_e) {a : Nat} (ea : aG G 49 = a) : CtC l yX3_init cX3_init 2 (rmC 2 12 252) [.ref a] G D (fun G' D' => Em G' D' row_3_f ∧ ∀ j, j < 50 → aG G' j = aG G j) := by
  refine ctC_of (by decide) rfl rfl (Nat.le_of_ble_eq_true rfl) ?_
  intro κ hκ C Cw Ck K
  subst hκ
  have C : Cx κ cX3_init RX3 (rmC 2 12 252) 2 := C
  refine j_aload_n C dX3_init_0 rfl 0 rfl ?_
  refine j_obj C k_64 k_19 k_20 dX3_init_1 ⟨Nat.le_of_ble_eq_true rfl, Nat.le_of_ble_eq_true rfl⟩ ?_
  refine j_aload_n C dX3_init_4 rfl 0 rfl ?_
  refine j_bipush (v := 40) C dX3_init_5 (by decide) ?_
  refine ea_i C hE (N' := 40) (by decide) (by decide) (by decide) ⟨Nat.le_of_ble_eq_true rfl, Nat.le_of_ble_eq_true rfl⟩ dX3_init_7 (fun G1 D1 q1 hE1 x1 eq1_1 => ?_)
  have hx1 : ∀ j, j < 50 → aG G1 j = aG G j := fun j hj => x1 j (Nat.lt_of_lt_of_le hj (by decide +kernel))
  refine pr_3_0 C Ck rfl hE1 (i := 49) (j := 50) (by decide +kernel) ((hx1 49 (by decide)).trans ea) eq1_1 k_83 dX3_init_9 (fun G2 hE2 x2 => ?_)
  have hx2 : ∀ j, j < 50 → aG G2 j = aG G j := fun j hj => (x2 j).trans (hx1 j hj)
  refine j_aload_n C dX3_init_12 rfl 0 rfl ?_
  refine en_7 C hE2 k_65 ⟨Nat.le_of_ble_eq_true rfl, Nat.le_of_ble_eq_true rfl⟩ dX3_init_13 (fun G3 D3 q2 hE3 x3 eq2_3 => ?_)
  have hx3 : ∀ j, j < 50 → aG G3 j = aG G j := fun j hj => (x3 j (Nat.lt_of_lt_of_le hj (by decide +kernel))).trans (hx2 j hj)
  refine j_dup C dX3_init_16 rfl ?_
  refine j_cIN C Cw (tick_c _ hE3 (i := 51) (by decide +kernel) eq2_3) nc_2 mi_7 ⟨Nat.le_of_ble_eq_true rfl, Nat.le_of_ble_eq_true rfl⟩ ⟨Nat.le_of_ble_eq_true rfl, Nat.le_of_ble_eq_true rfl⟩ rfl rfl (Nat.le_of_ble_eq_true rfl) dX3_init_17 (fun G4 D4 hp => ?_)
  obtain ⟨hE4, x4⟩ := hp
  have hx4 : ∀ j, j < 50 → aG G4 j = aG G j := fun j hj => (x4 j (Nat.lt_of_lt_of_le hj (by decide +kernel))).trans (hx3 j hj)
  have eq2_4 := (x4 51 (by decide +kernel)).trans eq2_3
  refine pr_3_1 C Ck rfl hE4 (i := 49) (j := 51) (by decide +kernel) ((hx4 49 (by decide)).trans ea) eq2_4 k_86 dX3_init_20 (fun G5 hE5 x5 => ?_)
  have hx5 : ∀ j, j < 50 → aG G5 j = aG G j := fun j hj => (x5 j).trans (hx4 j hj)
  refine j_aload_n C dX3_init_23 rfl 0 rfl ?_
  refine en_7 C hE5 k_65 ⟨Nat.le_of_ble_eq_true rfl, Nat.le_of_ble_eq_true rfl⟩ dX3_init_24 (fun G6 D6 q3 hE6 x6 eq3_6 => ?_)
  have hx6 : ∀ j, j < 50 → aG G6 j = aG G j := fun j hj => (x6 j (Nat.lt_of_lt_of_le hj (by decide +kernel))).trans (hx5 j hj)
  refine j_dup C dX3_init_27 rfl ?_
  refine j_cIN C Cw (tick_c _ hE6 (i := 53) (by decide +kernel) eq3_6) nc_2 mi_7 ⟨Nat.le_of_ble_eq_true rfl, Nat.le_of_ble_eq_true rfl⟩ ⟨Nat.le_of_ble_eq_true rfl, Nat.le_of_ble_eq_true rfl⟩ rfl rfl (Nat.le_of_ble_eq_true rfl) dX3_init_28 (fun G7 D7 hp => ?_)
  obtain ⟨hE7, x7⟩ := hp
  have hx7 : ∀ j, j < 50 → aG G7 j = aG G j := fun j hj => (x7 j (Nat.lt_of_lt_of_le hj (by decide +kernel))).trans (hx6 j hj)
  have eq3_7 := (x7 53 (by decide +kernel)).trans eq3_6
  refine pr_3_2 C Ck rfl hE7 (i := 49) (j := 53) (by decide +kernel) ((hx7 49 (by decide)).trans ea) eq3_7 k_88 dX3_init_31 (fun G8 hE8 x8 => ?_)
  have hx8 : ∀ j, j < 50 → aG G8 j = aG G j := fun j hj => (x8 j).trans (hx7 j hj)
  refine j_aload_n C dX3_init_34 rfl 0 rfl ?_
  refine en_7 C hE8 k_65 ⟨Nat.le_of_ble_eq_true rfl, Nat.le_of_ble_eq_true rfl⟩ dX3_init_35 (fun G9 D9 q4 hE9 x9 eq4_9 => ?_)
  have hx9 : ∀ j, j < 50 → aG G9 j = aG G j := fun j hj => (x9 j (Nat.lt_of_lt_of_le hj (by decide +kernel))).trans (hx8 j hj)
  refine j_dup C dX3_init_38 rfl ?_
  refine j_cIN C Cw (tick_c _ hE9 (i := 55) (by decide +kernel) eq4_9) nc_2 mi_7 ⟨Nat.le_of_ble_eq_true rfl, Nat.le_of_ble_eq_true rfl⟩ ⟨Nat.le_of_ble_eq_true rfl, Nat.le_of_ble_eq_true rfl⟩ rfl rfl (Nat.le_of_ble_eq_true rfl) dX3_init_39 (fun G10 D10 hp => ?_)
  obtain ⟨hE10, x10⟩ := hp
  have hx10 : ∀ j, j < 50 → aG G10 j = aG G j := fun j hj => (x10 j (Nat.lt_of_lt_of_le hj (by decide +kernel))).trans (hx9 j hj)
  have eq4_10 := (x10 55 (by decide +kernel)).trans eq4_9
  refine pr_3_3 C Ck rfl hE10 (i := 49) (j := 55) (by decide +kernel) ((hx10 49 (by decide)).trans ea) eq4_10 k_91 dX3_init_42 (fun G11 hE11 x11 => ?_)
  have hx11 : ∀ j, j < 50 → aG G11 j = aG G j := fun j hj => (x11 j).trans (hx10 j hj)
  refine j_aload_n C dX3_init_45 rfl 0 rfl ?_
  refine j_iconst (v := 2) C dX3_init_46 (by decide) ?_
  refine eq_16 C Cw hE11 k_65 (N' := 2) (by decide) (by decide) (by decide) ⟨Nat.le_of_ble_eq_true rfl, Nat.le_of_ble_eq_true rfl⟩ dX3_init_47 (fun G12 D12 q5 hE12 x12 eq5_12 => ?_)
  have hx12 : ∀ j, j < 50 → aG G12 j = aG G j := fun j hj => (x12 j (Nat.lt_of_lt_of_le hj (by decide +kernel))).trans (hx11 j hj)
  refine pr_3_4 C Ck rfl hE12 (i := 49) (j := 57) (by decide +kernel) ((hx12 49 (by decide)).trans ea) eq5_12 k_94 dX3_init_50 (fun G13 hE13 x13 => ?_)
  have hx13 : ∀ j, j < 50 → aG G13 j = aG G j := fun j hj => (x13 j).trans (hx12 j hj)
  refine j_aload_n C dX3_init_53 rfl 0 rfl ?_
  refine j_iconst (v := 0) C dX3_init_54 (by decide) ?_
  refine pi_3_5 C hE13 (i := 49) (v := 0) (by decide +kernel) ((hx13 49 (by decide)).trans ea) (by decide) k_97 dX3_init_55 (fun D14 hE14 => ?_)
  refine j_aload_n C dX3_init_58 rfl 0 rfl ?_
  refine j_iconst (v := 0) C dX3_init_59 (by decide) ?_
  refine pi_3_6 C hE14 (i := 49) (v := 0) (Or.inl rfl) (by decide +kernel) ((hx13 49 (by decide)).trans ea) (by decide) k_99 dX3_init_60 (fun D15 hE15 => ?_)
  refine j_aload_n C dX3_init_63 rfl 0 rfl ?_
  refine j_iconst (v := 0) C dX3_init_64 (by decide) ?_
  refine pi_3_7 C hE15 (i := 49) (v := 0) (by decide +kernel) ((hx13 49 (by decide)).trans ea) (by decide) k_102 dX3_init_65 (fun D16 hE16 => ?_)
  refine j_iconst (v := 0) C dX3_init_68 (by decide) ?_
  refine j_istore_n C dX3_init_69 rfl (by decide) rfl ?_
  refine j_iload_n C dX3_init_70 rfl 0 rfl ?_
  refine j_iconst (v := 2) C dX3_init_71 (by decide) ?_
  refine j_icmp_ge (tgt := 94) C dX3_init_72 (by decide) (fun hc => absurd hc (by decide)) (fun _ => ?_)
  refine j_aload_n C dX3_init_75 rfl 1 rfl ?_
  obtain ⟨q6, eq6_16⟩ : ∃ y, aG G13 57 = y := ⟨_, rfl⟩
  refine gf_3_4 C (hE16.o (j := 49) (by decide +kernel) (by decide +kernel) ((hx13 49 (by decide)).trans ea)) (hE16.r (j := 49) (x := 57) (by decide +kernel) (by decide +kernel) ((hx13 49 (by decide)).trans ea) eq6_16) k_94 dX3_init_76 ?_
  refine j_iload_n C dX3_init_79 rfl 0 rfl ?_
  refine en_7 C hE16 k_65 ⟨Nat.le_of_ble_eq_true rfl, Nat.le_of_ble_eq_true rfl⟩ dX3_init_80 (fun G17 D17 q7 hE17 x17 eq7_17 => ?_)
  have hx17 : ∀ j, j < 50 → aG G17 j = aG G j := fun j hj => (x17 j (Nat.lt_of_lt_of_le hj (by decide +kernel))).trans (hx13 j hj)
  have eq6_17 := (x17 57 (by decide +kernel)).trans eq6_16
  refine j_dup C dX3_init_83 rfl ?_
  refine j_cIN C Cw (tick_c _ hE17 (i := 58) (by decide +kernel) eq7_17) nc_2 mi_7 ⟨Nat.le_of_ble_eq_true rfl, Nat.le_of_ble_eq_true rfl⟩ ⟨Nat.le_of_ble_eq_true rfl, Nat.le_of_ble_eq_true rfl⟩ rfl rfl (Nat.le_of_ble_eq_true rfl) dX3_init_84 (fun G18 D18 hp => ?_)
  obtain ⟨hE18, x18⟩ := hp
  have hx18 : ∀ j, j < 50 → aG G18 j = aG G j := fun j hj => (x18 j (Nat.lt_of_lt_of_le hj (by decide +kernel))).trans (hx17 j hj)
  have eq6_18 := (x18 57 (by decide +kernel)).trans eq6_17
  have eq7_18 := (x18 58 (by decide +kernel)).trans eq7_17
  refine es_16 C hE18 (i := 57) (j := 58) (t := 0) (by decide) (by decide +kernel) eq6_18 eq7_18 dX3_init_87 (fun G19 hE19 x19 => ?_)
  have hx19 : ∀ j, j < 50 → aG G19 j = aG G j := fun j hj => (x19 j).trans (hx18 j hj)
  refine j_iinc (v := 1) C dX3_init_88 0 rfl (by decide) (by decide) rfl ?_
  refine j_goto (tgt := 70) C dX3_init_91 (by decide) ?_
  refine j_iload_n C dX3_init_70 rfl 0 rfl ?_
  refine j_iconst (v := 2) C dX3_init_71 (by decide) ?_
  refine j_icmp_ge (tgt := 94) C dX3_init_72 (by decide) (fun hc => absurd hc (by decide)) (fun _ => ?_)
  refine j_aload_n C dX3_init_75 rfl 1 rfl ?_
  obtain ⟨q8, eq8_19⟩ : ∃ y, aG G19 57 = y := ⟨_, rfl⟩
  refine gf_3_4 C (hE19.o (j := 49) (by decide +kernel) (by decide +kernel) ((hx19 49 (by decide)).trans ea)) (hE19.r (j := 49) (x := 57) (by decide +kernel) (by decide +kernel) ((hx19 49 (by decide)).trans ea) eq8_19) k_94 dX3_init_76 ?_
  refine j_iload_n C dX3_init_79 rfl 0 rfl ?_
  refine en_7 C hE19 k_65 ⟨Nat.le_of_ble_eq_true rfl, Nat.le_of_ble_eq_true rfl⟩ dX3_init_80 (fun G20 D20 q9 hE20 x20 eq9_20 => ?_)
  have hx20 : ∀ j, j < 50 → aG G20 j = aG G j := fun j hj => (x20 j (Nat.lt_of_lt_of_le hj (by decide +kernel))).trans (hx19 j hj)
  have eq8_20 := (x20 57 (by decide +kernel)).trans eq8_19
  refine j_dup C dX3_init_83 rfl ?_
  refine j_cIN C Cw (tick_c _ hE20 (i := 60) (by decide +kernel) eq9_20) nc_2 mi_7 ⟨Nat.le_of_ble_eq_true rfl, Nat.le_of_ble_eq_true rfl⟩ ⟨Nat.le_of_ble_eq_true rfl, Nat.le_of_ble_eq_true rfl⟩ rfl rfl (Nat.le_of_ble_eq_true rfl) dX3_init_84 (fun G21 D21 hp => ?_)
  obtain ⟨hE21, x21⟩ := hp
  have hx21 : ∀ j, j < 50 → aG G21 j = aG G j := fun j hj => (x21 j (Nat.lt_of_lt_of_le hj (by decide +kernel))).trans (hx20 j hj)
  have eq8_21 := (x21 57 (by decide +kernel)).trans eq8_20
  have eq9_21 := (x21 60 (by decide +kernel)).trans eq9_20
  refine es_16 C hE21 (i := 57) (j := 60) (t := 1) (by decide) (by decide +kernel) eq8_21 eq9_21 dX3_init_87 (fun G22 hE22 x22 => ?_)
  have hx22 : ∀ j, j < 50 → aG G22 j = aG G j := fun j hj => (x22 j).trans (hx21 j hj)
  refine j_iinc (v := 2) C dX3_init_88 0 rfl (by decide) (by decide) rfl ?_
  refine j_goto (tgt := 70) C dX3_init_91 (by decide) ?_
  refine j_iload_n C dX3_init_70 rfl 0 rfl ?_
  refine j_iconst (v := 2) C dX3_init_71 (by decide) ?_
  refine j_icmp_ge (tgt := 94) C dX3_init_72 (by decide) (fun _ => ?_) (fun hc => absurd (by decide) hc)
  exact K _ _ _ _ _ _ (Nat.le_of_ble_eq_true rfl) (Nat.le_of_ble_eq_true rfl) dX3_init_94 ⟨hE22.cast (by decide +kernel), hx22⟩
