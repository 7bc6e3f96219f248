theorem mem_u1 {w : Cond} (i : Nat) (h : tables_1_1[i]? = some w) : w ∈ lw_tbl := List.mem_append_right _ (List.mem_append_left _ (List.mem_of_getElem? h))
theorem mem_u2 {w : Cond} (i : Nat) (h : tables_1_2[i]? = some w) : w ∈ lw_tbl := List.mem_append_right _ (List.mem_append_right _ (List.mem_append_left _ (List.mem_of_getElem? h)))
theorem mem_u3 {w : Cond} (i : Nat) (h : tables_1_3[i]? = some w) : w ∈ lw_tbl := List.mem_append_right _ (List.mem_append_right _ (List.mem_append_right _ (List.mem_append_left _ (List.mem_of_getElem? h))))
theorem mem_u4 {w : Cond} (i : Nat) (h : tables_1_4[i]? = some w) : w ∈ lw_tbl := List.mem_append_right _ (List.mem_append_right _ (List.mem_append_right _ (List.mem_append_right _ (List.mem_append_left _ (List.mem_of_getElem? h)))))
theorem mem_u5 {w : Cond} (i : Nat) (h : tables_1_5[i]? = some w) : w ∈ lw_tbl := List.mem_append_right _ (List.mem_append_right _ (List.mem_append_right _ (List.mem_append_right _ (List.mem_append_right _ (List.mem_of_getElem? h)))))
def tb : List Cond := lw_tbl.filter goodWord
theorem tb_of {w : Cond} (h : w ∈ lw_tbl) (g : goodWord w = true) : w ∈ tb := List.mem_filter.mpr ⟨h, g⟩
theorem tb_sub : ∀ w ∈ tb, w ∈ lw_tbl := fun _ h => (List.mem_filter.mp h).1
theorem tb_good : ∀ w ∈ tb, goodWord w = true := fun _ h => (List.mem_filter.mp h).2
theorem mem_sl {w : Cond} (i : Nat) (h : (k2_sels lw_privs)[i]? = some w) : w ∈ lw_tbl := List.mem_append_left _ (List.mem_of_getElem? h)
theorem mem_r {ws : List Cond} (ps : List Nat) (hp : ws = ps.filterMap (fun i => tables_1[i]?)) (hg : ws.all goodWord = true) : ∀ w ∈ ws, w ∈ tb := by
  intro w hw
  refine tb_of ?_ (List.all_eq_true.mp hg w hw)
  rw [hp] at hw
  obtain ⟨i, -, hi⟩ := List.mem_filterMap.mp hw
  exact List.mem_append_right _ (List.mem_of_getElem? hi)
set_option maxRecDepth 100000 in
theorem k_0 : (Cond.initialized RL) ∈ tb := tb_of (mem_u1 0 rfl) rfl
set_option maxRecDepth 100000 in
theorem k_1 : (Cond.initialized RX8) ∈ tb := tb_of (mem_u1 1 rfl) rfl
set_option maxRecDepth 100000 in
theorem k_2 : (Cond.initialized RX4) ∈ tb := tb_of (mem_u1 2 rfl) rfl
set_option maxRecDepth 100000 in
theorem k_3 : (Cond.initialized RX0) ∈ tb := tb_of (mem_u1 3 rfl) rfl
set_option maxRecDepth 100000 in
theorem k_4 : (Cond.initialized RX3) ∈ tb := tb_of (mem_u1 4 rfl) rfl
set_option maxRecDepth 100000 in
theorem k_5 : (Cond.initialized RX7) ∈ tb := tb_of (mem_u1 5 rfl) rfl
set_option maxRecDepth 100000 in
theorem k_6 : (Cond.initialized RX6) ∈ tb := tb_of (mem_u1 6 rfl) rfl
set_option maxRecDepth 100000 in
theorem k_7 : (Cond.initialized RX2) ∈ tb := tb_of (mem_u1 7 rfl) rfl
set_option maxRecDepth 100000 in
theorem k_8 : (Cond.initialized RX5) ∈ tb := tb_of (mem_u1 8 rfl) rfl
set_option maxRecDepth 100000 in
theorem k_9 : (Cond.initialized RX1) ∈ tb := tb_of (mem_u1 9 rfl) rfl
set_option maxRecDepth 100000 in
theorem k_10 : (Cond.initialized RX9) ∈ tb := tb_of (mem_u1 10 rfl) rfl
set_option maxRecDepth 100000 in
theorem k_11 : (Cond.initialized RJ9) ∈ tb := tb_of (mem_u1 11 rfl) rfl
set_option maxRecDepth 100000 in
theorem k_12 : (Cond.initialized RJ7) ∈ tb := tb_of (mem_u1 12 rfl) rfl
set_option maxRecDepth 100000 in
theorem k_13 : (Cond.classLink RL (7) RX8) ∈ tb := tb_of (mem_u1 13 rfl) rfl
set_option maxRecDepth 100000 in
theorem k_14 : (Cond.instantiable RX8 (9)) ∈ tb := tb_of (mem_u1 14 rfl) rfl
set_option maxRecDepth 100000 in
theorem k_15 : (Cond.methodLink RL (9) yX8_init) ∈ tb := tb_of (mem_u1 15 rfl) rfl
set_option maxRecDepth 100000 in
theorem k_16 : (Cond.instanceMethod yX8_init) ∈ tb := tb_of (mem_u1 16 rfl) rfl
set_option maxRecDepth 100000 in
theorem k_17 : (Cond.code yX8_init prog_1_method_1_code (2) none) ∈ tb := tb_of (mem_u1 17 rfl) rfl
set_option maxRecDepth 100000 in
theorem k_18 : (Cond.methodLink RX8 (1) objectInit) ∈ tb := tb_of (mem_u1 18 rfl) rfl
set_option maxRecDepth 100000 in
theorem k_19 : (Cond.instanceMethod objectInit) ∈ tb := tb_of (mem_u1 19 rfl) rfl
set_option maxRecDepth 100000 in
theorem k_20 : (Cond.code objectInit object_method_1_code (1) none) ∈ tb := tb_of (mem_u1 20 rfl) rfl
set_option maxRecDepth 100000 in
theorem k_21 : (Cond.classLink RX8 (9) RX3) ∈ tb := tb_of (mem_u1 21 rfl) rfl
set_option maxRecDepth 100000 in
theorem n_22 : (Cond.arrayOver (.object RX3)) ∈ lw_tbl := mem_u1 22 rfl
set_option maxRecDepth 100000 in
theorem k_23 : (Cond.classLink RX8 (15) RX4) ∈ tb := tb_of (mem_u1 23 rfl) rfl
set_option maxRecDepth 100000 in
theorem k_24 : (Cond.instantiable RX4 (2)) ∈ tb := tb_of (mem_u1 24 rfl) rfl
set_option maxRecDepth 100000 in
theorem n_25 : (Cond.methodLinkNest RX8 (17) yX4_init RX8) ∈ lw_tbl := mem_u1 25 rfl
set_option maxRecDepth 100000 in
theorem k_26 : (Cond.instanceMethod yX4_init) ∈ tb := tb_of (mem_u1 26 rfl) rfl
set_option maxRecDepth 100000 in
theorem k_27 : (Cond.code yX4_init prog_6_method_1_code (1) none) ∈ tb := tb_of (mem_u1 27 rfl) rfl
set_option maxRecDepth 100000 in
theorem k_28 : (Cond.methodLink RX4 (3) objectInit) ∈ tb := tb_of (mem_u1 28 rfl) rfl
set_option maxRecDepth 100000 in
theorem k_29 : (Cond.fieldLink RX4 (11) "SeasonRows$Sheet" "bytes" "[B") ∈ tb := tb_of (mem_u1 29 rfl) rfl
set_option maxRecDepth 100000 in
theorem k_30 : (Cond.fieldLink RX4 (15) "SeasonRows$Sheet" "start" "I") ∈ tb := tb_of (mem_u1 30 rfl) rfl
set_option maxRecDepth 100000 in
theorem k_36 : (Cond.arrayClass .byte) ∈ tb := tb_of (mem_u1 36 rfl) rfl
set_option maxRecDepth 100000 in
theorem k_37 : (Cond.classLink RX8 (22) RX0) ∈ tb := tb_of (mem_u1 37 rfl) rfl
set_option maxRecDepth 100000 in
theorem k_38 : (Cond.instantiable RX0 (3)) ∈ tb := tb_of (mem_u1 38 rfl) rfl
set_option maxRecDepth 100000 in
theorem n_39 : (Cond.methodLinkNest RX8 (24) yX0_init RX8) ∈ lw_tbl := mem_u1 39 rfl
set_option maxRecDepth 100000 in
theorem k_40 : (Cond.instanceMethod yX0_init) ∈ tb := tb_of (mem_u1 40 rfl) rfl
set_option maxRecDepth 100000 in
theorem k_41 : (Cond.code yX0_init prog_2_method_1_code (1) none) ∈ tb := tb_of (mem_u1 41 rfl) rfl
set_option maxRecDepth 100000 in
theorem k_42 : (Cond.methodLink RX0 (3) objectInit) ∈ tb := tb_of (mem_u1 42 rfl) rfl
set_option maxRecDepth 100000 in
theorem k_43 : (Cond.fieldLink RX0 (9) "SeasonRows$Big" "limbs" "[J") ∈ tb := tb_of (mem_u1 43 rfl) rfl
set_option maxRecDepth 100000 in
theorem k_44 : (Cond.fieldLink RX6 (32) "SeasonRows$Big" "limbs" "[J") ∈ tb := tb_of (mem_u1 44 rfl) rfl
set_option maxRecDepth 100000 in
theorem k_45 : (Cond.fieldLink RX0 (13) "SeasonRows$Big" "size" "I") ∈ tb := tb_of (mem_u1 45 rfl) rfl
set_option maxRecDepth 100000 in
theorem k_46 : (Cond.fieldLink RX6 (29) "SeasonRows$Big" "size" "I") ∈ tb := tb_of (mem_u1 46 rfl) rfl
set_option maxRecDepth 100000 in
theorem k_47 : (Cond.fieldLink RX0 (17) "SeasonRows$Big" "below" "Z") ∈ tb := tb_of (mem_u1 47 rfl) rfl
set_option maxRecDepth 100000 in
theorem k_48 : (Cond.fieldLink RX6 (25) "SeasonRows$Big" "below" "Z") ∈ tb := tb_of (mem_u1 48 rfl) rfl
set_option maxRecDepth 100000 in
theorem k_49 : (Cond.fieldLink RX5 (77) "SeasonRows$Big" "below" "Z") ∈ tb := tb_of (mem_u1 49 rfl) rfl
set_option maxRecDepth 100000 in
theorem k_50 : (Cond.fieldLink RX4 (29) "SeasonRows$Big" "below" "Z") ∈ tb := tb_of (mem_u1 50 rfl) rfl
set_option maxRecDepth 100000 in
theorem k_51 : (Cond.fieldLink RX2 (206) "SeasonRows$Big" "below" "Z") ∈ tb := tb_of (mem_u1 51 rfl) rfl
set_option maxRecDepth 100000 in
theorem k_59 : (Cond.arrayClass .long) ∈ tb := tb_of (mem_u1 59 rfl) rfl
set_option maxRecDepth 100000 in
theorem k_60 : (Cond.instantiable RX3 (8)) ∈ tb := tb_of (mem_u1 60 rfl) rfl
set_option maxRecDepth 100000 in
theorem k_61 : (Cond.methodLink RX8 (39) yX3_init) ∈ tb := tb_of (mem_u1 61 rfl) rfl
set_option maxRecDepth 100000 in
theorem k_62 : (Cond.instanceMethod yX3_init) ∈ tb := tb_of (mem_u1 62 rfl) rfl
set_option maxRecDepth 100000 in
theorem k_63 : (Cond.code yX3_init prog_5_method_1_code (2) none) ∈ tb := tb_of (mem_u1 63 rfl) rfl
set_option maxRecDepth 100000 in
theorem k_64 : (Cond.methodLink RX3 (3) objectInit) ∈ tb := tb_of (mem_u1 64 rfl) rfl
set_option maxRecDepth 100000 in
theorem k_65 : (Cond.classLink RX3 (15) RX7) ∈ tb := tb_of (mem_u1 65 rfl) rfl
set_option maxRecDepth 100000 in
theorem k_66 : (Cond.instantiable RX7 (2)) ∈ tb := tb_of (mem_u1 66 rfl) rfl
set_option maxRecDepth 100000 in
theorem n_67 : (Cond.methodLinkNest RX3 (17) yX7_init RX8) ∈ lw_tbl := mem_u1 67 rfl
set_option maxRecDepth 100000 in
theorem k_68 : (Cond.instanceMethod yX7_init) ∈ tb := tb_of (mem_u1 68 rfl) rfl
set_option maxRecDepth 100000 in
theorem k_69 : (Cond.code yX7_init prog_9_method_1_code (1) none) ∈ tb := tb_of (mem_u1 69 rfl) rfl
set_option maxRecDepth 100000 in
theorem k_70 : (Cond.methodLink RX7 (3) objectInit) ∈ tb := tb_of (mem_u1 70 rfl) rfl
set_option maxRecDepth 100000 in
theorem k_71 : (Cond.fieldLink RX7 (9) "SeasonRows$TickSet" "marks" "[Z") ∈ tb := tb_of (mem_u1 71 rfl) rfl
set_option maxRecDepth 100000 in
theorem k_72 : (Cond.fieldLink RX7 (15) "SeasonRows$TickSet" "count" "I") ∈ tb := tb_of (mem_u1 72 rfl) rfl
set_option maxRecDepth 100000 in
theorem k_73 : (Cond.fieldLink RX5 (100) "SeasonRows$TickSet" "count" "I") ∈ tb := tb_of (mem_u1 73 rfl) rfl
set_option maxRecDepth 100000 in
theorem k_74 : (Cond.fieldLink RX8 (117) "SeasonRows$TickSet" "count" "I") ∈ tb := tb_of (mem_u1 74 rfl) rfl
set_option maxRecDepth 100000 in
theorem k_80 : (Cond.arrayClass .int) ∈ tb := tb_of (mem_u1 80 rfl) rfl
set_option maxRecDepth 100000 in
theorem k_81 : (Cond.arrayClass .boolean) ∈ tb := tb_of (mem_u1 81 rfl) rfl
set_option maxRecDepth 100000 in
theorem n_82 : (Cond.arrayOver (.object RX7)) ∈ lw_tbl := mem_u1 82 rfl
set_option maxRecDepth 100000 in
theorem k_83 : (Cond.fieldLink RX3 (9) "SeasonRows$Row" "numbers" "[I") ∈ tb := tb_of (mem_u1 83 rfl) rfl
set_option maxRecDepth 100000 in
theorem k_84 : (Cond.fieldLink RX8 (110) "SeasonRows$Row" "numbers" "[I") ∈ tb := tb_of (mem_u1 84 rfl) rfl
set_option maxRecDepth 100000 in
theorem k_85 : (Cond.fieldLink RX2 (146) "SeasonRows$Row" "numbers" "[I") ∈ tb := tb_of (mem_u1 85 rfl) rfl
set_option maxRecDepth 100000 in
theorem k_86 : (Cond.fieldLink RX3 (18) "SeasonRows$Row" "filled" "LSeasonRows$TickSet;") ∈ tb := tb_of (mem_u1 86 rfl) rfl
set_option maxRecDepth 100000 in
theorem k_87 : (Cond.fieldLink RX8 (95) "SeasonRows$Row" "filled" "LSeasonRows$TickSet;") ∈ tb := tb_of (mem_u1 87 rfl) rfl
set_option maxRecDepth 100000 in
theorem k_88 : (Cond.fieldLink RX3 (22) "SeasonRows$Row" "strangers" "LSeasonRows$TickSet;") ∈ tb := tb_of (mem_u1 88 rfl) rfl
set_option maxRecDepth 100000 in
theorem k_89 : (Cond.fieldLink RX5 (40) "SeasonRows$Row" "strangers" "LSeasonRows$TickSet;") ∈ tb := tb_of (mem_u1 89 rfl) rfl
set_option maxRecDepth 100000 in
theorem k_90 : (Cond.fieldLink RX8 (124) "SeasonRows$Row" "strangers" "LSeasonRows$TickSet;") ∈ tb := tb_of (mem_u1 90 rfl) rfl
set_option maxRecDepth 100000 in
theorem k_91 : (Cond.fieldLink RX3 (25) "SeasonRows$Row" "steps" "LSeasonRows$TickSet;") ∈ tb := tb_of (mem_u1 91 rfl) rfl
set_option maxRecDepth 100000 in
theorem k_92 : (Cond.fieldLink RX2 (121) "SeasonRows$Row" "steps" "LSeasonRows$TickSet;") ∈ tb := tb_of (mem_u1 92 rfl) rfl
set_option maxRecDepth 100000 in
theorem k_93 : (Cond.fieldLink RX8 (127) "SeasonRows$Row" "steps" "LSeasonRows$TickSet;") ∈ tb := tb_of (mem_u1 93 rfl) rfl
set_option maxRecDepth 100000 in
theorem k_94 : (Cond.fieldLink RX3 (28) "SeasonRows$Row" "feasts" "[LSeasonRows$TickSet;") ∈ tb := tb_of (mem_u1 94 rfl) rfl
set_option maxRecDepth 100000 in
theorem k_95 : (Cond.fieldLink RX2 (138) "SeasonRows$Row" "feasts" "[LSeasonRows$TickSet;") ∈ tb := tb_of (mem_u1 95 rfl) rfl
set_option maxRecDepth 100000 in
theorem k_96 : (Cond.fieldLink RX8 (146) "SeasonRows$Row" "feasts" "[LSeasonRows$TickSet;") ∈ tb := tb_of (mem_u1 96 rfl) rfl
set_option maxRecDepth 100000 in
theorem k_97 : (Cond.fieldLink RX3 (32) "SeasonRows$Row" "feastCount" "I") ∈ tb := tb_of (mem_u1 97 rfl) rfl
set_option maxRecDepth 100000 in
theorem k_98 : (Cond.fieldLink RX8 (130) "SeasonRows$Row" "feastCount" "I") ∈ tb := tb_of (mem_u1 98 rfl) rfl
set_option maxRecDepth 100000 in
theorem k_99 : (Cond.fieldLink RX3 (36) "SeasonRows$Row" "line" "Z") ∈ tb := tb_of (mem_u1 99 rfl) rfl
set_option maxRecDepth 100000 in
theorem k_100 : (Cond.fieldLink RX2 (114) "SeasonRows$Row" "line" "Z") ∈ tb := tb_of (mem_u1 100 rfl) rfl
set_option maxRecDepth 100000 in
theorem k_101 : (Cond.fieldLink RX8 (136) "SeasonRows$Row" "line" "Z") ∈ tb := tb_of (mem_u1 101 rfl) rfl
set_option maxRecDepth 100000 in
theorem k_102 : (Cond.fieldLink RX3 (40) "SeasonRows$Row" "period" "I") ∈ tb := tb_of (mem_u1 102 rfl) rfl
set_option maxRecDepth 100000 in
theorem k_103 : (Cond.fieldLink RX2 (103) "SeasonRows$Row" "period" "I") ∈ tb := tb_of (mem_u1 103 rfl) rfl
set_option maxRecDepth 100000 in
theorem k_104 : (Cond.fieldLink RX8 (133) "SeasonRows$Row" "period" "I") ∈ tb := tb_of (mem_u1 104 rfl) rfl
set_option maxRecDepth 100000 in
theorem k_122 : (Cond.classLink RX8 (40) RX6) ∈ tb := tb_of (mem_u1 122 rfl) rfl
set_option maxRecDepth 100000 in
theorem k_123 : (Cond.instantiable RX6 (2)) ∈ tb := tb_of (mem_u1 123 rfl) rfl
set_option maxRecDepth 100000 in
theorem n_124 : (Cond.methodLinkNest RX8 (42) yX6_init RX8) ∈ lw_tbl := mem_u1 124 rfl
set_option maxRecDepth 100000 in
theorem k_125 : (Cond.instanceMethod yX6_init) ∈ tb := tb_of (mem_u1 125 rfl) rfl
set_option maxRecDepth 100000 in
theorem k_126 : (Cond.code yX6_init prog_8_method_1_code (1) none) ∈ tb := tb_of (mem_u1 126 rfl) rfl
set_option maxRecDepth 100000 in
theorem k_127 : (Cond.methodLink RX6 (1) objectInit) ∈ tb := tb_of (mem_u1 127 rfl) rfl
set_option maxRecDepth 100000 in
theorem k_128 : (Cond.fieldLink RX6 (9) "SeasonRows$Tally" "columns" "[J") ∈ tb := tb_of (mem_u1 128 rfl) rfl
set_option maxRecDepth 100000 in
theorem k_129 : (Cond.fieldLink RX6 (15) "SeasonRows$Tally" "used" "I") ∈ tb := tb_of (mem_u1 129 rfl) rfl
set_option maxRecDepth 100000 in
theorem k_135 : (Cond.classLink RX8 (43) RX2) ∈ tb := tb_of (mem_u1 135 rfl) rfl
set_option maxRecDepth 100000 in
theorem k_136 : (Cond.instantiable RX2 (14)) ∈ tb := tb_of (mem_u1 136 rfl) rfl
set_option maxRecDepth 100000 in
theorem k_137 : (Cond.methodLink RX8 (45) yX2_init) ∈ tb := tb_of (mem_u1 137 rfl) rfl
set_option maxRecDepth 100000 in
theorem k_138 : (Cond.instanceMethod yX2_init) ∈ tb := tb_of (mem_u1 138 rfl) rfl
set_option maxRecDepth 100000 in
theorem k_139 : (Cond.code yX2_init prog_4_method_1_code (3) none) ∈ tb := tb_of (mem_u1 139 rfl) rfl
set_option maxRecDepth 100000 in
theorem k_140 : (Cond.methodLink RX2 (5) objectInit) ∈ tb := tb_of (mem_u1 140 rfl) rfl
set_option maxRecDepth 100000 in
theorem k_141 : (Cond.classLink RX2 (11) "[[J") ∈ tb := tb_of (mem_u1 141 rfl) rfl
set_option maxRecDepth 100000 in
theorem n_142 : (Cond.arrayOver (.array .long)) ∈ lw_tbl := mem_u1 142 rfl
set_option maxRecDepth 100000 in
theorem k_143 : (Cond.classLink RX2 (26) RX0) ∈ tb := tb_of (mem_u1 143 rfl) rfl
set_option maxRecDepth 100000 in
theorem n_144 : (Cond.arrayOver (.object RX0)) ∈ lw_tbl := mem_u1 144 rfl
set_option maxRecDepth 100000 in
theorem n_145 : (Cond.methodLinkNest RX2 (38) yX0_init RX8) ∈ lw_tbl := mem_u1 145 rfl
set_option maxRecDepth 100000 in
theorem k_146 : (Cond.fieldLink RX2 (59) "SeasonRows$Parting" "tally" "LSeasonRows$Tally;") ∈ tb := tb_of (mem_u1 146 rfl) rfl
set_option maxRecDepth 100000 in
theorem k_147 : (Cond.fieldLink RX2 (13) "SeasonRows$Parting" "columns" "[[J") ∈ tb := tb_of (mem_u1 147 rfl) rfl
set_option maxRecDepth 100000 in
theorem k_148 : (Cond.fieldLink RX2 (16) "SeasonRows$Parting" "products" "[[J") ∈ tb := tb_of (mem_u1 148 rfl) rfl
set_option maxRecDepth 100000 in
theorem k_149 : (Cond.fieldLink RX2 (19) "SeasonRows$Parting" "placeSums" "[[J") ∈ tb := tb_of (mem_u1 149 rfl) rfl
set_option maxRecDepth 100000 in
theorem k_150 : (Cond.fieldLink RX2 (22) "SeasonRows$Parting" "placeCounts" "[J") ∈ tb := tb_of (mem_u1 150 rfl) rfl
set_option maxRecDepth 100000 in
theorem k_151 : (Cond.fieldLink RX2 (28) "SeasonRows$Parting" "cells" "[LSeasonRows$Big;") ∈ tb := tb_of (mem_u1 151 rfl) rfl
set_option maxRecDepth 100000 in
theorem k_152 : (Cond.fieldLink RX2 (32) "SeasonRows$Parting" "tops" "[LSeasonRows$Big;") ∈ tb := tb_of (mem_u1 152 rfl) rfl
set_option maxRecDepth 100000 in
theorem k_153 : (Cond.fieldLink RX2 (35) "SeasonRows$Parting" "placeTops" "[LSeasonRows$Big;") ∈ tb := tb_of (mem_u1 153 rfl) rfl
set_option maxRecDepth 100000 in
theorem k_154 : (Cond.fieldLink RX2 (39) "SeasonRows$Parting" "bottom" "LSeasonRows$Big;") ∈ tb := tb_of (mem_u1 154 rfl) rfl
set_option maxRecDepth 100000 in
theorem k_155 : (Cond.fieldLink RX8 (236) "SeasonRows$Parting" "bottom" "LSeasonRows$Big;") ∈ tb := tb_of (mem_u1 155 rfl) rfl
set_option maxRecDepth 100000 in
theorem k_156 : (Cond.fieldLink RX2 (43) "SeasonRows$Parting" "difference" "LSeasonRows$Big;") ∈ tb := tb_of (mem_u1 156 rfl) rfl
set_option maxRecDepth 100000 in
theorem k_157 : (Cond.fieldLink RX2 (46) "SeasonRows$Parting" "places" "I") ∈ tb := tb_of (mem_u1 157 rfl) rfl
set_option maxRecDepth 100000 in
theorem k_158 : (Cond.fieldLink RX8 (161) "SeasonRows$Parting" "places" "I") ∈ tb := tb_of (mem_u1 158 rfl) rfl
set_option maxRecDepth 100000 in
theorem k_159 : (Cond.fieldLink RX2 (50) "SeasonRows$Parting" "unknowns" "I") ∈ tb := tb_of (mem_u1 159 rfl) rfl
set_option maxRecDepth 100000 in
theorem k_160 : (Cond.fieldLink RX2 (53) "SeasonRows$Parting" "stepsFrom" "I") ∈ tb := tb_of (mem_u1 160 rfl) rfl
set_option maxRecDepth 100000 in
theorem k_161 : (Cond.fieldLink RX8 (173) "SeasonRows$Parting" "stepsFrom" "I") ∈ tb := tb_of (mem_u1 161 rfl) rfl
set_option maxRecDepth 100000 in
theorem k_162 : (Cond.fieldLink RX2 (56) "SeasonRows$Parting" "feastsFrom" "I") ∈ tb := tb_of (mem_u1 162 rfl) rfl
set_option maxRecDepth 100000 in
theorem k_163 : (Cond.fieldLink RX8 (180) "SeasonRows$Parting" "feastsFrom" "I") ∈ tb := tb_of (mem_u1 163 rfl) rfl
set_option maxRecDepth 100000 in
theorem k_193 : (Cond.classLink RX8 (52) RX5) ∈ tb := tb_of (mem_u1 193 rfl) rfl
set_option maxRecDepth 100000 in
theorem k_194 : (Cond.instantiable RX5 (6)) ∈ tb := tb_of (mem_u1 194 rfl) rfl
set_option maxRecDepth 100000 in
theorem k_195 : (Cond.methodLink RX8 (54) yX5_init) ∈ tb := tb_of (mem_u1 195 rfl) rfl
set_option maxRecDepth 100000 in
theorem k_196 : (Cond.instanceMethod yX5_init) ∈ tb := tb_of (mem_u1 196 rfl) rfl
set_option maxRecDepth 100000 in
theorem k_197 : (Cond.code yX5_init prog_7_method_1_code (4) none) ∈ tb := tb_of (mem_u1 197 rfl) rfl
set_option maxRecDepth 100000 in
theorem k_198 : (Cond.methodLink RX5 (3) objectInit) ∈ tb := tb_of (mem_u1 198 rfl) rfl
set_option maxRecDepth 100000 in
theorem k_199 : (Cond.classLink RX5 (9) RX0) ∈ tb := tb_of (mem_u1 199 rfl) rfl
set_option maxRecDepth 100000 in
theorem k_200 : (Cond.classLink RX5 (17) RX7) ∈ tb := tb_of (mem_u1 200 rfl) rfl
set_option maxRecDepth 100000 in
theorem n_201 : (Cond.methodLinkNest RX5 (19) yX7_init RX8) ∈ lw_tbl := mem_u1 201 rfl
set_option maxRecDepth 100000 in
theorem n_202 : (Cond.methodLinkNest RX5 (24) yX0_init RX8) ∈ lw_tbl := mem_u1 202 rfl
set_option maxRecDepth 100000 in
theorem k_203 : (Cond.fieldLink RX5 (32) "SeasonRows$Sieve" "parting" "LSeasonRows$Parting;") ∈ tb := tb_of (mem_u1 203 rfl) rfl
set_option maxRecDepth 100000 in
theorem k_204 : (Cond.fieldLink RX5 (36) "SeasonRows$Sieve" "tally" "LSeasonRows$Tally;") ∈ tb := tb_of (mem_u1 204 rfl) rfl
set_option maxRecDepth 100000 in
theorem k_205 : (Cond.fieldLink RX5 (11) "SeasonRows$Sieve" "sizes" "[LSeasonRows$Big;") ∈ tb := tb_of (mem_u1 205 rfl) rfl
set_option maxRecDepth 100000 in
theorem k_206 : (Cond.fieldLink RX5 (20) "SeasonRows$Sieve" "ahead" "LSeasonRows$TickSet;") ∈ tb := tb_of (mem_u1 206 rfl) rfl
set_option maxRecDepth 100000 in
theorem k_207 : (Cond.fieldLink RX5 (25) "SeasonRows$Sieve" "middle" "LSeasonRows$Big;") ∈ tb := tb_of (mem_u1 207 rfl) rfl
set_option maxRecDepth 100000 in
theorem k_208 : (Cond.fieldLink RX5 (29) "SeasonRows$Sieve" "excess" "LSeasonRows$Big;") ∈ tb := tb_of (mem_u1 208 rfl) rfl
set_option maxRecDepth 100000 in
theorem k_222 : (Cond.classLink RX8 (61) RX1) ∈ tb := tb_of (mem_u1 222 rfl) rfl
set_option maxRecDepth 100000 in
theorem k_223 : (Cond.instantiable RX1 (6)) ∈ tb := tb_of (mem_u1 223 rfl) rfl
set_option maxRecDepth 100000 in
theorem k_224 : (Cond.methodLink RX8 (63) yX1_init) ∈ tb := tb_of (mem_u1 224 rfl) rfl
set_option maxRecDepth 100000 in
theorem k_225 : (Cond.instanceMethod yX1_init) ∈ tb := tb_of (mem_u1 225 rfl) rfl
set_option maxRecDepth 100000 in
theorem k_226 : (Cond.code yX1_init prog_3_method_1_code (2) none) ∈ tb := tb_of (mem_u1 226 rfl) rfl
set_option maxRecDepth 100000 in
theorem k_227 : (Cond.methodLink RX1 (3) objectInit) ∈ tb := tb_of (mem_u1 227 rfl) rfl
set_option maxRecDepth 100000 in
theorem k_228 : (Cond.classLink RX1 (9) RX0) ∈ tb := tb_of (mem_u1 228 rfl) rfl
set_option maxRecDepth 100000 in
theorem n_229 : (Cond.methodLinkNest RX1 (11) yX0_init RX8) ∈ lw_tbl := mem_u1 229 rfl
set_option maxRecDepth 100000 in
theorem k_230 : (Cond.fieldLink RX1 (32) "SeasonRows$Fraction" "tally" "LSeasonRows$Tally;") ∈ tb := tb_of (mem_u1 230 rfl) rfl
set_option maxRecDepth 100000 in
theorem k_231 : (Cond.fieldLink RX1 (12) "SeasonRows$Fraction" "top" "LSeasonRows$Big;") ∈ tb := tb_of (mem_u1 231 rfl) rfl
set_option maxRecDepth 100000 in
theorem k_232 : (Cond.fieldLink RX4 (23) "SeasonRows$Fraction" "top" "LSeasonRows$Big;") ∈ tb := tb_of (mem_u1 232 rfl) rfl
set_option maxRecDepth 100000 in
theorem k_233 : (Cond.fieldLink RX1 (18) "SeasonRows$Fraction" "bottom" "LSeasonRows$Big;") ∈ tb := tb_of (mem_u1 233 rfl) rfl
set_option maxRecDepth 100000 in
theorem k_234 : (Cond.fieldLink RX4 (35) "SeasonRows$Fraction" "bottom" "LSeasonRows$Big;") ∈ tb := tb_of (mem_u1 234 rfl) rfl
set_option maxRecDepth 100000 in
theorem k_235 : (Cond.fieldLink RX1 (21) "SeasonRows$Fraction" "scaled" "LSeasonRows$Big;") ∈ tb := tb_of (mem_u1 235 rfl) rfl
set_option maxRecDepth 100000 in
theorem k_236 : (Cond.fieldLink RX1 (24) "SeasonRows$Fraction" "divisors" "[J") ∈ tb := tb_of (mem_u1 236 rfl) rfl
set_option maxRecDepth 100000 in
theorem k_237 : (Cond.fieldLink RX1 (28) "SeasonRows$Fraction" "divisorCount" "I") ∈ tb := tb_of (mem_u1 237 rfl) rfl
set_option maxRecDepth 100000 in
theorem k_251 : (Cond.fieldLink RX8 (11) "SeasonRows" "rows" "[LSeasonRows$Row;") ∈ tb := tb_of (mem_u2 11 rfl) rfl
set_option maxRecDepth 100000 in
theorem k_252 : (Cond.fieldLink RX8 (48) "SeasonRows" "parting" "LSeasonRows$Parting;") ∈ tb := tb_of (mem_u2 12 rfl) rfl
set_option maxRecDepth 100000 in
theorem k_253 : (Cond.fieldLink RX8 (57) "SeasonRows" "sieve" "LSeasonRows$Sieve;") ∈ tb := tb_of (mem_u2 13 rfl) rfl
set_option maxRecDepth 100000 in
theorem k_254 : (Cond.fieldLink RX8 (64) "SeasonRows" "answer" "LSeasonRows$Fraction;") ∈ tb := tb_of (mem_u2 14 rfl) rfl
set_option maxRecDepth 100000 in
theorem k_255 : (Cond.fieldLink RX8 (18) "SeasonRows" "sheet" "LSeasonRows$Sheet;") ∈ tb := tb_of (mem_u2 15 rfl) rfl
set_option maxRecDepth 100000 in
theorem k_256 : (Cond.fieldLink RX8 (25) "SeasonRows" "top" "LSeasonRows$Big;") ∈ tb := tb_of (mem_u2 16 rfl) rfl
set_option maxRecDepth 100000 in
theorem k_257 : (Cond.fieldLink RX8 (29) "SeasonRows" "leastCost" "LSeasonRows$Big;") ∈ tb := tb_of (mem_u2 17 rfl) rfl
set_option maxRecDepth 100000 in
theorem k_258 : (Cond.fieldLink RX8 (32) "SeasonRows" "leastBottom" "LSeasonRows$Big;") ∈ tb := tb_of (mem_u2 18 rfl) rfl
set_option maxRecDepth 100000 in
theorem k_259 : (Cond.fieldLink RX8 (35) "SeasonRows" "latest" "I") ∈ tb := tb_of (mem_u2 19 rfl) rfl
set_option maxRecDepth 100000 in
theorem k_279 : (Cond.methodLink RL (13) yX8_status) ∈ tb := tb_of (mem_u2 39 rfl) rfl
set_option maxRecDepth 100000 in
theorem k_280 : (Cond.instanceMethod yX8_status) ∈ tb := tb_of (mem_u2 40 rfl) rfl
set_option maxRecDepth 100000 in
theorem k_281 : (Cond.selects RX8 yX8_status yX8_status) ∈ tb := tb_of (mem_u2 41 rfl) rfl
set_option maxRecDepth 100000 in
theorem k_282 : (Cond.code yX8_status prog_1_method_2_code (1) (some .int)) ∈ tb := tb_of (mem_u2 42 rfl) rfl
set_option maxRecDepth 100000 in
theorem k_283 : (Cond.methodLink RL (18) yX8_out) ∈ tb := tb_of (mem_u2 43 rfl) rfl
set_option maxRecDepth 100000 in
theorem k_284 : (Cond.instanceMethod yX8_out) ∈ tb := tb_of (mem_u2 44 rfl) rfl
set_option maxRecDepth 100000 in
theorem k_285 : (Cond.selects RX8 yX8_out yX8_out) ∈ tb := tb_of (mem_u2 45 rfl) rfl
set_option maxRecDepth 100000 in
theorem k_286 : (Cond.code yX8_out prog_1_method_3_code (2) (some .int)) ∈ tb := tb_of (mem_u2 46 rfl) rfl
set_option maxRecDepth 100000 in
theorem k_287 : (Cond.methodLink RX8 (68) yX4_byteAt) ∈ tb := tb_of (mem_u2 47 rfl) rfl
set_option maxRecDepth 100000 in
theorem k_288 : (Cond.instanceMethod yX4_byteAt) ∈ tb := tb_of (mem_u2 48 rfl) rfl
set_option maxRecDepth 100000 in
theorem k_289 : (Cond.selects RX4 yX4_byteAt yX4_byteAt) ∈ tb := tb_of (mem_u2 49 rfl) rfl
set_option maxRecDepth 100000 in
theorem k_290 : (Cond.code yX4_byteAt prog_6_method_3_code (2) (some .int)) ∈ tb := tb_of (mem_u2 50 rfl) rfl
set_option maxRecDepth 100000 in
theorem k_291 : (Cond.methodLink RX4 (19) yX4_length) ∈ tb := tb_of (mem_u2 51 rfl) rfl
set_option maxRecDepth 100000 in
theorem k_292 : (Cond.instanceMethod yX4_length) ∈ tb := tb_of (mem_u2 52 rfl) rfl
set_option maxRecDepth 100000 in
theorem k_293 : (Cond.selects RX4 yX4_length yX4_length) ∈ tb := tb_of (mem_u2 53 rfl) rfl
set_option maxRecDepth 100000 in
theorem k_294 : (Cond.code yX4_length prog_6_method_2_code (1) (some .int)) ∈ tb := tb_of (mem_u2 54 rfl) rfl
set_option maxRecDepth 100000 in
theorem k_295 : (Cond.methodLink RL (23) yX8_put) ∈ tb := tb_of (mem_u2 55 rfl) rfl
set_option maxRecDepth 100000 in
theorem k_296 : (Cond.instanceMethod yX8_put) ∈ tb := tb_of (mem_u2 56 rfl) rfl
set_option maxRecDepth 100000 in
theorem k_297 : (Cond.selects RX8 yX8_put yX8_put) ∈ tb := tb_of (mem_u2 57 rfl) rfl
set_option maxRecDepth 100000 in
theorem k_298 : (Cond.code yX8_put prog_1_method_4_code (5) (some .boolean)) ∈ tb := tb_of (mem_u2 58 rfl) rfl
set_option maxRecDepth 100000 in
theorem k_299 : (Cond.methodLink RX8 (72) yX8_rowOf) ∈ tb := tb_of (mem_u2 59 rfl) rfl
set_option maxRecDepth 100000 in
theorem k_301 : (Cond.instanceMethod yX8_rowOf) ∈ tb := tb_of (mem_u2 61 rfl) rfl
set_option maxRecDepth 100000 in
theorem k_302 : (Cond.code yX8_rowOf prog_1_method_35_code (2) (Option.some (.object RX3))) ∈ tb := tb_of (mem_u2 62 rfl) rfl
set_option maxRecDepth 100000 in
theorem k_303 : (Cond.methodLink RX8 (76) yX8_isTick) ∈ tb := tb_of (mem_u2 63 rfl) rfl
set_option maxRecDepth 100000 in
theorem k_304 : (Cond.static yX8_isTick) ∈ tb := tb_of (mem_u2 64 rfl) rfl
set_option maxRecDepth 100000 in
theorem k_305 : (Cond.code yX8_isTick prog_1_method_36_code (1) (some .boolean)) ∈ tb := tb_of (mem_u2 65 rfl) rfl
set_option maxRecDepth 100000 in
theorem k_306 : (Cond.methodLink RX8 (80) yX8_refuse) ∈ tb := tb_of (mem_u2 66 rfl) rfl
set_option maxRecDepth 100000 in
theorem k_308 : (Cond.instanceMethod yX8_refuse) ∈ tb := tb_of (mem_u2 68 rfl) rfl
set_option maxRecDepth 100000 in
theorem k_309 : (Cond.code yX8_refuse prog_1_method_28_code (2) (some .boolean)) ∈ tb := tb_of (mem_u2 69 rfl) rfl
set_option maxRecDepth 100000 in
theorem k_310 : (Cond.methodLink RX8 (83) yX8_isNumber) ∈ tb := tb_of (mem_u2 70 rfl) rfl
set_option maxRecDepth 100000 in
theorem k_311 : (Cond.static yX8_isNumber) ∈ tb := tb_of (mem_u2 71 rfl) rfl
set_option maxRecDepth 100000 in
theorem k_312 : (Cond.code yX8_isNumber prog_1_method_38_code (2) (some .boolean)) ∈ tb := tb_of (mem_u2 72 rfl) rfl
set_option maxRecDepth 100000 in
theorem k_313 : (Cond.constantLong RX8 (262) (-10000)) ∈ tb := tb_of (mem_u2 73 rfl) rfl
set_option maxRecDepth 100000 in
theorem k_314 : (Cond.constantLong RX8 (264) (10000)) ∈ tb := tb_of (mem_u2 74 rfl) rfl
set_option maxRecDepth 100000 in
theorem k_315 : (Cond.methodLink RX8 (87) yX3_setNumber) ∈ tb := tb_of (mem_u2 75 rfl) rfl
set_option maxRecDepth 100000 in
theorem k_316 : (Cond.instanceMethod yX3_setNumber) ∈ tb := tb_of (mem_u2 76 rfl) rfl
set_option maxRecDepth 100000 in
theorem k_317 : (Cond.selects RX3 yX3_setNumber yX3_setNumber) ∈ tb := tb_of (mem_u2 77 rfl) rfl
set_option maxRecDepth 100000 in
theorem k_318 : (Cond.code yX3_setNumber prog_5_method_2_code (3) none) ∈ tb := tb_of (mem_u2 78 rfl) rfl
set_option maxRecDepth 100000 in
theorem n_319 : (Cond.methodLinkNest RX3 (43) yX8_isTick RX8) ∈ lw_tbl := mem_u2 79 rfl
set_option maxRecDepth 100000 in
theorem k_320 : (Cond.methodLink RX3 (47) yX7_add) ∈ tb := tb_of (mem_u2 80 rfl) rfl
set_option maxRecDepth 100000 in
theorem k_321 : (Cond.instanceMethod yX7_add) ∈ tb := tb_of (mem_u2 81 rfl) rfl
set_option maxRecDepth 100000 in
theorem k_322 : (Cond.selects RX7 yX7_add yX7_add) ∈ tb := tb_of (mem_u2 82 rfl) rfl
set_option maxRecDepth 100000 in
theorem k_323 : (Cond.code yX7_add prog_9_method_3_code (2) (some .boolean)) ∈ tb := tb_of (mem_u2 83 rfl) rfl
set_option maxRecDepth 100000 in
theorem n_324 : (Cond.methodLinkNest RX7 (19) yX8_isTick RX8) ∈ lw_tbl := mem_u2 84 rfl
set_option maxRecDepth 100000 in
theorem k_325 : (Cond.methodLink RX8 (91) yX8_done) ∈ tb := tb_of (mem_u2 85 rfl) rfl
set_option maxRecDepth 100000 in
theorem k_327 : (Cond.instanceMethod yX8_done) ∈ tb := tb_of (mem_u2 87 rfl) rfl
set_option maxRecDepth 100000 in
theorem k_328 : (Cond.code yX8_done prog_1_method_27_code (1) (some .boolean)) ∈ tb := tb_of (mem_u2 88 rfl) rfl
set_option maxRecDepth 100000 in
theorem k_329 : (Cond.methodLink RL (28) yX8_fill) ∈ tb := tb_of (mem_u2 89 rfl) rfl
set_option maxRecDepth 100000 in
theorem k_330 : (Cond.instanceMethod yX8_fill) ∈ tb := tb_of (mem_u2 90 rfl) rfl
set_option maxRecDepth 100000 in
theorem k_331 : (Cond.selects RX8 yX8_fill yX8_fill) ∈ tb := tb_of (mem_u2 91 rfl) rfl
set_option maxRecDepth 100000 in
theorem k_332 : (Cond.code yX8_fill prog_1_method_5_code (10) (some .boolean)) ∈ tb := tb_of (mem_u2 92 rfl) rfl
set_option maxRecDepth 100000 in
theorem k_333 : (Cond.methodLink RL (33) yX8_gap) ∈ tb := tb_of (mem_u2 93 rfl) rfl
set_option maxRecDepth 100000 in
theorem k_334 : (Cond.instanceMethod yX8_gap) ∈ tb := tb_of (mem_u2 94 rfl) rfl
set_option maxRecDepth 100000 in
theorem k_335 : (Cond.selects RX8 yX8_gap yX8_gap) ∈ tb := tb_of (mem_u2 95 rfl) rfl
set_option maxRecDepth 100000 in
theorem k_336 : (Cond.code yX8_gap prog_1_method_6_code (4) (some .boolean)) ∈ tb := tb_of (mem_u2 96 rfl) rfl
set_option maxRecDepth 100000 in
theorem k_337 : (Cond.methodLink RX8 (99) yX7_drop) ∈ tb := tb_of (mem_u2 97 rfl) rfl
set_option maxRecDepth 100000 in
theorem k_338 : (Cond.instanceMethod yX7_drop) ∈ tb := tb_of (mem_u2 98 rfl) rfl
set_option maxRecDepth 100000 in
theorem k_339 : (Cond.selects RX7 yX7_drop yX7_drop) ∈ tb := tb_of (mem_u2 99 rfl) rfl
set_option maxRecDepth 100000 in
theorem k_340 : (Cond.code yX7_drop prog_9_method_4_code (2) (some .boolean)) ∈ tb := tb_of (mem_u2 100 rfl) rfl
set_option maxRecDepth 100000 in
theorem k_341 : (Cond.methodLink RX7 (23) yX7_has) ∈ tb := tb_of (mem_u2 101 rfl) rfl
set_option maxRecDepth 100000 in
theorem k_342 : (Cond.instanceMethod yX7_has) ∈ tb := tb_of (mem_u2 102 rfl) rfl
set_option maxRecDepth 100000 in
theorem k_343 : (Cond.selects RX7 yX7_has yX7_has) ∈ tb := tb_of (mem_u2 103 rfl) rfl
set_option maxRecDepth 100000 in
theorem k_344 : (Cond.code yX7_has prog_9_method_2_code (2) (some .boolean)) ∈ tb := tb_of (mem_u2 104 rfl) rfl
set_option maxRecDepth 100000 in
theorem k_345 : (Cond.methodLink RL (38) yX8_number) ∈ tb := tb_of (mem_u2 105 rfl) rfl
set_option maxRecDepth 100000 in
theorem k_346 : (Cond.instanceMethod yX8_number) ∈ tb := tb_of (mem_u2 106 rfl) rfl
set_option maxRecDepth 100000 in
theorem k_347 : (Cond.selects RX8 yX8_number yX8_number) ∈ tb := tb_of (mem_u2 107 rfl) rfl
set_option maxRecDepth 100000 in
theorem k_348 : (Cond.code yX8_number prog_1_method_7_code (4) (some .int)) ∈ tb := tb_of (mem_u2 108 rfl) rfl
set_option maxRecDepth 100000 in
theorem k_349 : (Cond.methodLink RX8 (104) yX8_giveNone) ∈ tb := tb_of (mem_u2 109 rfl) rfl
set_option maxRecDepth 100000 in
theorem k_351 : (Cond.instanceMethod yX8_giveNone) ∈ tb := tb_of (mem_u2 111 rfl) rfl
set_option maxRecDepth 100000 in
theorem k_352 : (Cond.code yX8_giveNone prog_1_method_30_code (2) (some .int)) ∈ tb := tb_of (mem_u2 112 rfl) rfl
set_option maxRecDepth 100000 in
theorem k_353 : (Cond.methodLink RX8 (107) yX7_has) ∈ tb := tb_of (mem_u2 113 rfl) rfl
set_option maxRecDepth 100000 in
theorem k_354 : (Cond.methodLink RX8 (114) yX8_give) ∈ tb := tb_of (mem_u2 114 rfl) rfl
set_option maxRecDepth 100000 in
theorem k_356 : (Cond.instanceMethod yX8_give) ∈ tb := tb_of (mem_u2 116 rfl) rfl
set_option maxRecDepth 100000 in
theorem k_357 : (Cond.code yX8_give prog_1_method_29_code (2) (some .int)) ∈ tb := tb_of (mem_u2 117 rfl) rfl
set_option maxRecDepth 100000 in
theorem k_358 : (Cond.methodLink RL (43) yX8_told) ∈ tb := tb_of (mem_u2 118 rfl) rfl
set_option maxRecDepth 100000 in
theorem k_359 : (Cond.instanceMethod yX8_told) ∈ tb := tb_of (mem_u2 119 rfl) rfl
set_option maxRecDepth 100000 in
theorem k_360 : (Cond.selects RX8 yX8_told yX8_told) ∈ tb := tb_of (mem_u2 120 rfl) rfl
set_option maxRecDepth 100000 in
theorem k_361 : (Cond.code yX8_told prog_1_method_8_code (4) (some .int)) ∈ tb := tb_of (mem_u2 121 rfl) rfl
set_option maxRecDepth 100000 in
theorem k_362 : (Cond.methodLink RX8 (120) yX3_countedTicks) ∈ tb := tb_of (mem_u2 122 rfl) rfl
set_option maxRecDepth 100000 in
theorem k_363 : (Cond.instanceMethod yX3_countedTicks) ∈ tb := tb_of (mem_u2 123 rfl) rfl
set_option maxRecDepth 100000 in
theorem k_364 : (Cond.selects RX3 yX3_countedTicks yX3_countedTicks) ∈ tb := tb_of (mem_u2 124 rfl) rfl
set_option maxRecDepth 100000 in
theorem k_365 : (Cond.code yX3_countedTicks prog_5_method_4_code (3) (some .int)) ∈ tb := tb_of (mem_u2 125 rfl) rfl
set_option maxRecDepth 100000 in
theorem k_366 : (Cond.methodLink RX3 (53) yX3_counts) ∈ tb := tb_of (mem_u2 126 rfl) rfl
set_option maxRecDepth 100000 in
theorem k_367 : (Cond.instanceMethod yX3_counts) ∈ tb := tb_of (mem_u2 127 rfl) rfl
set_option maxRecDepth 100000 in
theorem k_368 : (Cond.selects RX3 yX3_counts yX3_counts) ∈ tb := tb_of (mem_u2 128 rfl) rfl
set_option maxRecDepth 100000 in
theorem k_369 : (Cond.code yX3_counts prog_5_method_3_code (2) (some .boolean)) ∈ tb := tb_of (mem_u2 129 rfl) rfl
set_option maxRecDepth 100000 in
theorem k_370 : (Cond.methodLink RX3 (50) yX7_has) ∈ tb := tb_of (mem_u2 130 rfl) rfl
set_option maxRecDepth 100000 in
theorem k_371 : (Cond.methodLink RL (47) yX8_model) ∈ tb := tb_of (mem_u2 131 rfl) rfl
set_option maxRecDepth 100000 in
theorem k_372 : (Cond.instanceMethod yX8_model) ∈ tb := tb_of (mem_u2 132 rfl) rfl
set_option maxRecDepth 100000 in
theorem k_373 : (Cond.selects RX8 yX8_model yX8_model) ∈ tb := tb_of (mem_u2 133 rfl) rfl
set_option maxRecDepth 100000 in
theorem k_374 : (Cond.code yX8_model prog_1_method_9_code (5) (some .boolean)) ∈ tb := tb_of (mem_u2 134 rfl) rfl
set_option maxRecDepth 100000 in
theorem k_375 : (Cond.methodLink RL (52) yX8_step) ∈ tb := tb_of (mem_u2 135 rfl) rfl
set_option maxRecDepth 100000 in
theorem k_376 : (Cond.instanceMethod yX8_step) ∈ tb := tb_of (mem_u2 136 rfl) rfl
set_option maxRecDepth 100000 in
theorem k_377 : (Cond.selects RX8 yX8_step yX8_step) ∈ tb := tb_of (mem_u2 137 rfl) rfl
set_option maxRecDepth 100000 in
theorem k_378 : (Cond.code yX8_step prog_1_method_10_code (4) (some .boolean)) ∈ tb := tb_of (mem_u2 138 rfl) rfl
set_option maxRecDepth 100000 in
theorem k_379 : (Cond.methodLink RX8 (140) yX7_add) ∈ tb := tb_of (mem_u2 139 rfl) rfl
set_option maxRecDepth 100000 in
theorem k_380 : (Cond.methodLink RL (56) yX8_unstep) ∈ tb := tb_of (mem_u2 140 rfl) rfl
set_option maxRecDepth 100000 in
theorem k_381 : (Cond.instanceMethod yX8_unstep) ∈ tb := tb_of (mem_u2 141 rfl) rfl
set_option maxRecDepth 100000 in
theorem k_382 : (Cond.selects RX8 yX8_unstep yX8_unstep) ∈ tb := tb_of (mem_u2 142 rfl) rfl
set_option maxRecDepth 100000 in
theorem k_383 : (Cond.code yX8_unstep prog_1_method_11_code (4) (some .boolean)) ∈ tb := tb_of (mem_u2 143 rfl) rfl
set_option maxRecDepth 100000 in
theorem k_384 : (Cond.methodLink RL (60) yX8_feast) ∈ tb := tb_of (mem_u2 144 rfl) rfl
set_option maxRecDepth 100000 in
theorem k_385 : (Cond.instanceMethod yX8_feast) ∈ tb := tb_of (mem_u2 145 rfl) rfl
set_option maxRecDepth 100000 in
theorem k_386 : (Cond.selects RX8 yX8_feast yX8_feast) ∈ tb := tb_of (mem_u2 146 rfl) rfl
set_option maxRecDepth 100000 in
theorem k_387 : (Cond.code yX8_feast prog_1_method_12_code (3) (some .int)) ∈ tb := tb_of (mem_u2 147 rfl) rfl
set_option maxRecDepth 100000 in
theorem k_388 : (Cond.methodLink RL (64) yX8_on) ∈ tb := tb_of (mem_u2 148 rfl) rfl
set_option maxRecDepth 100000 in
theorem k_389 : (Cond.instanceMethod yX8_on) ∈ tb := tb_of (mem_u2 149 rfl) rfl
set_option maxRecDepth 100000 in
theorem k_390 : (Cond.selects RX8 yX8_on yX8_on) ∈ tb := tb_of (mem_u2 150 rfl) rfl
set_option maxRecDepth 100000 in
theorem k_391 : (Cond.code yX8_on prog_1_method_13_code (6) (some .boolean)) ∈ tb := tb_of (mem_u2 151 rfl) rfl
set_option maxRecDepth 100000 in
theorem k_392 : (Cond.methodLink RX8 (143) yX3_hasFeast) ∈ tb := tb_of (mem_u2 152 rfl) rfl
set_option maxRecDepth 100000 in
theorem k_393 : (Cond.instanceMethod yX3_hasFeast) ∈ tb := tb_of (mem_u2 153 rfl) rfl
set_option maxRecDepth 100000 in
theorem k_394 : (Cond.selects RX3 yX3_hasFeast yX3_hasFeast) ∈ tb := tb_of (mem_u2 154 rfl) rfl
set_option maxRecDepth 100000 in
theorem k_395 : (Cond.code yX3_hasFeast prog_5_method_5_code (2) (some .boolean)) ∈ tb := tb_of (mem_u2 155 rfl) rfl
set_option maxRecDepth 100000 in
theorem k_396 : (Cond.methodLink RL (68) yX8_plain) ∈ tb := tb_of (mem_u2 156 rfl) rfl
set_option maxRecDepth 100000 in
theorem k_397 : (Cond.instanceMethod yX8_plain) ∈ tb := tb_of (mem_u2 157 rfl) rfl
set_option maxRecDepth 100000 in
theorem k_398 : (Cond.selects RX8 yX8_plain yX8_plain) ∈ tb := tb_of (mem_u2 158 rfl) rfl
set_option maxRecDepth 100000 in
theorem k_399 : (Cond.code yX8_plain prog_1_method_14_code (3) (some .boolean)) ∈ tb := tb_of (mem_u2 159 rfl) rfl
set_option maxRecDepth 100000 in
theorem k_400 : (Cond.methodLink RX8 (150) yX3_clearStepsAndFeasts) ∈ tb := tb_of (mem_u2 160 rfl) rfl
set_option maxRecDepth 100000 in
theorem k_401 : (Cond.instanceMethod yX3_clearStepsAndFeasts) ∈ tb := tb_of (mem_u2 161 rfl) rfl
set_option maxRecDepth 100000 in
theorem k_402 : (Cond.selects RX3 yX3_clearStepsAndFeasts yX3_clearStepsAndFeasts) ∈ tb := tb_of (mem_u2 162 rfl) rfl
set_option maxRecDepth 100000 in
theorem k_403 : (Cond.code yX3_clearStepsAndFeasts prog_5_method_6_code (2) none) ∈ tb := tb_of (mem_u2 163 rfl) rfl
set_option maxRecDepth 100000 in
theorem k_404 : (Cond.methodLink RX3 (56) yX7_clear) ∈ tb := tb_of (mem_u2 164 rfl) rfl
set_option maxRecDepth 100000 in
theorem k_405 : (Cond.instanceMethod yX7_clear) ∈ tb := tb_of (mem_u2 165 rfl) rfl
set_option maxRecDepth 100000 in
theorem k_406 : (Cond.selects RX7 yX7_clear yX7_clear) ∈ tb := tb_of (mem_u2 166 rfl) rfl
set_option maxRecDepth 100000 in
theorem k_407 : (Cond.code yX7_clear prog_9_method_5_code (2) none) ∈ tb := tb_of (mem_u2 167 rfl) rfl
set_option maxRecDepth 100000 in
theorem k_408 : (Cond.methodLink RL (73) yX8_strange) ∈ tb := tb_of (mem_u2 168 rfl) rfl
set_option maxRecDepth 100000 in
theorem k_409 : (Cond.instanceMethod yX8_strange) ∈ tb := tb_of (mem_u2 169 rfl) rfl
set_option maxRecDepth 100000 in
theorem k_410 : (Cond.selects RX8 yX8_strange yX8_strange) ∈ tb := tb_of (mem_u2 170 rfl) rfl
set_option maxRecDepth 100000 in
theorem k_411 : (Cond.code yX8_strange prog_1_method_15_code (6) (some .boolean)) ∈ tb := tb_of (mem_u2 171 rfl) rfl
set_option maxRecDepth 100000 in
theorem k_412 : (Cond.methodLink RL (78) yX8_isStrange) ∈ tb := tb_of (mem_u2 172 rfl) rfl
set_option maxRecDepth 100000 in
theorem k_413 : (Cond.instanceMethod yX8_isStrange) ∈ tb := tb_of (mem_u2 173 rfl) rfl
set_option maxRecDepth 100000 in
theorem k_414 : (Cond.selects RX8 yX8_isStrange yX8_isStrange) ∈ tb := tb_of (mem_u2 174 rfl) rfl
set_option maxRecDepth 100000 in
theorem k_415 : (Cond.code yX8_isStrange prog_1_method_16_code (4) (some .int)) ∈ tb := tb_of (mem_u2 175 rfl) rfl
set_option maxRecDepth 100000 in
theorem k_416 : (Cond.methodLink RL (82) yX8_part) ∈ tb := tb_of (mem_u2 176 rfl) rfl
set_option maxRecDepth 100000 in
theorem k_417 : (Cond.instanceMethod yX8_part) ∈ tb := tb_of (mem_u2 177 rfl) rfl
set_option maxRecDepth 100000 in
theorem k_418 : (Cond.selects RX8 yX8_part yX8_part) ∈ tb := tb_of (mem_u2 178 rfl) rfl
set_option maxRecDepth 100000 in
theorem k_419 : (Cond.code yX8_part prog_1_method_17_code (4) (some .int)) ∈ tb := tb_of (mem_u2 179 rfl) rfl
set_option maxRecDepth 100000 in
theorem k_420 : (Cond.methodLink RX8 (153) yX2_find) ∈ tb := tb_of (mem_u2 180 rfl) rfl
set_option maxRecDepth 100000 in
theorem k_421 : (Cond.instanceMethod yX2_find) ∈ tb := tb_of (mem_u2 181 rfl) rfl
set_option maxRecDepth 100000 in
theorem k_422 : (Cond.selects RX2 yX2_find yX2_find) ∈ tb := tb_of (mem_u2 182 rfl) rfl
set_option maxRecDepth 100000 in
theorem k_423 : (Cond.code yX2_find prog_4_method_2_code (3) (some .boolean)) ∈ tb := tb_of (mem_u2 183 rfl) rfl
set_option maxRecDepth 100000 in
theorem k_424 : (Cond.methodLink RX2 (63) yX2_weigh) ∈ tb := tb_of (mem_u2 184 rfl) rfl
set_option maxRecDepth 100000 in
theorem k_425 : (Cond.instanceMethod yX2_weigh) ∈ tb := tb_of (mem_u2 185 rfl) rfl
set_option maxRecDepth 100000 in
theorem k_426 : (Cond.selects RX2 yX2_weigh yX2_weigh) ∈ tb := tb_of (mem_u2 186 rfl) rfl
set_option maxRecDepth 100000 in
theorem k_427 : (Cond.code yX2_weigh prog_4_method_3_code (8) (some .boolean)) ∈ tb := tb_of (mem_u2 187 rfl) rfl
set_option maxRecDepth 100000 in
theorem k_428 : (Cond.methodLink RX2 (73) yX2_layModel) ∈ tb := tb_of (mem_u2 188 rfl) rfl
set_option maxRecDepth 100000 in
theorem k_430 : (Cond.instanceMethod yX2_layModel) ∈ tb := tb_of (mem_u2 190 rfl) rfl
set_option maxRecDepth 100000 in
theorem k_431 : (Cond.code yX2_layModel prog_4_method_4_code (3) none) ∈ tb := tb_of (mem_u2 191 rfl) rfl
set_option maxRecDepth 100000 in
theorem k_432 : (Cond.methodLink RX2 (108) yJ9_max_7cf53) ∈ tb := tb_of (mem_u2 192 rfl) rfl
set_option maxRecDepth 100000 in
theorem k_433 : (Cond.static yJ9_max_7cf53) ∈ tb := tb_of (mem_u2 193 rfl) rfl
set_option maxRecDepth 100000 in
theorem k_434 : (Cond.code yJ9_max_7cf53 prog_12_method_65_code (2) (some .int)) ∈ tb := tb_of (mem_u2 194 rfl) rfl
set_option maxRecDepth 100000 in
theorem k_435 : (Cond.methodLink RX2 (118) yX2_layRamp) ∈ tb := tb_of (mem_u2 195 rfl) rfl
set_option maxRecDepth 100000 in
theorem k_437 : (Cond.instanceMethod yX2_layRamp) ∈ tb := tb_of (mem_u2 197 rfl) rfl
set_option maxRecDepth 100000 in
theorem k_438 : (Cond.code yX2_layRamp prog_4_method_5_code (2) none) ∈ tb := tb_of (mem_u2 198 rfl) rfl
set_option maxRecDepth 100000 in
theorem k_439 : (Cond.methodLink RX2 (125) yX7_has) ∈ tb := tb_of (mem_u2 199 rfl) rfl
set_option maxRecDepth 100000 in
theorem k_440 : (Cond.methodLink RX2 (131) yX2_layStep) ∈ tb := tb_of (mem_u2 200 rfl) rfl
set_option maxRecDepth 100000 in
theorem k_442 : (Cond.instanceMethod yX2_layStep) ∈ tb := tb_of (mem_u2 202 rfl) rfl
set_option maxRecDepth 100000 in
theorem k_443 : (Cond.code yX2_layStep prog_4_method_6_code (3) none) ∈ tb := tb_of (mem_u2 203 rfl) rfl
set_option maxRecDepth 100000 in
theorem k_444 : (Cond.methodLink RX2 (135) yX3_hasFeast) ∈ tb := tb_of (mem_u2 204 rfl) rfl
set_option maxRecDepth 100000 in
theorem k_445 : (Cond.methodLink RX2 (142) yX2_layFeast) ∈ tb := tb_of (mem_u2 205 rfl) rfl
set_option maxRecDepth 100000 in
theorem k_447 : (Cond.instanceMethod yX2_layFeast) ∈ tb := tb_of (mem_u2 207 rfl) rfl
set_option maxRecDepth 100000 in
theorem k_448 : (Cond.code yX2_layFeast prog_4_method_7_code (3) none) ∈ tb := tb_of (mem_u2 208 rfl) rfl
set_option maxRecDepth 100000 in
theorem k_449 : (Cond.methodLink RX2 (77) yX2_layNumbers) ∈ tb := tb_of (mem_u2 209 rfl) rfl
set_option maxRecDepth 100000 in
theorem k_451 : (Cond.instanceMethod yX2_layNumbers) ∈ tb := tb_of (mem_u2 211 rfl) rfl
set_option maxRecDepth 100000 in
theorem k_452 : (Cond.code yX2_layNumbers prog_4_method_8_code (4) none) ∈ tb := tb_of (mem_u2 212 rfl) rfl
set_option maxRecDepth 100000 in
theorem k_453 : (Cond.methodLink RX2 (81) yX2_addUp) ∈ tb := tb_of (mem_u2 213 rfl) rfl
set_option maxRecDepth 100000 in
theorem k_455 : (Cond.instanceMethod yX2_addUp) ∈ tb := tb_of (mem_u2 215 rfl) rfl
set_option maxRecDepth 100000 in
theorem k_456 : (Cond.code yX2_addUp prog_4_method_9_code (3) none) ∈ tb := tb_of (mem_u2 216 rfl) rfl
set_option maxRecDepth 100000 in
theorem k_457 : (Cond.methodLink RX2 (150) yJ7_fill_d0a16) ∈ tb := tb_of (mem_u2 217 rfl) rfl
set_option maxRecDepth 100000 in
theorem k_458 : (Cond.static yJ7_fill_d0a16) ∈ tb := tb_of (mem_u2 218 rfl) rfl
set_option maxRecDepth 100000 in
theorem k_459 : (Cond.code yJ7_fill_d0a16 prog_13_method_101_code (5) none) ∈ tb := tb_of (mem_u2 219 rfl) rfl
set_option maxRecDepth 100000 in
theorem k_460 : (Cond.methodLink RX2 (156) yX3_counts) ∈ tb := tb_of (mem_u2 220 rfl) rfl
set_option maxRecDepth 100000 in
theorem k_461 : (Cond.methodLink RX2 (159) yX2_placeOf) ∈ tb := tb_of (mem_u2 221 rfl) rfl
set_option maxRecDepth 100000 in
theorem k_462 : (Cond.instanceMethod yX2_placeOf) ∈ tb := tb_of (mem_u2 222 rfl) rfl
set_option maxRecDepth 100000 in
theorem k_463 : (Cond.selects RX2 yX2_placeOf yX2_placeOf) ∈ tb := tb_of (mem_u2 223 rfl) rfl
set_option maxRecDepth 100000 in
theorem k_464 : (Cond.code yX2_placeOf prog_4_method_26_code (2) (some .int)) ∈ tb := tb_of (mem_u2 224 rfl) rfl
set_option maxRecDepth 100000 in
theorem k_465 : (Cond.methodLink RX2 (163) yX2_addTick) ∈ tb := tb_of (mem_u2 225 rfl) rfl
set_option maxRecDepth 100000 in
theorem k_467 : (Cond.instanceMethod yX2_addTick) ∈ tb := tb_of (mem_u2 227 rfl) rfl
set_option maxRecDepth 100000 in
theorem k_468 : (Cond.code yX2_addTick prog_4_method_10_code (7) none) ∈ tb := tb_of (mem_u2 228 rfl) rfl
set_option maxRecDepth 100000 in
theorem k_469 : (Cond.methodLink RX2 (84) yX2_takeOutPlaces) ∈ tb := tb_of (mem_u2 229 rfl) rfl
set_option maxRecDepth 100000 in
theorem k_471 : (Cond.instanceMethod yX2_takeOutPlaces) ∈ tb := tb_of (mem_u2 231 rfl) rfl
set_option maxRecDepth 100000 in
theorem k_472 : (Cond.code yX2_takeOutPlaces prog_4_method_11_code (8) none) ∈ tb := tb_of (mem_u2 232 rfl) rfl
set_option maxRecDepth 100000 in
theorem k_473 : (Cond.methodLink RX2 (88) yX2_cell) ∈ tb := tb_of (mem_u2 233 rfl) rfl
set_option maxRecDepth 100000 in
theorem k_475 : (Cond.instanceMethod yX2_cell) ∈ tb := tb_of (mem_u2 235 rfl) rfl
set_option maxRecDepth 100000 in
theorem k_476 : (Cond.code yX2_cell prog_4_method_15_code (3) (Option.some (.object RX0))) ∈ tb := tb_of (mem_u2 236 rfl) rfl
set_option maxRecDepth 100000 in
theorem k_477 : (Cond.methodLink RX2 (100) yX0_setTo) ∈ tb := tb_of (mem_u2 237 rfl) rfl
set_option maxRecDepth 100000 in
theorem k_478 : (Cond.instanceMethod yX0_setTo) ∈ tb := tb_of (mem_u2 238 rfl) rfl
set_option maxRecDepth 100000 in
theorem k_479 : (Cond.selects RX0 yX0_setTo yX0_setTo) ∈ tb := tb_of (mem_u2 239 rfl) rfl
set_option maxRecDepth 100000 in
theorem k_480 : (Cond.code yX0_setTo prog_2_method_4_code (5) none) ∈ tb := tb_of (mem_u3 0 rfl) rfl
set_option maxRecDepth 100000 in
theorem k_481 : (Cond.methodLink RX0 (21) yJ9_abs_067f4) ∈ tb := tb_of (mem_u3 1 rfl) rfl
set_option maxRecDepth 100000 in
theorem k_482 : (Cond.static yJ9_abs_067f4) ∈ tb := tb_of (mem_u3 2 rfl) rfl
set_option maxRecDepth 100000 in
theorem k_483 : (Cond.code yJ9_abs_067f4 prog_12_method_61_code (2) (some .long)) ∈ tb := tb_of (mem_u3 3 rfl) rfl
set_option maxRecDepth 100000 in
theorem k_484 : (Cond.constantLong RX0 (27) (134217727)) ∈ tb := tb_of (mem_u3 4 rfl) rfl
set_option maxRecDepth 100000 in
theorem k_485 : (Cond.methodLink RX2 (92) yX0_toLong) ∈ tb := tb_of (mem_u3 5 rfl) rfl
set_option maxRecDepth 100000 in
theorem k_486 : (Cond.instanceMethod yX0_toLong) ∈ tb := tb_of (mem_u3 6 rfl) rfl
set_option maxRecDepth 100000 in
theorem k_487 : (Cond.selects RX0 yX0_toLong yX0_toLong) ∈ tb := tb_of (mem_u3 7 rfl) rfl
set_option maxRecDepth 100000 in
theorem k_488 : (Cond.code yX0_toLong prog_2_method_5_code (3) (some .long)) ∈ tb := tb_of (mem_u3 8 rfl) rfl
set_option maxRecDepth 100000 in
theorem k_489 : (Cond.methodLink RX2 (96) yX2_eliminate) ∈ tb := tb_of (mem_u3 9 rfl) rfl
set_option maxRecDepth 100000 in
theorem k_491 : (Cond.instanceMethod yX2_eliminate) ∈ tb := tb_of (mem_u3 11 rfl) rfl
set_option maxRecDepth 100000 in
theorem k_492 : (Cond.code yX2_eliminate prog_4_method_12_code (7) none) ∈ tb := tb_of (mem_u3 12 rfl) rfl
set_option maxRecDepth 100000 in
theorem k_493 : (Cond.methodLink RX2 (167) yX6_clear) ∈ tb := tb_of (mem_u3 13 rfl) rfl
set_option maxRecDepth 100000 in
theorem k_494 : (Cond.instanceMethod yX6_clear) ∈ tb := tb_of (mem_u3 14 rfl) rfl
set_option maxRecDepth 100000 in
theorem k_495 : (Cond.selects RX6 yX6_clear yX6_clear) ∈ tb := tb_of (mem_u3 15 rfl) rfl
set_option maxRecDepth 100000 in
theorem k_496 : (Cond.code yX6_clear prog_8_method_2_code (1) none) ∈ tb := tb_of (mem_u3 16 rfl) rfl
set_option maxRecDepth 100000 in
theorem k_497 : (Cond.methodLink RX6 (19) yJ7_fill_d0a16) ∈ tb := tb_of (mem_u3 17 rfl) rfl
set_option maxRecDepth 100000 in
theorem k_498 : (Cond.methodLink RX2 (172) yX6_addProduct) ∈ tb := tb_of (mem_u3 18 rfl) rfl
set_option maxRecDepth 100000 in
theorem k_499 : (Cond.instanceMethod yX6_addProduct) ∈ tb := tb_of (mem_u3 19 rfl) rfl
set_option maxRecDepth 100000 in
theorem k_500 : (Cond.selects RX6 yX6_addProduct yX6_addProduct) ∈ tb := tb_of (mem_u3 20 rfl) rfl
set_option maxRecDepth 100000 in
theorem k_501 : (Cond.code yX6_addProduct prog_8_method_3_code (9) none) ∈ tb := tb_of (mem_u3 21 rfl) rfl
set_option maxRecDepth 100000 in
theorem k_502 : (Cond.methodLink RX6 (35) yJ9_max_7cf53) ∈ tb := tb_of (mem_u3 22 rfl) rfl
set_option maxRecDepth 100000 in
theorem k_503 : (Cond.methodLink RX2 (176) yX6_settle) ∈ tb := tb_of (mem_u3 23 rfl) rfl
set_option maxRecDepth 100000 in
theorem k_504 : (Cond.instanceMethod yX6_settle) ∈ tb := tb_of (mem_u3 24 rfl) rfl
set_option maxRecDepth 100000 in
theorem k_505 : (Cond.selects RX6 yX6_settle yX6_settle) ∈ tb := tb_of (mem_u3 25 rfl) rfl
set_option maxRecDepth 100000 in
theorem k_506 : (Cond.code yX6_settle prog_8_method_5_code (8) none) ∈ tb := tb_of (mem_u3 26 rfl) rfl
set_option maxRecDepth 100000 in
theorem k_507 : (Cond.methodLink RX6 (41) yJ9_min_7cf53) ∈ tb := tb_of (mem_u3 27 rfl) rfl
set_option maxRecDepth 100000 in
theorem k_508 : (Cond.static yJ9_min_7cf53) ∈ tb := tb_of (mem_u3 28 rfl) rfl
set_option maxRecDepth 100000 in
theorem k_509 : (Cond.code yJ9_min_7cf53 prog_12_method_69_code (2) (some .int)) ∈ tb := tb_of (mem_u3 29 rfl) rfl
set_option maxRecDepth 100000 in
theorem k_510 : (Cond.constantLong RX6 (44) (134217727)) ∈ tb := tb_of (mem_u3 30 rfl) rfl
set_option maxRecDepth 100000 in
theorem k_511 : (Cond.methodLink RX6 (46) yX6_turnOver) ∈ tb := tb_of (mem_u3 31 rfl) rfl
set_option maxRecDepth 100000 in
theorem k_512 : (Cond.static yX6_turnOver) ∈ tb := tb_of (mem_u3 32 rfl) rfl
set_option maxRecDepth 100000 in
theorem k_513 : (Cond.code yX6_turnOver prog_8_method_6_code (7) none) ∈ tb := tb_of (mem_u3 33 rfl) rfl
set_option maxRecDepth 100000 in
theorem k_514 : (Cond.methodLink RX6 (50) yX0_trim) ∈ tb := tb_of (mem_u3 34 rfl) rfl
set_option maxRecDepth 100000 in
theorem k_515 : (Cond.instanceMethod yX0_trim) ∈ tb := tb_of (mem_u3 35 rfl) rfl
set_option maxRecDepth 100000 in
theorem k_516 : (Cond.selects RX0 yX0_trim yX0_trim) ∈ tb := tb_of (mem_u3 36 rfl) rfl
set_option maxRecDepth 100000 in
theorem k_517 : (Cond.code yX0_trim prog_2_method_6_code (2) none) ∈ tb := tb_of (mem_u3 37 rfl) rfl
set_option maxRecDepth 100000 in
theorem k_518 : (Cond.methodLink RX0 (29) yJ9_min_7cf53) ∈ tb := tb_of (mem_u3 38 rfl) rfl
set_option maxRecDepth 100000 in
theorem k_519 : (Cond.methodLink RX2 (180) yX0_divide) ∈ tb := tb_of (mem_u3 39 rfl) rfl
set_option maxRecDepth 100000 in
theorem k_520 : (Cond.instanceMethod yX0_divide) ∈ tb := tb_of (mem_u3 40 rfl) rfl
set_option maxRecDepth 100000 in
theorem k_521 : (Cond.selects RX0 yX0_divide yX0_divide) ∈ tb := tb_of (mem_u3 41 rfl) rfl
set_option maxRecDepth 100000 in
theorem k_522 : (Cond.code yX0_divide prog_2_method_7_code (18) (some .long)) ∈ tb := tb_of (mem_u3 42 rfl) rfl
set_option maxRecDepth 100000 in
theorem k_523 : (Cond.constantLong RX0 (33) (18014398509481984)) ∈ tb := tb_of (mem_u3 43 rfl) rfl
set_option maxRecDepth 100000 in
theorem k_524 : (Cond.constantLong RX0 (35) (68719476736)) ∈ tb := tb_of (mem_u3 44 rfl) rfl
set_option maxRecDepth 100000 in
theorem k_525 : (Cond.methodLink RX0 (37) yX0_trim) ∈ tb := tb_of (mem_u3 45 rfl) rfl
set_option maxRecDepth 100000 in
theorem k_526 : (Cond.methodLink RX2 (67) yX2_findTops) ∈ tb := tb_of (mem_u3 46 rfl) rfl
set_option maxRecDepth 100000 in
theorem k_528 : (Cond.instanceMethod yX2_findTops) ∈ tb := tb_of (mem_u3 48 rfl) rfl
set_option maxRecDepth 100000 in
theorem k_529 : (Cond.code yX2_findTops prog_4_method_13_code (3) none) ∈ tb := tb_of (mem_u3 49 rfl) rfl
set_option maxRecDepth 100000 in
theorem k_530 : (Cond.methodLink RX2 (70) yX2_findPlaceTops) ∈ tb := tb_of (mem_u3 50 rfl) rfl
set_option maxRecDepth 100000 in
theorem k_532 : (Cond.instanceMethod yX2_findPlaceTops) ∈ tb := tb_of (mem_u3 52 rfl) rfl
set_option maxRecDepth 100000 in
theorem k_533 : (Cond.code yX2_findPlaceTops prog_4_method_14_code (3) none) ∈ tb := tb_of (mem_u3 53 rfl) rfl
set_option maxRecDepth 100000 in
theorem k_534 : (Cond.methodLink RX2 (184) yX6_addTimes) ∈ tb := tb_of (mem_u3 54 rfl) rfl
set_option maxRecDepth 100000 in
theorem k_535 : (Cond.instanceMethod yX6_addTimes) ∈ tb := tb_of (mem_u3 55 rfl) rfl
set_option maxRecDepth 100000 in
theorem k_536 : (Cond.selects RX6 yX6_addTimes yX6_addTimes) ∈ tb := tb_of (mem_u3 56 rfl) rfl
set_option maxRecDepth 100000 in
theorem k_537 : (Cond.code yX6_addTimes prog_8_method_4_code (7) none) ∈ tb := tb_of (mem_u3 57 rfl) rfl
set_option maxRecDepth 100000 in
theorem k_538 : (Cond.methodLink RX8 (157) yX2_level) ∈ tb := tb_of (mem_u3 58 rfl) rfl
set_option maxRecDepth 100000 in
theorem k_539 : (Cond.instanceMethod yX2_level) ∈ tb := tb_of (mem_u3 59 rfl) rfl
set_option maxRecDepth 100000 in
theorem k_540 : (Cond.selects RX2 yX2_level yX2_level) ∈ tb := tb_of (mem_u3 60 rfl) rfl
set_option maxRecDepth 100000 in
theorem k_541 : (Cond.code yX2_level prog_4_method_16_code (2) none) ∈ tb := tb_of (mem_u3 61 rfl) rfl
set_option maxRecDepth 100000 in
theorem k_542 : (Cond.methodLink RX2 (188) yX2_addPlaceTops) ∈ tb := tb_of (mem_u3 62 rfl) rfl
set_option maxRecDepth 100000 in
theorem k_544 : (Cond.instanceMethod yX2_addPlaceTops) ∈ tb := tb_of (mem_u3 64 rfl) rfl
set_option maxRecDepth 100000 in
theorem k_545 : (Cond.code yX2_addPlaceTops prog_4_method_27_code (4) none) ∈ tb := tb_of (mem_u3 65 rfl) rfl
set_option maxRecDepth 100000 in
theorem k_546 : (Cond.methodLink RX8 (164) yX8_tell) ∈ tb := tb_of (mem_u3 66 rfl) rfl
set_option maxRecDepth 100000 in
theorem k_548 : (Cond.instanceMethod yX8_tell) ∈ tb := tb_of (mem_u3 68 rfl) rfl
set_option maxRecDepth 100000 in
theorem k_549 : (Cond.code yX8_tell prog_1_method_31_code (2) (some .int)) ∈ tb := tb_of (mem_u3 69 rfl) rfl
set_option maxRecDepth 100000 in
theorem k_550 : (Cond.methodLink RX8 (222) yX1_start) ∈ tb := tb_of (mem_u3 70 rfl) rfl
set_option maxRecDepth 100000 in
theorem k_551 : (Cond.instanceMethod yX1_start) ∈ tb := tb_of (mem_u3 71 rfl) rfl
set_option maxRecDepth 100000 in
theorem k_552 : (Cond.selects RX1 yX1_start yX1_start) ∈ tb := tb_of (mem_u3 72 rfl) rfl
set_option maxRecDepth 100000 in
theorem k_553 : (Cond.code yX1_start prog_3_method_2_code (1) none) ∈ tb := tb_of (mem_u3 73 rfl) rfl
set_option maxRecDepth 100000 in
theorem k_554 : (Cond.methodLink RX1 (36) yX0_setTo) ∈ tb := tb_of (mem_u3 74 rfl) rfl
set_option maxRecDepth 100000 in
theorem k_555 : (Cond.methodLink RX8 (239) yX1_add) ∈ tb := tb_of (mem_u3 75 rfl) rfl
set_option maxRecDepth 100000 in
theorem k_556 : (Cond.instanceMethod yX1_add) ∈ tb := tb_of (mem_u3 76 rfl) rfl
set_option maxRecDepth 100000 in
theorem k_557 : (Cond.selects RX1 yX1_add yX1_add) ∈ tb := tb_of (mem_u3 77 rfl) rfl
set_option maxRecDepth 100000 in
theorem k_558 : (Cond.code yX1_add prog_3_method_3_code (4) none) ∈ tb := tb_of (mem_u3 78 rfl) rfl
set_option maxRecDepth 100000 in
theorem k_559 : (Cond.methodLink RX1 (40) yX6_clear) ∈ tb := tb_of (mem_u3 79 rfl) rfl
set_option maxRecDepth 100000 in
theorem k_560 : (Cond.methodLink RX1 (45) yX6_addTimes) ∈ tb := tb_of (mem_u3 80 rfl) rfl
set_option maxRecDepth 100000 in
theorem k_561 : (Cond.methodLink RX1 (49) yX6_settle) ∈ tb := tb_of (mem_u3 81 rfl) rfl
set_option maxRecDepth 100000 in
theorem k_562 : (Cond.methodLink RX1 (53) yX6_addProduct) ∈ tb := tb_of (mem_u3 82 rfl) rfl
set_option maxRecDepth 100000 in
theorem k_563 : (Cond.methodLink RX1 (57) yX0_toLong) ∈ tb := tb_of (mem_u3 83 rfl) rfl
set_option maxRecDepth 100000 in
theorem k_564 : (Cond.methodLink RX1 (61) yX1_keepDivisor) ∈ tb := tb_of (mem_u3 84 rfl) rfl
set_option maxRecDepth 100000 in
theorem k_566 : (Cond.instanceMethod yX1_keepDivisor) ∈ tb := tb_of (mem_u3 86 rfl) rfl
set_option maxRecDepth 100000 in
theorem k_567 : (Cond.code yX1_keepDivisor prog_3_method_5_code (3) none) ∈ tb := tb_of (mem_u3 87 rfl) rfl
set_option maxRecDepth 100000 in
theorem k_568 : (Cond.methodLink RX8 (229) yX1_divideBy) ∈ tb := tb_of (mem_u3 88 rfl) rfl
set_option maxRecDepth 100000 in
theorem k_569 : (Cond.instanceMethod yX1_divideBy) ∈ tb := tb_of (mem_u3 89 rfl) rfl
set_option maxRecDepth 100000 in
theorem k_570 : (Cond.selects RX1 yX1_divideBy yX1_divideBy) ∈ tb := tb_of (mem_u3 90 rfl) rfl
set_option maxRecDepth 100000 in
theorem k_571 : (Cond.code yX1_divideBy prog_3_method_4_code (2) none) ∈ tb := tb_of (mem_u3 91 rfl) rfl
set_option maxRecDepth 100000 in
theorem k_572 : (Cond.methodLink RX8 (233) yX8_tellAnswer) ∈ tb := tb_of (mem_u3 92 rfl) rfl
set_option maxRecDepth 100000 in
theorem k_574 : (Cond.instanceMethod yX8_tellAnswer) ∈ tb := tb_of (mem_u3 94 rfl) rfl
set_option maxRecDepth 100000 in
theorem k_575 : (Cond.code yX8_tellAnswer prog_1_method_32_code (1) (some .int)) ∈ tb := tb_of (mem_u3 95 rfl) rfl
set_option maxRecDepth 100000 in
theorem k_576 : (Cond.methodLink RX8 (242) yX1_reduce) ∈ tb := tb_of (mem_u3 96 rfl) rfl
set_option maxRecDepth 100000 in
theorem k_577 : (Cond.instanceMethod yX1_reduce) ∈ tb := tb_of (mem_u3 97 rfl) rfl
set_option maxRecDepth 100000 in
theorem k_578 : (Cond.selects RX1 yX1_reduce yX1_reduce) ∈ tb := tb_of (mem_u3 98 rfl) rfl
set_option maxRecDepth 100000 in
theorem k_579 : (Cond.code yX1_reduce prog_3_method_6_code (4) none) ∈ tb := tb_of (mem_u3 99 rfl) rfl
set_option maxRecDepth 100000 in
theorem k_580 : (Cond.methodLink RX1 (64) yX0_copy) ∈ tb := tb_of (mem_u3 100 rfl) rfl
set_option maxRecDepth 100000 in
theorem k_581 : (Cond.instanceMethod yX0_copy) ∈ tb := tb_of (mem_u3 101 rfl) rfl
set_option maxRecDepth 100000 in
theorem k_582 : (Cond.selects RX0 yX0_copy yX0_copy) ∈ tb := tb_of (mem_u3 102 rfl) rfl
set_option maxRecDepth 100000 in
theorem k_583 : (Cond.code yX0_copy prog_2_method_3_code (3) none) ∈ tb := tb_of (mem_u3 103 rfl) rfl
set_option maxRecDepth 100000 in
theorem k_584 : (Cond.methodLink RX1 (67) yX0_divide) ∈ tb := tb_of (mem_u3 104 rfl) rfl
set_option maxRecDepth 100000 in
theorem k_585 : (Cond.methodLink RX1 (71) yX1_commonDivisor) ∈ tb := tb_of (mem_u3 105 rfl) rfl
set_option maxRecDepth 100000 in
theorem k_586 : (Cond.static yX1_commonDivisor) ∈ tb := tb_of (mem_u3 106 rfl) rfl
set_option maxRecDepth 100000 in
theorem k_587 : (Cond.code yX1_commonDivisor prog_3_method_7_code (11) (some .long)) ∈ tb := tb_of (mem_u3 107 rfl) rfl
set_option maxRecDepth 100000 in
theorem k_588 : (Cond.methodLink RX8 (245) yX4_write) ∈ tb := tb_of (mem_u3 108 rfl) rfl
set_option maxRecDepth 100000 in
theorem k_589 : (Cond.instanceMethod yX4_write) ∈ tb := tb_of (mem_u3 109 rfl) rfl
set_option maxRecDepth 100000 in
theorem k_590 : (Cond.selects RX4 yX4_write yX4_write) ∈ tb := tb_of (mem_u3 110 rfl) rfl
set_option maxRecDepth 100000 in
theorem k_591 : (Cond.code yX4_write prog_6_method_4_code (3) none) ∈ tb := tb_of (mem_u3 111 rfl) rfl
set_option maxRecDepth 100000 in
theorem k_592 : (Cond.methodLink RX4 (38) yX4_writeDigits) ∈ tb := tb_of (mem_u3 112 rfl) rfl
set_option maxRecDepth 100000 in
theorem k_594 : (Cond.instanceMethod yX4_writeDigits) ∈ tb := tb_of (mem_u3 114 rfl) rfl
set_option maxRecDepth 100000 in
theorem k_595 : (Cond.code yX4_writeDigits prog_6_method_5_code (3) none) ∈ tb := tb_of (mem_u3 115 rfl) rfl
set_option maxRecDepth 100000 in
theorem k_596 : (Cond.methodLink RX4 (46) yX0_isZero) ∈ tb := tb_of (mem_u3 116 rfl) rfl
set_option maxRecDepth 100000 in
theorem k_597 : (Cond.instanceMethod yX0_isZero) ∈ tb := tb_of (mem_u3 117 rfl) rfl
set_option maxRecDepth 100000 in
theorem k_598 : (Cond.selects RX0 yX0_isZero yX0_isZero) ∈ tb := tb_of (mem_u3 118 rfl) rfl
set_option maxRecDepth 100000 in
theorem k_599 : (Cond.code yX0_isZero prog_2_method_2_code (1) (some .boolean)) ∈ tb := tb_of (mem_u3 119 rfl) rfl
set_option maxRecDepth 100000 in
theorem k_600 : (Cond.constantLong RX4 (50) (48)) ∈ tb := tb_of (mem_u3 120 rfl) rfl
set_option maxRecDepth 100000 in
theorem k_601 : (Cond.constantLong RX4 (52) (10)) ∈ tb := tb_of (mem_u3 121 rfl) rfl
set_option maxRecDepth 100000 in
theorem k_602 : (Cond.methodLink RX4 (54) yX0_divide) ∈ tb := tb_of (mem_u3 122 rfl) rfl
set_option maxRecDepth 100000 in
theorem k_603 : (Cond.methodLink RX4 (42) yX4_writeByte) ∈ tb := tb_of (mem_u3 123 rfl) rfl
set_option maxRecDepth 100000 in
theorem k_605 : (Cond.instanceMethod yX4_writeByte) ∈ tb := tb_of (mem_u3 125 rfl) rfl
set_option maxRecDepth 100000 in
theorem k_606 : (Cond.code yX4_writeByte prog_6_method_6_code (2) none) ∈ tb := tb_of (mem_u3 126 rfl) rfl
set_option maxRecDepth 100000 in
theorem k_607 : (Cond.methodLink RX8 (249) yX4_length) ∈ tb := tb_of (mem_u3 127 rfl) rfl
set_option maxRecDepth 100000 in
theorem k_608 : (Cond.methodLink RX8 (167) yX2_slope) ∈ tb := tb_of (mem_u3 128 rfl) rfl
set_option maxRecDepth 100000 in
theorem k_609 : (Cond.instanceMethod yX2_slope) ∈ tb := tb_of (mem_u3 129 rfl) rfl
set_option maxRecDepth 100000 in
theorem k_610 : (Cond.selects RX2 yX2_slope yX2_slope) ∈ tb := tb_of (mem_u3 130 rfl) rfl
set_option maxRecDepth 100000 in
theorem k_611 : (Cond.code yX2_slope prog_4_method_17_code (2) none) ∈ tb := tb_of (mem_u3 131 rfl) rfl
set_option maxRecDepth 100000 in
theorem k_612 : (Cond.methodLink RX2 (191) yX0_copy) ∈ tb := tb_of (mem_u3 132 rfl) rfl
set_option maxRecDepth 100000 in
theorem k_613 : (Cond.methodLink RX8 (170) yX2_cost) ∈ tb := tb_of (mem_u3 133 rfl) rfl
set_option maxRecDepth 100000 in
theorem k_614 : (Cond.instanceMethod yX2_cost) ∈ tb := tb_of (mem_u3 134 rfl) rfl
set_option maxRecDepth 100000 in
theorem k_615 : (Cond.selects RX2 yX2_cost yX2_cost) ∈ tb := tb_of (mem_u3 135 rfl) rfl
set_option maxRecDepth 100000 in
theorem k_616 : (Cond.code yX2_cost prog_4_method_18_code (2) none) ∈ tb := tb_of (mem_u3 136 rfl) rfl
set_option maxRecDepth 100000 in
theorem k_617 : (Cond.methodLink RL (86) yX8_stepBy) ∈ tb := tb_of (mem_u3 137 rfl) rfl
set_option maxRecDepth 100000 in
theorem k_618 : (Cond.instanceMethod yX8_stepBy) ∈ tb := tb_of (mem_u3 138 rfl) rfl
set_option maxRecDepth 100000 in
theorem k_619 : (Cond.selects RX8 yX8_stepBy yX8_stepBy) ∈ tb := tb_of (mem_u3 139 rfl) rfl
set_option maxRecDepth 100000 in
theorem k_620 : (Cond.code yX8_stepBy prog_1_method_18_code (4) (some .int)) ∈ tb := tb_of (mem_u3 140 rfl) rfl
set_option maxRecDepth 100000 in
theorem k_621 : (Cond.methodLink RX8 (176) yX2_unknown) ∈ tb := tb_of (mem_u3 141 rfl) rfl
set_option maxRecDepth 100000 in
theorem k_622 : (Cond.instanceMethod yX2_unknown) ∈ tb := tb_of (mem_u3 142 rfl) rfl
set_option maxRecDepth 100000 in
theorem k_623 : (Cond.selects RX2 yX2_unknown yX2_unknown) ∈ tb := tb_of (mem_u3 143 rfl) rfl
set_option maxRecDepth 100000 in
theorem k_624 : (Cond.code yX2_unknown prog_4_method_19_code (3) none) ∈ tb := tb_of (mem_u3 144 rfl) rfl
set_option maxRecDepth 100000 in
theorem k_625 : (Cond.methodLink RL (90) yX8_feastBy) ∈ tb := tb_of (mem_u3 145 rfl) rfl
set_option maxRecDepth 100000 in
theorem k_626 : (Cond.instanceMethod yX8_feastBy) ∈ tb := tb_of (mem_u3 146 rfl) rfl
set_option maxRecDepth 100000 in
theorem k_627 : (Cond.selects RX8 yX8_feastBy yX8_feastBy) ∈ tb := tb_of (mem_u3 147 rfl) rfl
set_option maxRecDepth 100000 in
theorem k_628 : (Cond.code yX8_feastBy prog_1_method_19_code (4) (some .int)) ∈ tb := tb_of (mem_u3 148 rfl) rfl
set_option maxRecDepth 100000 in
theorem k_629 : (Cond.methodLink RL (94) yX8_season) ∈ tb := tb_of (mem_u3 149 rfl) rfl
set_option maxRecDepth 100000 in
theorem k_630 : (Cond.instanceMethod yX8_season) ∈ tb := tb_of (mem_u3 150 rfl) rfl
set_option maxRecDepth 100000 in
theorem k_631 : (Cond.selects RX8 yX8_season yX8_season) ∈ tb := tb_of (mem_u3 151 rfl) rfl
set_option maxRecDepth 100000 in
theorem k_632 : (Cond.code yX8_season prog_1_method_20_code (4) (some .int)) ∈ tb := tb_of (mem_u3 152 rfl) rfl
set_option maxRecDepth 100000 in
theorem k_633 : (Cond.methodLink RX8 (183) yX2_seasonOf) ∈ tb := tb_of (mem_u3 153 rfl) rfl
set_option maxRecDepth 100000 in
theorem k_634 : (Cond.instanceMethod yX2_seasonOf) ∈ tb := tb_of (mem_u3 154 rfl) rfl
set_option maxRecDepth 100000 in
theorem k_635 : (Cond.selects RX2 yX2_seasonOf yX2_seasonOf) ∈ tb := tb_of (mem_u3 155 rfl) rfl
set_option maxRecDepth 100000 in
theorem k_636 : (Cond.code yX2_seasonOf prog_4_method_21_code (3) none) ∈ tb := tb_of (mem_u3 156 rfl) rfl
set_option maxRecDepth 100000 in
theorem k_637 : (Cond.constantLong RX2 (198) (-1)) ∈ tb := tb_of (mem_u3 157 rfl) rfl
set_option maxRecDepth 100000 in
theorem k_638 : (Cond.methodLink RL (98) yX8_at) ∈ tb := tb_of (mem_u3 158 rfl) rfl
set_option maxRecDepth 100000 in
theorem k_639 : (Cond.instanceMethod yX8_at) ∈ tb := tb_of (mem_u3 159 rfl) rfl
set_option maxRecDepth 100000 in
theorem k_640 : (Cond.selects RX8 yX8_at yX8_at) ∈ tb := tb_of (mem_u3 160 rfl) rfl
set_option maxRecDepth 100000 in
theorem k_641 : (Cond.code yX8_at prog_1_method_21_code (5) (some .int)) ∈ tb := tb_of (mem_u3 161 rfl) rfl
set_option maxRecDepth 100000 in
theorem k_642 : (Cond.methodLink RX8 (186) yX8_isFarTick) ∈ tb := tb_of (mem_u3 162 rfl) rfl
set_option maxRecDepth 100000 in
theorem k_643 : (Cond.static yX8_isFarTick) ∈ tb := tb_of (mem_u3 163 rfl) rfl
set_option maxRecDepth 100000 in
theorem k_644 : (Cond.code yX8_isFarTick prog_1_method_37_code (1) (some .boolean)) ∈ tb := tb_of (mem_u3 164 rfl) rfl
set_option maxRecDepth 100000 in
theorem k_645 : (Cond.methodLink RX8 (189) yX2_trend) ∈ tb := tb_of (mem_u3 165 rfl) rfl
set_option maxRecDepth 100000 in
theorem k_646 : (Cond.instanceMethod yX2_trend) ∈ tb := tb_of (mem_u3 166 rfl) rfl
set_option maxRecDepth 100000 in
theorem k_647 : (Cond.selects RX2 yX2_trend yX2_trend) ∈ tb := tb_of (mem_u3 167 rfl) rfl
set_option maxRecDepth 100000 in
theorem k_648 : (Cond.code yX2_trend prog_4_method_20_code (3) none) ∈ tb := tb_of (mem_u3 168 rfl) rfl
set_option maxRecDepth 100000 in
theorem k_649 : (Cond.methodLink RX2 (194) yX2_addUnknowns) ∈ tb := tb_of (mem_u3 169 rfl) rfl
set_option maxRecDepth 100000 in
theorem k_651 : (Cond.instanceMethod yX2_addUnknowns) ∈ tb := tb_of (mem_u3 171 rfl) rfl
set_option maxRecDepth 100000 in
theorem k_652 : (Cond.code yX2_addUnknowns prog_4_method_28_code (7) none) ∈ tb := tb_of (mem_u3 172 rfl) rfl
set_option maxRecDepth 100000 in
theorem n_653 : (Cond.methodLinkNest RX2 (209) yX8_isFarTick RX8) ∈ lw_tbl := mem_u3 173 rfl
set_option maxRecDepth 100000 in
theorem k_654 : (Cond.methodLink RX8 (192) yX2_placeOf) ∈ tb := tb_of (mem_u3 174 rfl) rfl
set_option maxRecDepth 100000 in
theorem k_655 : (Cond.methodLink RX8 (195) yX2_feastsOn) ∈ tb := tb_of (mem_u3 175 rfl) rfl
set_option maxRecDepth 100000 in
theorem k_656 : (Cond.instanceMethod yX2_feastsOn) ∈ tb := tb_of (mem_u3 176 rfl) rfl
set_option maxRecDepth 100000 in
theorem k_657 : (Cond.selects RX2 yX2_feastsOn yX2_feastsOn) ∈ tb := tb_of (mem_u3 177 rfl) rfl
set_option maxRecDepth 100000 in
theorem k_658 : (Cond.code yX2_feastsOn prog_4_method_22_code (3) none) ∈ tb := tb_of (mem_u3 178 rfl) rfl
set_option maxRecDepth 100000 in
theorem k_659 : (Cond.methodLink RX8 (198) yX2_foretold) ∈ tb := tb_of (mem_u3 179 rfl) rfl
set_option maxRecDepth 100000 in
theorem k_660 : (Cond.instanceMethod yX2_foretold) ∈ tb := tb_of (mem_u3 180 rfl) rfl
set_option maxRecDepth 100000 in
theorem k_661 : (Cond.selects RX2 yX2_foretold yX2_foretold) ∈ tb := tb_of (mem_u3 181 rfl) rfl
set_option maxRecDepth 100000 in
theorem k_662 : (Cond.code yX2_foretold prog_4_method_23_code (3) none) ∈ tb := tb_of (mem_u3 182 rfl) rfl
set_option maxRecDepth 100000 in
theorem k_663 : (Cond.methodLink RX2 (200) yX2_addAllParts) ∈ tb := tb_of (mem_u3 183 rfl) rfl
set_option maxRecDepth 100000 in
theorem k_665 : (Cond.instanceMethod yX2_addAllParts) ∈ tb := tb_of (mem_u3 185 rfl) rfl
set_option maxRecDepth 100000 in
theorem k_666 : (Cond.code yX2_addAllParts prog_4_method_29_code (4) none) ∈ tb := tb_of (mem_u3 186 rfl) rfl
set_option maxRecDepth 100000 in
theorem k_667 : (Cond.methodLink RL (103) yX8_rest) ∈ tb := tb_of (mem_u3 187 rfl) rfl
set_option maxRecDepth 100000 in
theorem k_668 : (Cond.instanceMethod yX8_rest) ∈ tb := tb_of (mem_u3 188 rfl) rfl
set_option maxRecDepth 100000 in
theorem k_669 : (Cond.selects RX8 yX8_rest yX8_rest) ∈ tb := tb_of (mem_u3 189 rfl) rfl
set_option maxRecDepth 100000 in
theorem k_670 : (Cond.code yX8_rest prog_1_method_22_code (4) (some .int)) ∈ tb := tb_of (mem_u3 190 rfl) rfl
set_option maxRecDepth 100000 in
theorem k_671 : (Cond.methodLink RX8 (201) yX2_leftOver) ∈ tb := tb_of (mem_u3 191 rfl) rfl
set_option maxRecDepth 100000 in
theorem k_672 : (Cond.instanceMethod yX2_leftOver) ∈ tb := tb_of (mem_u3 192 rfl) rfl
set_option maxRecDepth 100000 in
theorem k_673 : (Cond.selects RX2 yX2_leftOver yX2_leftOver) ∈ tb := tb_of (mem_u3 193 rfl) rfl
set_option maxRecDepth 100000 in
theorem k_674 : (Cond.code yX2_leftOver prog_4_method_24_code (3) none) ∈ tb := tb_of (mem_u3 194 rfl) rfl
set_option maxRecDepth 100000 in
theorem n_675 : (Cond.methodLinkNest RX2 (203) yX8_isTick RX8) ∈ lw_tbl := mem_u3 195 rfl
set_option maxRecDepth 100000 in
theorem k_676 : (Cond.methodLink RL (107) yX8_where) ∈ tb := tb_of (mem_u3 196 rfl) rfl
set_option maxRecDepth 100000 in
theorem k_677 : (Cond.instanceMethod yX8_where) ∈ tb := tb_of (mem_u3 197 rfl) rfl
set_option maxRecDepth 100000 in
theorem k_678 : (Cond.selects RX8 yX8_where yX8_where) ∈ tb := tb_of (mem_u3 198 rfl) rfl
set_option maxRecDepth 100000 in
theorem k_679 : (Cond.code yX8_where prog_1_method_23_code (4) (some .int)) ∈ tb := tb_of (mem_u3 199 rfl) rfl
set_option maxRecDepth 100000 in
theorem k_680 : (Cond.methodLink RX8 (204) yX8_cheapestStep) ∈ tb := tb_of (mem_u3 200 rfl) rfl
set_option maxRecDepth 100000 in
theorem k_682 : (Cond.instanceMethod yX8_cheapestStep) ∈ tb := tb_of (mem_u3 202 rfl) rfl
set_option maxRecDepth 100000 in
theorem k_683 : (Cond.code yX8_cheapestStep prog_1_method_34_code (5) (some .int)) ∈ tb := tb_of (mem_u3 203 rfl) rfl
set_option maxRecDepth 100000 in
theorem k_684 : (Cond.methodLink RX8 (215) yX3_counts) ∈ tb := tb_of (mem_u3 204 rfl) rfl
set_option maxRecDepth 100000 in
theorem k_685 : (Cond.methodLink RX8 (252) yX2_weigh) ∈ tb := tb_of (mem_u3 205 rfl) rfl
set_option maxRecDepth 100000 in
theorem k_686 : (Cond.methodLink RX8 (255) yX2_costsLessThan) ∈ tb := tb_of (mem_u3 206 rfl) rfl
set_option maxRecDepth 100000 in
theorem k_687 : (Cond.instanceMethod yX2_costsLessThan) ∈ tb := tb_of (mem_u3 207 rfl) rfl
set_option maxRecDepth 100000 in
theorem k_688 : (Cond.selects RX2 yX2_costsLessThan yX2_costsLessThan) ∈ tb := tb_of (mem_u3 208 rfl) rfl
set_option maxRecDepth 100000 in
theorem k_689 : (Cond.code yX2_costsLessThan prog_4_method_25_code (3) (some .boolean)) ∈ tb := tb_of (mem_u3 209 rfl) rfl
set_option maxRecDepth 100000 in
theorem k_690 : (Cond.methodLink RX8 (259) yX0_copy) ∈ tb := tb_of (mem_u3 210 rfl) rfl
set_option maxRecDepth 100000 in
theorem k_691 : (Cond.methodLink RL (111) yX8_rounds) ∈ tb := tb_of (mem_u3 211 rfl) rfl
set_option maxRecDepth 100000 in
theorem k_692 : (Cond.instanceMethod yX8_rounds) ∈ tb := tb_of (mem_u3 212 rfl) rfl
set_option maxRecDepth 100000 in
theorem k_693 : (Cond.selects RX8 yX8_rounds yX8_rounds) ∈ tb := tb_of (mem_u3 213 rfl) rfl
set_option maxRecDepth 100000 in
theorem k_694 : (Cond.code yX8_rounds prog_1_method_24_code (5) (some .int)) ∈ tb := tb_of (mem_u3 214 rfl) rfl
set_option maxRecDepth 100000 in
theorem k_695 : (Cond.methodLink RX8 (208) yX8_isShare) ∈ tb := tb_of (mem_u3 215 rfl) rfl
set_option maxRecDepth 100000 in
theorem k_696 : (Cond.static yX8_isShare) ∈ tb := tb_of (mem_u3 216 rfl) rfl
set_option maxRecDepth 100000 in
theorem k_697 : (Cond.code yX8_isShare prog_1_method_39_code (1) (some .boolean)) ∈ tb := tb_of (mem_u3 217 rfl) rfl
set_option maxRecDepth 100000 in
theorem k_698 : (Cond.methodLink RX8 (211) yX5_run) ∈ tb := tb_of (mem_u3 218 rfl) rfl
set_option maxRecDepth 100000 in
theorem k_699 : (Cond.instanceMethod yX5_run) ∈ tb := tb_of (mem_u3 219 rfl) rfl
set_option maxRecDepth 100000 in
theorem k_700 : (Cond.selects RX5 yX5_run yX5_run) ∈ tb := tb_of (mem_u3 220 rfl) rfl
set_option maxRecDepth 100000 in
theorem k_701 : (Cond.code yX5_run prog_7_method_2_code (6) (some .boolean)) ∈ tb := tb_of (mem_u3 221 rfl) rfl
set_option maxRecDepth 100000 in
theorem k_702 : (Cond.methodLink RX5 (45) yX7_copy) ∈ tb := tb_of (mem_u3 222 rfl) rfl
set_option maxRecDepth 100000 in
theorem k_703 : (Cond.instanceMethod yX7_copy) ∈ tb := tb_of (mem_u3 223 rfl) rfl
set_option maxRecDepth 100000 in
theorem k_704 : (Cond.selects RX7 yX7_copy yX7_copy) ∈ tb := tb_of (mem_u3 224 rfl) rfl
set_option maxRecDepth 100000 in
theorem k_705 : (Cond.code yX7_copy prog_9_method_6_code (3) none) ∈ tb := tb_of (mem_u3 225 rfl) rfl
set_option maxRecDepth 100000 in
theorem k_706 : (Cond.methodLink RX5 (49) yX7_clear) ∈ tb := tb_of (mem_u3 226 rfl) rfl
set_option maxRecDepth 100000 in
theorem k_707 : (Cond.methodLink RX5 (52) yX2_find) ∈ tb := tb_of (mem_u3 227 rfl) rfl
set_option maxRecDepth 100000 in
theorem k_708 : (Cond.methodLink RX5 (58) yX5_measure) ∈ tb := tb_of (mem_u3 228 rfl) rfl
set_option maxRecDepth 100000 in
theorem k_710 : (Cond.instanceMethod yX5_measure) ∈ tb := tb_of (mem_u3 230 rfl) rfl
set_option maxRecDepth 100000 in
theorem k_711 : (Cond.code yX5_measure prog_7_method_3_code (3) none) ∈ tb := tb_of (mem_u3 231 rfl) rfl
set_option maxRecDepth 100000 in
theorem k_712 : (Cond.methodLink RX5 (69) yX3_counts) ∈ tb := tb_of (mem_u3 232 rfl) rfl
set_option maxRecDepth 100000 in
theorem k_713 : (Cond.methodLink RX5 (73) yX2_leftOver) ∈ tb := tb_of (mem_u3 233 rfl) rfl
set_option maxRecDepth 100000 in
theorem k_714 : (Cond.methodLink RX5 (62) yX5_findMiddle) ∈ tb := tb_of (mem_u3 234 rfl) rfl
set_option maxRecDepth 100000 in
theorem k_716 : (Cond.instanceMethod yX5_findMiddle) ∈ tb := tb_of (mem_u3 236 rfl) rfl
set_option maxRecDepth 100000 in
theorem k_717 : (Cond.code yX5_findMiddle prog_7_method_4_code (5) none) ∈ tb := tb_of (mem_u3 237 rfl) rfl
set_option maxRecDepth 100000 in
theorem k_718 : (Cond.methodLink RX5 (81) yX3_countedTicks) ∈ tb := tb_of (mem_u3 238 rfl) rfl
set_option maxRecDepth 100000 in
theorem k_719 : (Cond.methodLink RX5 (85) yX0_setTo) ∈ tb := tb_of (mem_u3 239 rfl) rfl
set_option maxRecDepth 100000 in
theorem k_720 : (Cond.methodLink RX5 (89) yX0_compareSize) ∈ tb := tb_of (mem_u4 0 rfl) rfl
set_option maxRecDepth 100000 in
theorem k_721 : (Cond.instanceMethod yX0_compareSize) ∈ tb := tb_of (mem_u4 1 rfl) rfl
set_option maxRecDepth 100000 in
theorem k_722 : (Cond.selects RX0 yX0_compareSize yX0_compareSize) ∈ tb := tb_of (mem_u4 2 rfl) rfl
set_option maxRecDepth 100000 in
theorem k_723 : (Cond.code yX0_compareSize prog_2_method_8_code (3) (some .int)) ∈ tb := tb_of (mem_u4 3 rfl) rfl
set_option maxRecDepth 100000 in
theorem k_724 : (Cond.methodLink RX5 (93) yX5_asGreat) ∈ tb := tb_of (mem_u4 4 rfl) rfl
set_option maxRecDepth 100000 in
theorem k_726 : (Cond.instanceMethod yX5_asGreat) ∈ tb := tb_of (mem_u4 6 rfl) rfl
set_option maxRecDepth 100000 in
theorem k_727 : (Cond.code yX5_asGreat prog_7_method_5_code (5) (some .int)) ∈ tb := tb_of (mem_u4 7 rfl) rfl
set_option maxRecDepth 100000 in
theorem k_728 : (Cond.methodLink RX5 (97) yX0_copy) ∈ tb := tb_of (mem_u4 8 rfl) rfl
set_option maxRecDepth 100000 in
theorem k_729 : (Cond.methodLink RX5 (65) yX5_leaveOut) ∈ tb := tb_of (mem_u4 9 rfl) rfl
set_option maxRecDepth 100000 in
theorem k_731 : (Cond.instanceMethod yX5_leaveOut) ∈ tb := tb_of (mem_u4 11 rfl) rfl
set_option maxRecDepth 100000 in
theorem k_732 : (Cond.code yX5_leaveOut prog_7_method_6_code (6) (some .boolean)) ∈ tb := tb_of (mem_u4 12 rfl) rfl
set_option maxRecDepth 100000 in
theorem k_733 : (Cond.methodLink RX5 (104) yX5_isAbove) ∈ tb := tb_of (mem_u4 13 rfl) rfl
set_option maxRecDepth 100000 in
theorem k_735 : (Cond.instanceMethod yX5_isAbove) ∈ tb := tb_of (mem_u4 15 rfl) rfl
set_option maxRecDepth 100000 in
theorem k_736 : (Cond.code yX5_isAbove prog_7_method_7_code (4) (some .boolean)) ∈ tb := tb_of (mem_u4 16 rfl) rfl
set_option maxRecDepth 100000 in
theorem k_737 : (Cond.methodLink RX5 (111) yX6_clear) ∈ tb := tb_of (mem_u4 17 rfl) rfl
set_option maxRecDepth 100000 in
theorem k_738 : (Cond.methodLink RX5 (114) yX6_addTimes) ∈ tb := tb_of (mem_u4 18 rfl) rfl
set_option maxRecDepth 100000 in
theorem k_739 : (Cond.methodLink RX5 (118) yX6_settle) ∈ tb := tb_of (mem_u4 19 rfl) rfl
set_option maxRecDepth 100000 in
theorem k_740 : (Cond.methodLink RX5 (108) yX7_add) ∈ tb := tb_of (mem_u4 20 rfl) rfl
set_option maxRecDepth 100000 in
theorem k_741 : (Cond.methodLink RL (115) yX8_pull) ∈ tb := tb_of (mem_u4 21 rfl) rfl
set_option maxRecDepth 100000 in
theorem k_742 : (Cond.instanceMethod yX8_pull) ∈ tb := tb_of (mem_u4 22 rfl) rfl
set_option maxRecDepth 100000 in
theorem k_743 : (Cond.selects RX8 yX8_pull yX8_pull) ∈ tb := tb_of (mem_u4 23 rfl) rfl
set_option maxRecDepth 100000 in
theorem k_744 : (Cond.code yX8_pull prog_1_method_25_code (5) (some .int)) ∈ tb := tb_of (mem_u4 24 rfl) rfl
set_option maxRecDepth 100000 in
theorem k_745 : (Cond.methodLink RL (119) yX8_right) ∈ tb := tb_of (mem_u4 25 rfl) rfl
set_option maxRecDepth 100000 in
theorem k_746 : (Cond.instanceMethod yX8_right) ∈ tb := tb_of (mem_u4 26 rfl) rfl
set_option maxRecDepth 100000 in
theorem k_747 : (Cond.selects RX8 yX8_right yX8_right) ∈ tb := tb_of (mem_u4 27 rfl) rfl
set_option maxRecDepth 100000 in
theorem k_748 : (Cond.code yX8_right prog_1_method_26_code (9) (some .int)) ∈ tb := tb_of (mem_u4 28 rfl) rfl
set_option maxRecDepth 100000 in
theorem k_749 : (Cond.methodLink RX8 (218) yX8_areFourRows) ∈ tb := tb_of (mem_u4 29 rfl) rfl
set_option maxRecDepth 100000 in
theorem k_751 : (Cond.instanceMethod yX8_areFourRows) ∈ tb := tb_of (mem_u4 31 rfl) rfl
set_option maxRecDepth 100000 in
theorem k_752 : (Cond.code yX8_areFourRows prog_1_method_40_code (5) (some .boolean)) ∈ tb := tb_of (mem_u4 32 rfl) rfl
set_option maxRecDepth 100000 in
theorem k_753 : (Cond.methodLink RX8 (225) yX8_addForetold) ∈ tb := tb_of (mem_u4 33 rfl) rfl
set_option maxRecDepth 100000 in
theorem k_755 : (Cond.instanceMethod yX8_addForetold) ∈ tb := tb_of (mem_u4 35 rfl) rfl
set_option maxRecDepth 100000 in
theorem k_756 : (Cond.code yX8_addForetold prog_1_method_33_code (5) (some .boolean)) ∈ tb := tb_of (mem_u4 36 rfl) rfl
set_option maxRecDepth 100000 in
theorem k_757 : (Cond.classLink RL (10) RX9) ∈ tb := tb_of (mem_u4 37 rfl) rfl
set_option maxRecDepth 100000 in
theorem k_758 : (Cond.instantiable RX9 (30)) ∈ tb := tb_of (mem_u4 38 rfl) rfl
set_option maxRecDepth 100000 in
theorem k_759 : (Cond.methodLink RL (12) yX9_init) ∈ tb := tb_of (mem_u4 39 rfl) rfl
set_option maxRecDepth 100000 in
theorem k_760 : (Cond.instanceMethod yX9_init) ∈ tb := tb_of (mem_u4 40 rfl) rfl
set_option maxRecDepth 100000 in
theorem k_761 : (Cond.code yX9_init prog_11_method_1_code (1) none) ∈ tb := tb_of (mem_u4 41 rfl) rfl
set_option maxRecDepth 100000 in
theorem k_762 : (Cond.methodLink RX9 (1) objectInit) ∈ tb := tb_of (mem_u4 42 rfl) rfl
set_option maxRecDepth 100000 in
theorem k_763 : (Cond.constant RX9 (7) (700000)) ∈ tb := tb_of (mem_u4 43 rfl) rfl
set_option maxRecDepth 100000 in
theorem k_764 : (Cond.fieldLink RX9 (82) "SeasonRowsModel" "status" "I") ∈ tb := tb_of (mem_u4 44 rfl) rfl
set_option maxRecDepth 100000 in
theorem k_765 : (Cond.fieldLink RX9 (8) "SeasonRowsModel" "mem" "[I") ∈ tb := tb_of (mem_u4 45 rfl) rfl
set_option maxRecDepth 100000 in
theorem k_766 : (Cond.fieldLink RX9 (86) "SeasonRowsModel" "top" "I") ∈ tb := tb_of (mem_u4 46 rfl) rfl
set_option maxRecDepth 100000 in
theorem k_767 : (Cond.fieldLink RX9 (14) "SeasonRowsModel" "left" "[I") ∈ tb := tb_of (mem_u4 47 rfl) rfl
set_option maxRecDepth 100000 in
theorem k_768 : (Cond.fieldLink RX9 (17) "SeasonRowsModel" "by" "[I") ∈ tb := tb_of (mem_u4 48 rfl) rfl
set_option maxRecDepth 100000 in
theorem k_769 : (Cond.fieldLink RX9 (20) "SeasonRowsModel" "quotient" "[I") ∈ tb := tb_of (mem_u4 49 rfl) rfl
set_option maxRecDepth 100000 in
theorem k_770 : (Cond.fieldLink RX9 (128) "SeasonRowsModel" "leftSize" "I") ∈ tb := tb_of (mem_u4 50 rfl) rfl
set_option maxRecDepth 100000 in
theorem k_771 : (Cond.fieldLink RX9 (131) "SeasonRowsModel" "quotientSize" "I") ∈ tb := tb_of (mem_u4 51 rfl) rfl
set_option maxRecDepth 100000 in
theorem k_772 : (Cond.fieldLink RX9 (23) "SeasonRowsModel" "output" "[I") ∈ tb := tb_of (mem_u4 52 rfl) rfl
set_option maxRecDepth 100000 in
theorem k_773 : (Cond.fieldLink RX9 (153) "SeasonRowsModel" "outs" "I") ∈ tb := tb_of (mem_u4 53 rfl) rfl
set_option maxRecDepth 100000 in
theorem k_774 : (Cond.fieldLink RX9 (26) "SeasonRowsModel" "value" "[I") ∈ tb := tb_of (mem_u4 54 rfl) rfl
set_option maxRecDepth 100000 in
theorem k_775 : (Cond.fieldLink RX9 (29) "SeasonRowsModel" "period" "[I") ∈ tb := tb_of (mem_u4 55 rfl) rfl
set_option maxRecDepth 100000 in
theorem k_776 : (Cond.fieldLink RX9 (32) "SeasonRowsModel" "steps" "[I") ∈ tb := tb_of (mem_u4 56 rfl) rfl
set_option maxRecDepth 100000 in
theorem k_777 : (Cond.fieldLink RX9 (35) "SeasonRowsModel" "stepAt" "[I") ∈ tb := tb_of (mem_u4 57 rfl) rfl
set_option maxRecDepth 100000 in
theorem k_778 : (Cond.fieldLink RX9 (38) "SeasonRowsModel" "feasts" "[I") ∈ tb := tb_of (mem_u4 58 rfl) rfl
set_option maxRecDepth 100000 in
theorem k_779 : (Cond.fieldLink RX9 (41) "SeasonRowsModel" "has" "[Z") ∈ tb := tb_of (mem_u4 59 rfl) rfl
set_option maxRecDepth 100000 in
theorem k_780 : (Cond.fieldLink RX9 (45) "SeasonRowsModel" "isStranger" "[Z") ∈ tb := tb_of (mem_u4 60 rfl) rfl
set_option maxRecDepth 100000 in
theorem k_781 : (Cond.fieldLink RX9 (48) "SeasonRowsModel" "line" "[Z") ∈ tb := tb_of (mem_u4 61 rfl) rfl
set_option maxRecDepth 100000 in
theorem k_782 : (Cond.fieldLink RX9 (51) "SeasonRowsModel" "isOn" "[Z") ∈ tb := tb_of (mem_u4 62 rfl) rfl
set_option maxRecDepth 100000 in
theorem k_783 : (Cond.fieldLink RX9 (54) "SeasonRowsModel" "has0" "[I") ∈ tb := tb_of (mem_u4 63 rfl) rfl
set_option maxRecDepth 100000 in
theorem k_784 : (Cond.fieldLink RX9 (57) "SeasonRowsModel" "kind" "[I") ∈ tb := tb_of (mem_u4 64 rfl) rfl
set_option maxRecDepth 100000 in
theorem k_785 : (Cond.fieldLink RX9 (207) "SeasonRowsModel" "parts" "I") ∈ tb := tb_of (mem_u4 65 rfl) rfl
set_option maxRecDepth 100000 in
theorem k_786 : (Cond.fieldLink RX9 (60) "SeasonRowsModel" "square" "[J") ∈ tb := tb_of (mem_u4 66 rfl) rfl
set_option maxRecDepth 100000 in
theorem k_787 : (Cond.fieldLink RX9 (64) "SeasonRowsModel" "right" "[J") ∈ tb := tb_of (mem_u4 67 rfl) rfl
set_option maxRecDepth 100000 in
theorem k_788 : (Cond.fieldLink RX9 (67) "SeasonRowsModel" "rows" "[I") ∈ tb := tb_of (mem_u4 68 rfl) rfl
set_option maxRecDepth 100000 in
theorem k_789 : (Cond.fieldLink RX9 (216) "SeasonRowsModel" "own" "J") ∈ tb := tb_of (mem_u4 69 rfl) rfl
set_option maxRecDepth 100000 in
theorem k_790 : (Cond.fieldLink RX9 (70) "SeasonRowsModel" "kept" "[I") ∈ tb := tb_of (mem_u4 70 rfl) rfl
set_option maxRecDepth 100000 in
theorem k_791 : (Cond.fieldLink RX9 (73) "SeasonRowsModel" "before" "[Z") ∈ tb := tb_of (mem_u4 71 rfl) rfl
set_option maxRecDepth 100000 in
theorem k_792 : (Cond.fieldLink RX9 (76) "SeasonRowsModel" "becomes" "[Z") ∈ tb := tb_of (mem_u4 72 rfl) rfl
set_option maxRecDepth 100000 in
theorem k_793 : (Cond.fieldLink RX9 (79) "SeasonRowsModel" "size0" "[I") ∈ tb := tb_of (mem_u4 73 rfl) rfl
set_option maxRecDepth 100000 in
theorem k_855 : (Cond.methodLink RL (17) yX9_status) ∈ tb := tb_of (mem_u4 135 rfl) rfl
set_option maxRecDepth 100000 in
theorem k_856 : (Cond.instanceMethod yX9_status) ∈ tb := tb_of (mem_u4 136 rfl) rfl
set_option maxRecDepth 100000 in
theorem k_857 : (Cond.selects RX9 yX9_status yX9_status) ∈ tb := tb_of (mem_u4 137 rfl) rfl
set_option maxRecDepth 100000 in
theorem k_858 : (Cond.code yX9_status prog_11_method_2_code (1) (some .int)) ∈ tb := tb_of (mem_u4 138 rfl) rfl
set_option maxRecDepth 100000 in
theorem k_859 : (Cond.methodLink RL (22) yX9_out) ∈ tb := tb_of (mem_u4 139 rfl) rfl
set_option maxRecDepth 100000 in
theorem k_860 : (Cond.instanceMethod yX9_out) ∈ tb := tb_of (mem_u4 140 rfl) rfl
set_option maxRecDepth 100000 in
theorem k_861 : (Cond.selects RX9 yX9_out yX9_out) ∈ tb := tb_of (mem_u4 141 rfl) rfl
set_option maxRecDepth 100000 in
theorem k_862 : (Cond.code yX9_out prog_11_method_23_code (2) (some .int)) ∈ tb := tb_of (mem_u4 142 rfl) rfl
set_option maxRecDepth 100000 in
theorem k_863 : (Cond.methodLink RL (27) yX9_put) ∈ tb := tb_of (mem_u4 143 rfl) rfl
set_option maxRecDepth 100000 in
theorem k_864 : (Cond.instanceMethod yX9_put) ∈ tb := tb_of (mem_u4 144 rfl) rfl
set_option maxRecDepth 100000 in
theorem k_865 : (Cond.selects RX9 yX9_put yX9_put) ∈ tb := tb_of (mem_u4 145 rfl) rfl
set_option maxRecDepth 100000 in
theorem k_866 : (Cond.code yX9_put prog_11_method_31_code (4) (some .boolean)) ∈ tb := tb_of (mem_u4 146 rfl) rfl
set_option maxRecDepth 100000 in
theorem k_867 : (Cond.methodLink RX9 (174) yX9_isRow) ∈ tb := tb_of (mem_u4 147 rfl) rfl
set_option maxRecDepth 100000 in
theorem k_868 : (Cond.static yX9_isRow) ∈ tb := tb_of (mem_u4 148 rfl) rfl
set_option maxRecDepth 100000 in
theorem k_869 : (Cond.code yX9_isRow prog_11_method_27_code (1) (some .boolean)) ∈ tb := tb_of (mem_u4 149 rfl) rfl
set_option maxRecDepth 100000 in
theorem k_870 : (Cond.methodLink RX9 (178) yX9_isTick) ∈ tb := tb_of (mem_u4 150 rfl) rfl
set_option maxRecDepth 100000 in
theorem k_871 : (Cond.static yX9_isTick) ∈ tb := tb_of (mem_u4 151 rfl) rfl
set_option maxRecDepth 100000 in
theorem k_872 : (Cond.code yX9_isTick prog_11_method_28_code (1) (some .boolean)) ∈ tb := tb_of (mem_u4 152 rfl) rfl
set_option maxRecDepth 100000 in
theorem k_873 : (Cond.methodLink RX9 (181) yX9_is) ∈ tb := tb_of (mem_u4 153 rfl) rfl
set_option maxRecDepth 100000 in
theorem k_875 : (Cond.instanceMethod yX9_is) ∈ tb := tb_of (mem_u4 155 rfl) rfl
set_option maxRecDepth 100000 in
theorem k_876 : (Cond.code yX9_is prog_11_method_3_code (2) (some .boolean)) ∈ tb := tb_of (mem_u4 156 rfl) rfl
set_option maxRecDepth 100000 in
theorem k_877 : (Cond.methodLink RX9 (184) yX9_isNumber) ∈ tb := tb_of (mem_u4 157 rfl) rfl
set_option maxRecDepth 100000 in
theorem k_878 : (Cond.static yX9_isNumber) ∈ tb := tb_of (mem_u4 158 rfl) rfl
set_option maxRecDepth 100000 in
theorem k_879 : (Cond.code yX9_isNumber prog_11_method_29_code (2) (some .boolean)) ∈ tb := tb_of (mem_u4 159 rfl) rfl
set_option maxRecDepth 100000 in
theorem k_880 : (Cond.constantLong RX9 (170) (-10000)) ∈ tb := tb_of (mem_u4 160 rfl) rfl
set_option maxRecDepth 100000 in
theorem k_881 : (Cond.constantLong RX9 (172) (10000)) ∈ tb := tb_of (mem_u4 161 rfl) rfl
set_option maxRecDepth 100000 in
theorem k_882 : (Cond.methodLink RX9 (188) yX9_spot) ∈ tb := tb_of (mem_u4 162 rfl) rfl
set_option maxRecDepth 100000 in
theorem k_883 : (Cond.static yX9_spot) ∈ tb := tb_of (mem_u4 163 rfl) rfl
set_option maxRecDepth 100000 in
theorem k_884 : (Cond.code yX9_spot prog_11_method_30_code (2) (some .int)) ∈ tb := tb_of (mem_u4 164 rfl) rfl
set_option maxRecDepth 100000 in
theorem k_885 : (Cond.methodLink RL (32) yX9_fill) ∈ tb := tb_of (mem_u4 165 rfl) rfl
set_option maxRecDepth 100000 in
theorem k_886 : (Cond.instanceMethod yX9_fill) ∈ tb := tb_of (mem_u4 166 rfl) rfl
set_option maxRecDepth 100000 in
theorem k_887 : (Cond.selects RX9 yX9_fill yX9_fill) ∈ tb := tb_of (mem_u4 167 rfl) rfl
set_option maxRecDepth 100000 in
theorem k_888 : (Cond.code yX9_fill prog_11_method_32_code (7) (some .boolean)) ∈ tb := tb_of (mem_u4 168 rfl) rfl
set_option maxRecDepth 100000 in
theorem k_889 : (Cond.methodLink RL (37) yX9_gap) ∈ tb := tb_of (mem_u4 169 rfl) rfl
set_option maxRecDepth 100000 in
theorem k_890 : (Cond.instanceMethod yX9_gap) ∈ tb := tb_of (mem_u4 170 rfl) rfl
set_option maxRecDepth 100000 in
theorem k_891 : (Cond.selects RX9 yX9_gap yX9_gap) ∈ tb := tb_of (mem_u4 171 rfl) rfl
set_option maxRecDepth 100000 in
theorem k_892 : (Cond.code yX9_gap prog_11_method_33_code (3) (some .boolean)) ∈ tb := tb_of (mem_u4 172 rfl) rfl
set_option maxRecDepth 100000 in
theorem k_893 : (Cond.methodLink RL (42) yX9_number) ∈ tb := tb_of (mem_u4 173 rfl) rfl
set_option maxRecDepth 100000 in
theorem k_894 : (Cond.instanceMethod yX9_number) ∈ tb := tb_of (mem_u4 174 rfl) rfl
set_option maxRecDepth 100000 in
theorem k_895 : (Cond.selects RX9 yX9_number yX9_number) ∈ tb := tb_of (mem_u4 175 rfl) rfl
set_option maxRecDepth 100000 in
theorem k_896 : (Cond.code yX9_number prog_11_method_34_code (3) (some .int)) ∈ tb := tb_of (mem_u4 176 rfl) rfl
set_option maxRecDepth 100000 in
theorem k_897 : (Cond.methodLink RX9 (191) yX9_refuse) ∈ tb := tb_of (mem_u4 177 rfl) rfl
set_option maxRecDepth 100000 in
theorem k_899 : (Cond.instanceMethod yX9_refuse) ∈ tb := tb_of (mem_u4 179 rfl) rfl
set_option maxRecDepth 100000 in
theorem k_900 : (Cond.code yX9_refuse prog_11_method_4_code (2) (some .int)) ∈ tb := tb_of (mem_u4 180 rfl) rfl
set_option maxRecDepth 100000 in
theorem k_901 : (Cond.methodLink RL (46) yX9_told) ∈ tb := tb_of (mem_u4 181 rfl) rfl
set_option maxRecDepth 100000 in
theorem k_902 : (Cond.instanceMethod yX9_told) ∈ tb := tb_of (mem_u4 182 rfl) rfl
set_option maxRecDepth 100000 in
theorem k_903 : (Cond.selects RX9 yX9_told yX9_told) ∈ tb := tb_of (mem_u4 183 rfl) rfl
set_option maxRecDepth 100000 in
theorem k_904 : (Cond.code yX9_told prog_11_method_36_code (5) (some .int)) ∈ tb := tb_of (mem_u4 184 rfl) rfl
set_option maxRecDepth 100000 in
theorem k_905 : (Cond.methodLink RX9 (194) yX9_counts) ∈ tb := tb_of (mem_u4 185 rfl) rfl
set_option maxRecDepth 100000 in
theorem k_907 : (Cond.instanceMethod yX9_counts) ∈ tb := tb_of (mem_u4 187 rfl) rfl
set_option maxRecDepth 100000 in
theorem k_908 : (Cond.code yX9_counts prog_11_method_35_code (3) (some .boolean)) ∈ tb := tb_of (mem_u4 188 rfl) rfl
set_option maxRecDepth 100000 in
theorem k_909 : (Cond.methodLink RL (51) yX9_model) ∈ tb := tb_of (mem_u4 189 rfl) rfl
set_option maxRecDepth 100000 in
theorem k_910 : (Cond.instanceMethod yX9_model) ∈ tb := tb_of (mem_u4 190 rfl) rfl
set_option maxRecDepth 100000 in
theorem k_911 : (Cond.selects RX9 yX9_model yX9_model) ∈ tb := tb_of (mem_u4 191 rfl) rfl
set_option maxRecDepth 100000 in
theorem k_912 : (Cond.code yX9_model prog_11_method_37_code (4) (some .boolean)) ∈ tb := tb_of (mem_u4 192 rfl) rfl
set_option maxRecDepth 100000 in
theorem k_913 : (Cond.methodLink RL (55) yX9_step) ∈ tb := tb_of (mem_u4 193 rfl) rfl
set_option maxRecDepth 100000 in
theorem k_914 : (Cond.instanceMethod yX9_step) ∈ tb := tb_of (mem_u4 194 rfl) rfl
set_option maxRecDepth 100000 in
theorem k_915 : (Cond.selects RX9 yX9_step yX9_step) ∈ tb := tb_of (mem_u4 195 rfl) rfl
set_option maxRecDepth 100000 in
theorem k_916 : (Cond.code yX9_step prog_11_method_41_code (3) (some .boolean)) ∈ tb := tb_of (mem_u4 196 rfl) rfl
set_option maxRecDepth 100000 in
theorem k_917 : (Cond.methodLink RX9 (198) yX9_findStep) ∈ tb := tb_of (mem_u4 197 rfl) rfl
set_option maxRecDepth 100000 in
theorem k_919 : (Cond.instanceMethod yX9_findStep) ∈ tb := tb_of (mem_u4 199 rfl) rfl
set_option maxRecDepth 100000 in
theorem k_920 : (Cond.code yX9_findStep prog_11_method_38_code (4) (some .int)) ∈ tb := tb_of (mem_u4 200 rfl) rfl
set_option maxRecDepth 100000 in
theorem k_921 : (Cond.methodLink RX9 (201) yX9_addStep) ∈ tb := tb_of (mem_u4 201 rfl) rfl
set_option maxRecDepth 100000 in
theorem k_923 : (Cond.instanceMethod yX9_addStep) ∈ tb := tb_of (mem_u4 203 rfl) rfl
set_option maxRecDepth 100000 in
theorem k_924 : (Cond.code yX9_addStep prog_11_method_39_code (4) none) ∈ tb := tb_of (mem_u4 204 rfl) rfl
set_option maxRecDepth 100000 in
theorem k_925 : (Cond.methodLink RL (59) yX9_unstep) ∈ tb := tb_of (mem_u4 205 rfl) rfl
set_option maxRecDepth 100000 in
theorem k_926 : (Cond.instanceMethod yX9_unstep) ∈ tb := tb_of (mem_u4 206 rfl) rfl
set_option maxRecDepth 100000 in
theorem k_927 : (Cond.selects RX9 yX9_unstep yX9_unstep) ∈ tb := tb_of (mem_u4 207 rfl) rfl
set_option maxRecDepth 100000 in
theorem k_928 : (Cond.code yX9_unstep prog_11_method_42_code (4) (some .boolean)) ∈ tb := tb_of (mem_u4 208 rfl) rfl
set_option maxRecDepth 100000 in
theorem k_929 : (Cond.methodLink RX9 (204) yX9_takeStep) ∈ tb := tb_of (mem_u4 209 rfl) rfl
set_option maxRecDepth 100000 in
theorem k_931 : (Cond.instanceMethod yX9_takeStep) ∈ tb := tb_of (mem_u4 211 rfl) rfl
set_option maxRecDepth 100000 in
theorem k_932 : (Cond.code yX9_takeStep prog_11_method_40_code (4) none) ∈ tb := tb_of (mem_u4 212 rfl) rfl
set_option maxRecDepth 100000 in
theorem k_933 : (Cond.methodLink RL (63) yX9_feast) ∈ tb := tb_of (mem_u4 213 rfl) rfl
set_option maxRecDepth 100000 in
theorem k_934 : (Cond.instanceMethod yX9_feast) ∈ tb := tb_of (mem_u4 214 rfl) rfl
set_option maxRecDepth 100000 in
theorem k_935 : (Cond.selects RX9 yX9_feast yX9_feast) ∈ tb := tb_of (mem_u4 215 rfl) rfl
set_option maxRecDepth 100000 in
theorem k_936 : (Cond.code yX9_feast prog_11_method_43_code (3) (some .int)) ∈ tb := tb_of (mem_u4 216 rfl) rfl
set_option maxRecDepth 100000 in
theorem k_937 : (Cond.methodLink RL (67) yX9_on) ∈ tb := tb_of (mem_u4 217 rfl) rfl
set_option maxRecDepth 100000 in
theorem k_938 : (Cond.instanceMethod yX9_on) ∈ tb := tb_of (mem_u4 218 rfl) rfl
set_option maxRecDepth 100000 in
theorem k_939 : (Cond.selects RX9 yX9_on yX9_on) ∈ tb := tb_of (mem_u4 219 rfl) rfl
set_option maxRecDepth 100000 in
theorem k_940 : (Cond.code yX9_on prog_11_method_44_code (7) (some .boolean)) ∈ tb := tb_of (mem_u4 220 rfl) rfl
set_option maxRecDepth 100000 in
theorem k_941 : (Cond.methodLink RL (72) yX9_plain) ∈ tb := tb_of (mem_u4 221 rfl) rfl
set_option maxRecDepth 100000 in
theorem k_942 : (Cond.instanceMethod yX9_plain) ∈ tb := tb_of (mem_u4 222 rfl) rfl
set_option maxRecDepth 100000 in
theorem k_943 : (Cond.selects RX9 yX9_plain yX9_plain) ∈ tb := tb_of (mem_u4 223 rfl) rfl
set_option maxRecDepth 100000 in
theorem k_944 : (Cond.code yX9_plain prog_11_method_45_code (2) (some .boolean)) ∈ tb := tb_of (mem_u4 224 rfl) rfl
set_option maxRecDepth 100000 in
theorem k_945 : (Cond.methodLink RL (77) yX9_strange) ∈ tb := tb_of (mem_u4 225 rfl) rfl
set_option maxRecDepth 100000 in
theorem k_946 : (Cond.instanceMethod yX9_strange) ∈ tb := tb_of (mem_u4 226 rfl) rfl
set_option maxRecDepth 100000 in
theorem k_947 : (Cond.selects RX9 yX9_strange yX9_strange) ∈ tb := tb_of (mem_u4 227 rfl) rfl
set_option maxRecDepth 100000 in
theorem k_948 : (Cond.code yX9_strange prog_11_method_46_code (4) (some .boolean)) ∈ tb := tb_of (mem_u4 228 rfl) rfl
set_option maxRecDepth 100000 in
theorem k_949 : (Cond.methodLink RL (81) yX9_isStrange) ∈ tb := tb_of (mem_u4 229 rfl) rfl
set_option maxRecDepth 100000 in
theorem k_950 : (Cond.instanceMethod yX9_isStrange) ∈ tb := tb_of (mem_u4 230 rfl) rfl
set_option maxRecDepth 100000 in
theorem k_951 : (Cond.selects RX9 yX9_isStrange yX9_isStrange) ∈ tb := tb_of (mem_u4 231 rfl) rfl
set_option maxRecDepth 100000 in
theorem k_952 : (Cond.code yX9_isStrange prog_11_method_47_code (3) (some .int)) ∈ tb := tb_of (mem_u4 232 rfl) rfl
set_option maxRecDepth 100000 in
theorem k_953 : (Cond.methodLink RL (85) yX9_part) ∈ tb := tb_of (mem_u4 233 rfl) rfl
set_option maxRecDepth 100000 in
theorem k_954 : (Cond.instanceMethod yX9_part) ∈ tb := tb_of (mem_u4 234 rfl) rfl
set_option maxRecDepth 100000 in
theorem k_955 : (Cond.selects RX9 yX9_part yX9_part) ∈ tb := tb_of (mem_u4 235 rfl) rfl
set_option maxRecDepth 100000 in
theorem k_956 : (Cond.code yX9_part prog_11_method_57_code (3) (some .int)) ∈ tb := tb_of (mem_u4 236 rfl) rfl
set_option maxRecDepth 100000 in
theorem k_957 : (Cond.methodLink RX9 (239) yX9_solve) ∈ tb := tb_of (mem_u4 237 rfl) rfl
set_option maxRecDepth 100000 in
theorem k_959 : (Cond.instanceMethod yX9_solve) ∈ tb := tb_of (mem_u4 239 rfl) rfl
set_option maxRecDepth 100000 in
theorem k_960 : (Cond.code yX9_solve prog_11_method_54_code (2) (some .boolean)) ∈ tb := tb_of (mem_u5 0 rfl) rfl
set_option maxRecDepth 100000 in
theorem k_961 : (Cond.methodLink RX9 (229) yX9_gather) ∈ tb := tb_of (mem_u5 1 rfl) rfl
set_option maxRecDepth 100000 in
theorem k_963 : (Cond.instanceMethod yX9_gather) ∈ tb := tb_of (mem_u5 3 rfl) rfl
set_option maxRecDepth 100000 in
theorem k_964 : (Cond.code yX9_gather prog_11_method_50_code (7) none) ∈ tb := tb_of (mem_u5 4 rfl) rfl
set_option maxRecDepth 100000 in
theorem k_965 : (Cond.methodLink RX9 (213) yX9_look) ∈ tb := tb_of (mem_u5 5 rfl) rfl
set_option maxRecDepth 100000 in
theorem k_967 : (Cond.instanceMethod yX9_look) ∈ tb := tb_of (mem_u5 7 rfl) rfl
set_option maxRecDepth 100000 in
theorem k_968 : (Cond.code yX9_look prog_11_method_48_code (5) none) ∈ tb := tb_of (mem_u5 8 rfl) rfl
set_option maxRecDepth 100000 in
theorem k_969 : (Cond.methodLink RX9 (210) yX9_part0) ∈ tb := tb_of (mem_u5 9 rfl) rfl
set_option maxRecDepth 100000 in
theorem k_971 : (Cond.instanceMethod yX9_part0) ∈ tb := tb_of (mem_u5 11 rfl) rfl
set_option maxRecDepth 100000 in
theorem k_972 : (Cond.code yX9_part0 prog_11_method_49_code (3) none) ∈ tb := tb_of (mem_u5 12 rfl) rfl
set_option maxRecDepth 100000 in
theorem k_973 : (Cond.methodLink RX9 (232) yX9_clear) ∈ tb := tb_of (mem_u5 13 rfl) rfl
set_option maxRecDepth 100000 in
theorem k_975 : (Cond.instanceMethod yX9_clear) ∈ tb := tb_of (mem_u5 15 rfl) rfl
set_option maxRecDepth 100000 in
theorem k_976 : (Cond.code yX9_clear prog_11_method_53_code (7) (some .boolean)) ∈ tb := tb_of (mem_u5 16 rfl) rfl
set_option maxRecDepth 100000 in
theorem k_977 : (Cond.methodLink RX9 (118) yX9_whole) ∈ tb := tb_of (mem_u5 17 rfl) rfl
set_option maxRecDepth 100000 in
theorem k_979 : (Cond.instanceMethod yX9_whole) ∈ tb := tb_of (mem_u5 19 rfl) rfl
set_option maxRecDepth 100000 in
theorem k_980 : (Cond.code yX9_whole prog_11_method_9_code (6) (some .int)) ∈ tb := tb_of (mem_u5 20 rfl) rfl
set_option maxRecDepth 100000 in
theorem k_981 : (Cond.methodLink RX9 (89) yX9_room) ∈ tb := tb_of (mem_u5 21 rfl) rfl
set_option maxRecDepth 100000 in
theorem k_983 : (Cond.instanceMethod yX9_room) ∈ tb := tb_of (mem_u5 23 rfl) rfl
set_option maxRecDepth 100000 in
theorem k_984 : (Cond.code yX9_room prog_11_method_7_code (3) (some .int)) ∈ tb := tb_of (mem_u5 24 rfl) rfl
set_option maxRecDepth 100000 in
theorem k_985 : (Cond.constantLong RX9 (93) (1073741823)) ∈ tb := tb_of (mem_u5 25 rfl) rfl
set_option maxRecDepth 100000 in
theorem k_986 : (Cond.methodLink RX9 (95) yX9_done) ∈ tb := tb_of (mem_u5 26 rfl) rfl
set_option maxRecDepth 100000 in
theorem k_988 : (Cond.instanceMethod yX9_done) ∈ tb := tb_of (mem_u5 28 rfl) rfl
set_option maxRecDepth 100000 in
theorem k_989 : (Cond.code yX9_done prog_11_method_8_code (5) (some .int)) ∈ tb := tb_of (mem_u5 29 rfl) rfl
set_option maxRecDepth 100000 in
theorem k_990 : (Cond.methodLink RX9 (105) yX9_sign) ∈ tb := tb_of (mem_u5 30 rfl) rfl
set_option maxRecDepth 100000 in
theorem k_992 : (Cond.instanceMethod yX9_sign) ∈ tb := tb_of (mem_u5 32 rfl) rfl
set_option maxRecDepth 100000 in
theorem k_993 : (Cond.code yX9_sign prog_11_method_6_code (2) (some .int)) ∈ tb := tb_of (mem_u5 33 rfl) rfl
set_option maxRecDepth 100000 in
theorem k_994 : (Cond.methodLink RX9 (220) yX9_times) ∈ tb := tb_of (mem_u5 34 rfl) rfl
set_option maxRecDepth 100000 in
theorem k_996 : (Cond.instanceMethod yX9_times) ∈ tb := tb_of (mem_u5 36 rfl) rfl
set_option maxRecDepth 100000 in
theorem k_997 : (Cond.code yX9_times prog_11_method_16_code (12) (some .int)) ∈ tb := tb_of (mem_u5 37 rfl) rfl
set_option maxRecDepth 100000 in
theorem k_998 : (Cond.methodLink RX9 (99) yX9_size) ∈ tb := tb_of (mem_u5 38 rfl) rfl
set_option maxRecDepth 100000 in
theorem k_1000 : (Cond.instanceMethod yX9_size) ∈ tb := tb_of (mem_u5 40 rfl) rfl
set_option maxRecDepth 100000 in
theorem k_1001 : (Cond.code yX9_size prog_11_method_5_code (2) (some .int)) ∈ tb := tb_of (mem_u5 41 rfl) rfl
set_option maxRecDepth 100000 in
theorem k_1002 : (Cond.methodLink RX9 (223) yX9_less) ∈ tb := tb_of (mem_u5 42 rfl) rfl
set_option maxRecDepth 100000 in
theorem k_1004 : (Cond.instanceMethod yX9_less) ∈ tb := tb_of (mem_u5 44 rfl) rfl
set_option maxRecDepth 100000 in
theorem k_1005 : (Cond.code yX9_less prog_11_method_15_code (3) (some .int)) ∈ tb := tb_of (mem_u5 45 rfl) rfl
set_option maxRecDepth 100000 in
theorem k_1006 : (Cond.methodLink RX9 (122) yX9_turned) ∈ tb := tb_of (mem_u5 46 rfl) rfl
set_option maxRecDepth 100000 in
theorem k_1008 : (Cond.instanceMethod yX9_turned) ∈ tb := tb_of (mem_u5 48 rfl) rfl
set_option maxRecDepth 100000 in
theorem k_1009 : (Cond.code yX9_turned prog_11_method_11_code (3) (some .int)) ∈ tb := tb_of (mem_u5 49 rfl) rfl
set_option maxRecDepth 100000 in
theorem k_1010 : (Cond.methodLink RX9 (102) yX9_copy) ∈ tb := tb_of (mem_u5 50 rfl) rfl
set_option maxRecDepth 100000 in
theorem k_1012 : (Cond.instanceMethod yX9_copy) ∈ tb := tb_of (mem_u5 52 rfl) rfl
set_option maxRecDepth 100000 in
theorem k_1013 : (Cond.code yX9_copy prog_11_method_10_code (5) (some .int)) ∈ tb := tb_of (mem_u5 53 rfl) rfl
set_option maxRecDepth 100000 in
theorem k_1014 : (Cond.methodLink RX9 (125) yX9_sum) ∈ tb := tb_of (mem_u5 54 rfl) rfl
set_option maxRecDepth 100000 in
theorem k_1016 : (Cond.instanceMethod yX9_sum) ∈ tb := tb_of (mem_u5 56 rfl) rfl
set_option maxRecDepth 100000 in
theorem k_1017 : (Cond.code yX9_sum prog_11_method_14_code (11) (some .int)) ∈ tb := tb_of (mem_u5 57 rfl) rfl
set_option maxRecDepth 100000 in
theorem k_1018 : (Cond.methodLink RX9 (108) yJ9_max_7cf53) ∈ tb := tb_of (mem_u5 58 rfl) rfl
set_option maxRecDepth 100000 in
theorem k_1019 : (Cond.constant RX9 (114) (1073741823)) ∈ tb := tb_of (mem_u5 59 rfl) rfl
set_option maxRecDepth 100000 in
theorem k_1020 : (Cond.methodLink RX9 (115) yX9_compareSizes) ∈ tb := tb_of (mem_u5 60 rfl) rfl
set_option maxRecDepth 100000 in
theorem k_1022 : (Cond.instanceMethod yX9_compareSizes) ∈ tb := tb_of (mem_u5 62 rfl) rfl
set_option maxRecDepth 100000 in
theorem k_1023 : (Cond.code yX9_compareSizes prog_11_method_12_code (5) (some .int)) ∈ tb := tb_of (mem_u5 63 rfl) rfl
set_option maxRecDepth 100000 in
theorem k_1024 : (Cond.methodLink RX9 (164) yX9_divided) ∈ tb := tb_of (mem_u5 64 rfl) rfl
set_option maxRecDepth 100000 in
theorem k_1026 : (Cond.instanceMethod yX9_divided) ∈ tb := tb_of (mem_u5 66 rfl) rfl
set_option maxRecDepth 100000 in
theorem k_1027 : (Cond.code yX9_divided prog_11_method_20_code (5) (some .int)) ∈ tb := tb_of (mem_u5 67 rfl) rfl
set_option maxRecDepth 100000 in
theorem k_1028 : (Cond.methodLink RX9 (146) yX9_divide) ∈ tb := tb_of (mem_u5 68 rfl) rfl
set_option maxRecDepth 100000 in
theorem k_1030 : (Cond.instanceMethod yX9_divide) ∈ tb := tb_of (mem_u5 70 rfl) rfl
set_option maxRecDepth 100000 in
theorem k_1031 : (Cond.code yX9_divide prog_11_method_17_code (7) none) ∈ tb := tb_of (mem_u5 71 rfl) rfl
set_option maxRecDepth 100000 in
theorem k_1032 : (Cond.methodLink RX9 (134) yX9_divideShort) ∈ tb := tb_of (mem_u5 72 rfl) rfl
set_option maxRecDepth 100000 in
theorem k_1034 : (Cond.instanceMethod yX9_divideShort) ∈ tb := tb_of (mem_u5 74 rfl) rfl
set_option maxRecDepth 100000 in
theorem k_1035 : (Cond.code yX9_divideShort prog_11_method_18_code (7) none) ∈ tb := tb_of (mem_u5 75 rfl) rfl
set_option maxRecDepth 100000 in
theorem k_1036 : (Cond.constant RX9 (138) (536870912)) ∈ tb := tb_of (mem_u5 76 rfl) rfl
set_option maxRecDepth 100000 in
theorem k_1037 : (Cond.methodLink RX9 (139) yX9_stepOff) ∈ tb := tb_of (mem_u5 77 rfl) rfl
set_option maxRecDepth 100000 in
theorem k_1039 : (Cond.instanceMethod yX9_stepOff) ∈ tb := tb_of (mem_u5 79 rfl) rfl
set_option maxRecDepth 100000 in
theorem k_1040 : (Cond.code yX9_stepOff prog_11_method_19_code (16) (some .int)) ∈ tb := tb_of (mem_u5 80 rfl) rfl
set_option maxRecDepth 100000 in
theorem k_1041 : (Cond.methodLink RX9 (142) yJ9_min_f86c9) ∈ tb := tb_of (mem_u5 81 rfl) rfl
set_option maxRecDepth 100000 in
theorem k_1042 : (Cond.static yJ9_min_f86c9) ∈ tb := tb_of (mem_u5 82 rfl) rfl
set_option maxRecDepth 100000 in
theorem k_1043 : (Cond.code yJ9_min_f86c9 prog_12_method_70_code (4) (some .long)) ∈ tb := tb_of (mem_u5 83 rfl) rfl
set_option maxRecDepth 100000 in
theorem k_1044 : (Cond.methodLink RX9 (226) yX9_keep) ∈ tb := tb_of (mem_u5 84 rfl) rfl
set_option maxRecDepth 100000 in
theorem k_1046 : (Cond.instanceMethod yX9_keep) ∈ tb := tb_of (mem_u5 86 rfl) rfl
set_option maxRecDepth 100000 in
theorem k_1047 : (Cond.code yX9_keep prog_11_method_51_code (4) none) ∈ tb := tb_of (mem_u5 87 rfl) rfl
set_option maxRecDepth 100000 in
theorem k_1048 : (Cond.methodLink RX9 (242) yX9_cost) ∈ tb := tb_of (mem_u5 88 rfl) rfl
set_option maxRecDepth 100000 in
theorem k_1050 : (Cond.instanceMethod yX9_cost) ∈ tb := tb_of (mem_u5 90 rfl) rfl
set_option maxRecDepth 100000 in
theorem k_1051 : (Cond.code yX9_cost prog_11_method_56_code (3) (some .int)) ∈ tb := tb_of (mem_u5 91 rfl) rfl
set_option maxRecDepth 100000 in
theorem k_1052 : (Cond.methodLink RX9 (236) yX9_held) ∈ tb := tb_of (mem_u5 92 rfl) rfl
set_option maxRecDepth 100000 in
theorem k_1054 : (Cond.instanceMethod yX9_held) ∈ tb := tb_of (mem_u5 94 rfl) rfl
set_option maxRecDepth 100000 in
theorem k_1055 : (Cond.code yX9_held prog_11_method_52_code (6) (some .int)) ∈ tb := tb_of (mem_u5 95 rfl) rfl
set_option maxRecDepth 100000 in
theorem k_1056 : (Cond.methodLink RX9 (246) yX9_tells) ∈ tb := tb_of (mem_u5 96 rfl) rfl
set_option maxRecDepth 100000 in
theorem k_1058 : (Cond.instanceMethod yX9_tells) ∈ tb := tb_of (mem_u5 98 rfl) rfl
set_option maxRecDepth 100000 in
theorem k_1059 : (Cond.code yX9_tells prog_11_method_26_code (6) (some .int)) ∈ tb := tb_of (mem_u5 99 rfl) rfl
set_option maxRecDepth 100000 in
theorem k_1060 : (Cond.methodLink RX9 (161) yX9_common) ∈ tb := tb_of (mem_u5 100 rfl) rfl
set_option maxRecDepth 100000 in
theorem k_1062 : (Cond.instanceMethod yX9_common) ∈ tb := tb_of (mem_u5 102 rfl) rfl
set_option maxRecDepth 100000 in
theorem k_1063 : (Cond.code yX9_common prog_11_method_21_code (10) (some .int)) ∈ tb := tb_of (mem_u5 103 rfl) rfl
set_option maxRecDepth 100000 in
theorem k_1064 : (Cond.methodLink RX9 (150) yX9_putOff) ∈ tb := tb_of (mem_u5 104 rfl) rfl
set_option maxRecDepth 100000 in
theorem k_1066 : (Cond.instanceMethod yX9_putOff) ∈ tb := tb_of (mem_u5 106 rfl) rfl
set_option maxRecDepth 100000 in
theorem k_1067 : (Cond.code yX9_putOff prog_11_method_22_code (5) none) ∈ tb := tb_of (mem_u5 107 rfl) rfl
set_option maxRecDepth 100000 in
theorem k_1068 : (Cond.methodLink RX9 (167) yX9_tellsNumber) ∈ tb := tb_of (mem_u5 108 rfl) rfl
set_option maxRecDepth 100000 in
theorem k_1070 : (Cond.instanceMethod yX9_tellsNumber) ∈ tb := tb_of (mem_u5 110 rfl) rfl
set_option maxRecDepth 100000 in
theorem k_1071 : (Cond.code yX9_tellsNumber prog_11_method_25_code (8) none) ∈ tb := tb_of (mem_u5 111 rfl) rfl
set_option maxRecDepth 100000 in
theorem k_1072 : (Cond.methodLink RX9 (156) yX9_tells0) ∈ tb := tb_of (mem_u5 112 rfl) rfl
set_option maxRecDepth 100000 in
theorem k_1074 : (Cond.instanceMethod yX9_tells0) ∈ tb := tb_of (mem_u5 114 rfl) rfl
set_option maxRecDepth 100000 in
theorem k_1075 : (Cond.code yX9_tells0 prog_11_method_24_code (2) none) ∈ tb := tb_of (mem_u5 115 rfl) rfl
set_option maxRecDepth 100000 in
theorem k_1076 : (Cond.constantLong RX9 (159) (10)) ∈ tb := tb_of (mem_u5 116 rfl) rfl
set_option maxRecDepth 100000 in
theorem k_1077 : (Cond.methodLink RL (89) yX9_stepBy) ∈ tb := tb_of (mem_u5 117 rfl) rfl
set_option maxRecDepth 100000 in
theorem k_1078 : (Cond.instanceMethod yX9_stepBy) ∈ tb := tb_of (mem_u5 118 rfl) rfl
set_option maxRecDepth 100000 in
theorem k_1079 : (Cond.selects RX9 yX9_stepBy yX9_stepBy) ∈ tb := tb_of (mem_u5 119 rfl) rfl
set_option maxRecDepth 100000 in
theorem k_1080 : (Cond.code yX9_stepBy prog_11_method_58_code (3) (some .int)) ∈ tb := tb_of (mem_u5 120 rfl) rfl
set_option maxRecDepth 100000 in
theorem k_1081 : (Cond.methodLink RL (93) yX9_feastBy) ∈ tb := tb_of (mem_u5 121 rfl) rfl
set_option maxRecDepth 100000 in
theorem k_1082 : (Cond.instanceMethod yX9_feastBy) ∈ tb := tb_of (mem_u5 122 rfl) rfl
set_option maxRecDepth 100000 in
theorem k_1083 : (Cond.selects RX9 yX9_feastBy yX9_feastBy) ∈ tb := tb_of (mem_u5 123 rfl) rfl
set_option maxRecDepth 100000 in
theorem k_1084 : (Cond.code yX9_feastBy prog_11_method_59_code (3) (some .int)) ∈ tb := tb_of (mem_u5 124 rfl) rfl
set_option maxRecDepth 100000 in
theorem k_1085 : (Cond.methodLink RL (97) yX9_season) ∈ tb := tb_of (mem_u5 125 rfl) rfl
set_option maxRecDepth 100000 in
theorem k_1086 : (Cond.instanceMethod yX9_season) ∈ tb := tb_of (mem_u5 126 rfl) rfl
set_option maxRecDepth 100000 in
theorem k_1087 : (Cond.selects RX9 yX9_season yX9_season) ∈ tb := tb_of (mem_u5 127 rfl) rfl
set_option maxRecDepth 100000 in
theorem k_1088 : (Cond.code yX9_season prog_11_method_60_code (3) (some .int)) ∈ tb := tb_of (mem_u5 128 rfl) rfl
set_option maxRecDepth 100000 in
theorem k_1089 : (Cond.methodLink RX9 (249) yX9_given) ∈ tb := tb_of (mem_u5 129 rfl) rfl
set_option maxRecDepth 100000 in
theorem k_1091 : (Cond.instanceMethod yX9_given) ∈ tb := tb_of (mem_u5 131 rfl) rfl
set_option maxRecDepth 100000 in
theorem k_1092 : (Cond.code yX9_given prog_11_method_55_code (6) (some .int)) ∈ tb := tb_of (mem_u5 132 rfl) rfl
set_option maxRecDepth 100000 in
theorem k_1093 : (Cond.methodLink RL (102) yX9_at) ∈ tb := tb_of (mem_u5 133 rfl) rfl
set_option maxRecDepth 100000 in
theorem k_1094 : (Cond.instanceMethod yX9_at) ∈ tb := tb_of (mem_u5 134 rfl) rfl
set_option maxRecDepth 100000 in
theorem k_1095 : (Cond.selects RX9 yX9_at yX9_at) ∈ tb := tb_of (mem_u5 135 rfl) rfl
set_option maxRecDepth 100000 in
theorem k_1096 : (Cond.code yX9_at prog_11_method_62_code (4) (some .int)) ∈ tb := tb_of (mem_u5 136 rfl) rfl
set_option maxRecDepth 100000 in
theorem k_1097 : (Cond.methodLink RX9 (253) yX9_isFar) ∈ tb := tb_of (mem_u5 137 rfl) rfl
set_option maxRecDepth 100000 in
theorem k_1098 : (Cond.static yX9_isFar) ∈ tb := tb_of (mem_u5 138 rfl) rfl
set_option maxRecDepth 100000 in
theorem k_1099 : (Cond.code yX9_isFar prog_11_method_61_code (1) (some .boolean)) ∈ tb := tb_of (mem_u5 139 rfl) rfl
set_option maxRecDepth 100000 in
theorem k_1100 : (Cond.methodLink RL (106) yX9_rest) ∈ tb := tb_of (mem_u5 140 rfl) rfl
set_option maxRecDepth 100000 in
theorem k_1101 : (Cond.instanceMethod yX9_rest) ∈ tb := tb_of (mem_u5 141 rfl) rfl
set_option maxRecDepth 100000 in
theorem k_1102 : (Cond.selects RX9 yX9_rest yX9_rest) ∈ tb := tb_of (mem_u5 142 rfl) rfl
set_option maxRecDepth 100000 in
theorem k_1103 : (Cond.code yX9_rest prog_11_method_64_code (3) (some .int)) ∈ tb := tb_of (mem_u5 143 rfl) rfl
set_option maxRecDepth 100000 in
theorem k_1104 : (Cond.methodLink RX9 (256) yX9_restOf) ∈ tb := tb_of (mem_u5 144 rfl) rfl
set_option maxRecDepth 100000 in
theorem k_1106 : (Cond.instanceMethod yX9_restOf) ∈ tb := tb_of (mem_u5 146 rfl) rfl
set_option maxRecDepth 100000 in
theorem k_1107 : (Cond.code yX9_restOf prog_11_method_63_code (3) (some .int)) ∈ tb := tb_of (mem_u5 147 rfl) rfl
set_option maxRecDepth 100000 in
theorem k_1108 : (Cond.methodLink RL (110) yX9_where) ∈ tb := tb_of (mem_u5 148 rfl) rfl
set_option maxRecDepth 100000 in
theorem k_1109 : (Cond.instanceMethod yX9_where) ∈ tb := tb_of (mem_u5 149 rfl) rfl
set_option maxRecDepth 100000 in
theorem k_1110 : (Cond.selects RX9 yX9_where yX9_where) ∈ tb := tb_of (mem_u5 150 rfl) rfl
set_option maxRecDepth 100000 in
theorem k_1111 : (Cond.code yX9_where prog_11_method_65_code (6) (some .int)) ∈ tb := tb_of (mem_u5 151 rfl) rfl
set_option maxRecDepth 100000 in
theorem k_1112 : (Cond.methodLink RL (114) yX9_rounds) ∈ tb := tb_of (mem_u5 152 rfl) rfl
set_option maxRecDepth 100000 in
theorem k_1113 : (Cond.instanceMethod yX9_rounds) ∈ tb := tb_of (mem_u5 153 rfl) rfl
set_option maxRecDepth 100000 in
theorem k_1114 : (Cond.selects RX9 yX9_rounds yX9_rounds) ∈ tb := tb_of (mem_u5 154 rfl) rfl
set_option maxRecDepth 100000 in
theorem k_1115 : (Cond.code yX9_rounds prog_11_method_67_code (8) (some .int)) ∈ tb := tb_of (mem_u5 155 rfl) rfl
set_option maxRecDepth 100000 in
theorem k_1116 : (Cond.methodLink RX9 (259) yX9_round) ∈ tb := tb_of (mem_u5 156 rfl) rfl
set_option maxRecDepth 100000 in
theorem k_1118 : (Cond.instanceMethod yX9_round) ∈ tb := tb_of (mem_u5 158 rfl) rfl
set_option maxRecDepth 100000 in
theorem k_1119 : (Cond.code yX9_round prog_11_method_68_code (7) (some .boolean)) ∈ tb := tb_of (mem_u5 159 rfl) rfl
set_option maxRecDepth 100000 in
theorem k_1120 : (Cond.methodLink RX9 (263) yX9_middle) ∈ tb := tb_of (mem_u5 160 rfl) rfl
set_option maxRecDepth 100000 in
theorem k_1122 : (Cond.instanceMethod yX9_middle) ∈ tb := tb_of (mem_u5 162 rfl) rfl
set_option maxRecDepth 100000 in
theorem k_1123 : (Cond.code yX9_middle prog_11_method_66_code (7) (some .int)) ∈ tb := tb_of (mem_u5 163 rfl) rfl
set_option maxRecDepth 100000 in
theorem k_1124 : (Cond.methodLink RL (118) yX9_pull) ∈ tb := tb_of (mem_u5 164 rfl) rfl
set_option maxRecDepth 100000 in
theorem k_1125 : (Cond.instanceMethod yX9_pull) ∈ tb := tb_of (mem_u5 165 rfl) rfl
set_option maxRecDepth 100000 in
theorem k_1126 : (Cond.selects RX9 yX9_pull yX9_pull) ∈ tb := tb_of (mem_u5 166 rfl) rfl
set_option maxRecDepth 100000 in
theorem k_1127 : (Cond.code yX9_pull prog_11_method_69_code (5) (some .int)) ∈ tb := tb_of (mem_u5 167 rfl) rfl
set_option maxRecDepth 100000 in
theorem k_1128 : (Cond.methodLink RL (123) yX9_right) ∈ tb := tb_of (mem_u5 168 rfl) rfl
set_option maxRecDepth 100000 in
theorem k_1129 : (Cond.instanceMethod yX9_right) ∈ tb := tb_of (mem_u5 169 rfl) rfl
set_option maxRecDepth 100000 in
theorem k_1130 : (Cond.selects RX9 yX9_right yX9_right) ∈ tb := tb_of (mem_u5 170 rfl) rfl
set_option maxRecDepth 100000 in
theorem k_1131 : (Cond.code yX9_right prog_11_method_70_code (15) (some .int)) ∈ tb := tb_of (mem_u5 171 rfl) rfl
set_option maxRecDepth 100000 in
theorem s_0 : (Cond.selects RX8 yX8_rowOf yX8_rowOf) ∈ tb := tb_of (mem_sl 0 rfl) rfl
set_option maxRecDepth 100000 in
theorem s_1 : (Cond.selects RX8 yX8_refuse yX8_refuse) ∈ tb := tb_of (mem_sl 1 rfl) rfl
set_option maxRecDepth 100000 in
theorem s_2 : (Cond.selects RX8 yX8_done yX8_done) ∈ tb := tb_of (mem_sl 2 rfl) rfl
set_option maxRecDepth 100000 in
theorem s_3 : (Cond.selects RX8 yX8_giveNone yX8_giveNone) ∈ tb := tb_of (mem_sl 3 rfl) rfl
set_option maxRecDepth 100000 in
theorem s_4 : (Cond.selects RX8 yX8_give yX8_give) ∈ tb := tb_of (mem_sl 4 rfl) rfl
set_option maxRecDepth 100000 in
theorem s_5 : (Cond.selects RX2 yX2_layModel yX2_layModel) ∈ tb := tb_of (mem_sl 5 rfl) rfl
set_option maxRecDepth 100000 in
theorem s_6 : (Cond.selects RX2 yX2_layRamp yX2_layRamp) ∈ tb := tb_of (mem_sl 6 rfl) rfl
set_option maxRecDepth 100000 in
theorem s_7 : (Cond.selects RX2 yX2_layStep yX2_layStep) ∈ tb := tb_of (mem_sl 7 rfl) rfl
set_option maxRecDepth 100000 in
theorem s_8 : (Cond.selects RX2 yX2_layFeast yX2_layFeast) ∈ tb := tb_of (mem_sl 8 rfl) rfl
set_option maxRecDepth 100000 in
theorem s_9 : (Cond.selects RX2 yX2_layNumbers yX2_layNumbers) ∈ tb := tb_of (mem_sl 9 rfl) rfl
set_option maxRecDepth 100000 in
theorem s_10 : (Cond.selects RX2 yX2_addUp yX2_addUp) ∈ tb := tb_of (mem_sl 10 rfl) rfl
set_option maxRecDepth 100000 in
theorem s_11 : (Cond.selects RX2 yX2_addTick yX2_addTick) ∈ tb := tb_of (mem_sl 11 rfl) rfl
set_option maxRecDepth 100000 in
theorem s_12 : (Cond.selects RX2 yX2_takeOutPlaces yX2_takeOutPlaces) ∈ tb := tb_of (mem_sl 12 rfl) rfl
set_option maxRecDepth 100000 in
theorem s_13 : (Cond.selects RX2 yX2_cell yX2_cell) ∈ tb := tb_of (mem_sl 13 rfl) rfl
set_option maxRecDepth 100000 in
theorem s_14 : (Cond.selects RX2 yX2_eliminate yX2_eliminate) ∈ tb := tb_of (mem_sl 14 rfl) rfl
set_option maxRecDepth 100000 in
theorem s_15 : (Cond.selects RX2 yX2_findTops yX2_findTops) ∈ tb := tb_of (mem_sl 15 rfl) rfl
set_option maxRecDepth 100000 in
theorem s_16 : (Cond.selects RX2 yX2_findPlaceTops yX2_findPlaceTops) ∈ tb := tb_of (mem_sl 16 rfl) rfl
set_option maxRecDepth 100000 in
theorem s_17 : (Cond.selects RX2 yX2_addPlaceTops yX2_addPlaceTops) ∈ tb := tb_of (mem_sl 17 rfl) rfl
set_option maxRecDepth 100000 in
theorem s_18 : (Cond.selects RX8 yX8_tell yX8_tell) ∈ tb := tb_of (mem_sl 18 rfl) rfl
set_option maxRecDepth 100000 in
theorem s_19 : (Cond.selects RX1 yX1_keepDivisor yX1_keepDivisor) ∈ tb := tb_of (mem_sl 19 rfl) rfl
set_option maxRecDepth 100000 in
theorem s_20 : (Cond.selects RX8 yX8_tellAnswer yX8_tellAnswer) ∈ tb := tb_of (mem_sl 20 rfl) rfl
set_option maxRecDepth 100000 in
theorem s_21 : (Cond.selects RX4 yX4_writeDigits yX4_writeDigits) ∈ tb := tb_of (mem_sl 21 rfl) rfl
set_option maxRecDepth 100000 in
theorem s_22 : (Cond.selects RX4 yX4_writeByte yX4_writeByte) ∈ tb := tb_of (mem_sl 22 rfl) rfl
set_option maxRecDepth 100000 in
theorem s_23 : (Cond.selects RX2 yX2_addUnknowns yX2_addUnknowns) ∈ tb := tb_of (mem_sl 23 rfl) rfl
set_option maxRecDepth 100000 in
theorem s_24 : (Cond.selects RX2 yX2_addAllParts yX2_addAllParts) ∈ tb := tb_of (mem_sl 24 rfl) rfl
set_option maxRecDepth 100000 in
theorem s_25 : (Cond.selects RX8 yX8_cheapestStep yX8_cheapestStep) ∈ tb := tb_of (mem_sl 25 rfl) rfl
set_option maxRecDepth 100000 in
theorem s_26 : (Cond.selects RX5 yX5_measure yX5_measure) ∈ tb := tb_of (mem_sl 26 rfl) rfl
set_option maxRecDepth 100000 in
theorem s_27 : (Cond.selects RX5 yX5_findMiddle yX5_findMiddle) ∈ tb := tb_of (mem_sl 27 rfl) rfl
set_option maxRecDepth 100000 in
theorem s_28 : (Cond.selects RX5 yX5_asGreat yX5_asGreat) ∈ tb := tb_of (mem_sl 28 rfl) rfl
set_option maxRecDepth 100000 in
theorem s_29 : (Cond.selects RX5 yX5_leaveOut yX5_leaveOut) ∈ tb := tb_of (mem_sl 29 rfl) rfl
set_option maxRecDepth 100000 in
theorem s_30 : (Cond.selects RX5 yX5_isAbove yX5_isAbove) ∈ tb := tb_of (mem_sl 30 rfl) rfl
set_option maxRecDepth 100000 in
theorem s_31 : (Cond.selects RX8 yX8_areFourRows yX8_areFourRows) ∈ tb := tb_of (mem_sl 31 rfl) rfl
set_option maxRecDepth 100000 in
theorem s_32 : (Cond.selects RX8 yX8_addForetold yX8_addForetold) ∈ tb := tb_of (mem_sl 32 rfl) rfl
set_option maxRecDepth 100000 in
theorem s_33 : (Cond.selects RX9 yX9_is yX9_is) ∈ tb := tb_of (mem_sl 33 rfl) rfl
set_option maxRecDepth 100000 in
theorem s_34 : (Cond.selects RX9 yX9_refuse yX9_refuse) ∈ tb := tb_of (mem_sl 34 rfl) rfl
set_option maxRecDepth 100000 in
theorem s_35 : (Cond.selects RX9 yX9_counts yX9_counts) ∈ tb := tb_of (mem_sl 35 rfl) rfl
set_option maxRecDepth 100000 in
theorem s_36 : (Cond.selects RX9 yX9_findStep yX9_findStep) ∈ tb := tb_of (mem_sl 36 rfl) rfl
set_option maxRecDepth 100000 in
theorem s_37 : (Cond.selects RX9 yX9_addStep yX9_addStep) ∈ tb := tb_of (mem_sl 37 rfl) rfl
set_option maxRecDepth 100000 in
theorem s_38 : (Cond.selects RX9 yX9_takeStep yX9_takeStep) ∈ tb := tb_of (mem_sl 38 rfl) rfl
set_option maxRecDepth 100000 in
theorem s_39 : (Cond.selects RX9 yX9_solve yX9_solve) ∈ tb := tb_of (mem_sl 39 rfl) rfl
set_option maxRecDepth 100000 in
theorem s_40 : (Cond.selects RX9 yX9_gather yX9_gather) ∈ tb := tb_of (mem_sl 40 rfl) rfl
set_option maxRecDepth 100000 in
theorem s_41 : (Cond.selects RX9 yX9_look yX9_look) ∈ tb := tb_of (mem_sl 41 rfl) rfl
set_option maxRecDepth 100000 in
theorem s_42 : (Cond.selects RX9 yX9_part0 yX9_part0) ∈ tb := tb_of (mem_sl 42 rfl) rfl
set_option maxRecDepth 100000 in
theorem s_43 : (Cond.selects RX9 yX9_clear yX9_clear) ∈ tb := tb_of (mem_sl 43 rfl) rfl
set_option maxRecDepth 100000 in
theorem s_44 : (Cond.selects RX9 yX9_whole yX9_whole) ∈ tb := tb_of (mem_sl 44 rfl) rfl
set_option maxRecDepth 100000 in
theorem s_45 : (Cond.selects RX9 yX9_room yX9_room) ∈ tb := tb_of (mem_sl 45 rfl) rfl
set_option maxRecDepth 100000 in
theorem s_46 : (Cond.selects RX9 yX9_done yX9_done) ∈ tb := tb_of (mem_sl 46 rfl) rfl
set_option maxRecDepth 100000 in
theorem s_47 : (Cond.selects RX9 yX9_sign yX9_sign) ∈ tb := tb_of (mem_sl 47 rfl) rfl
set_option maxRecDepth 100000 in
theorem s_48 : (Cond.selects RX9 yX9_times yX9_times) ∈ tb := tb_of (mem_sl 48 rfl) rfl
set_option maxRecDepth 100000 in
theorem s_49 : (Cond.selects RX9 yX9_size yX9_size) ∈ tb := tb_of (mem_sl 49 rfl) rfl
set_option maxRecDepth 100000 in
theorem s_50 : (Cond.selects RX9 yX9_less yX9_less) ∈ tb := tb_of (mem_sl 50 rfl) rfl
set_option maxRecDepth 100000 in
theorem s_51 : (Cond.selects RX9 yX9_turned yX9_turned) ∈ tb := tb_of (mem_sl 51 rfl) rfl
set_option maxRecDepth 100000 in
theorem s_52 : (Cond.selects RX9 yX9_copy yX9_copy) ∈ tb := tb_of (mem_sl 52 rfl) rfl
set_option maxRecDepth 100000 in
theorem s_53 : (Cond.selects RX9 yX9_sum yX9_sum) ∈ tb := tb_of (mem_sl 53 rfl) rfl
set_option maxRecDepth 100000 in
theorem s_54 : (Cond.selects RX9 yX9_compareSizes yX9_compareSizes) ∈ tb := tb_of (mem_sl 54 rfl) rfl
set_option maxRecDepth 100000 in
theorem s_55 : (Cond.selects RX9 yX9_divided yX9_divided) ∈ tb := tb_of (mem_sl 55 rfl) rfl
set_option maxRecDepth 100000 in
theorem s_56 : (Cond.selects RX9 yX9_divide yX9_divide) ∈ tb := tb_of (mem_sl 56 rfl) rfl
set_option maxRecDepth 100000 in
theorem s_57 : (Cond.selects RX9 yX9_divideShort yX9_divideShort) ∈ tb := tb_of (mem_sl 57 rfl) rfl
set_option maxRecDepth 100000 in
theorem s_58 : (Cond.selects RX9 yX9_stepOff yX9_stepOff) ∈ tb := tb_of (mem_sl 58 rfl) rfl
set_option maxRecDepth 100000 in
theorem s_59 : (Cond.selects RX9 yX9_keep yX9_keep) ∈ tb := tb_of (mem_sl 59 rfl) rfl
set_option maxRecDepth 100000 in
theorem s_60 : (Cond.selects RX9 yX9_cost yX9_cost) ∈ tb := tb_of (mem_sl 60 rfl) rfl
set_option maxRecDepth 100000 in
theorem s_61 : (Cond.selects RX9 yX9_held yX9_held) ∈ tb := tb_of (mem_sl 61 rfl) rfl
set_option maxRecDepth 100000 in
theorem s_62 : (Cond.selects RX9 yX9_tells yX9_tells) ∈ tb := tb_of (mem_sl 62 rfl) rfl
set_option maxRecDepth 100000 in
theorem s_63 : (Cond.selects RX9 yX9_common yX9_common) ∈ tb := tb_of (mem_sl 63 rfl) rfl
set_option maxRecDepth 100000 in
theorem s_64 : (Cond.selects RX9 yX9_putOff yX9_putOff) ∈ tb := tb_of (mem_sl 64 rfl) rfl
set_option maxRecDepth 100000 in
theorem s_65 : (Cond.selects RX9 yX9_tellsNumber yX9_tellsNumber) ∈ tb := tb_of (mem_sl 65 rfl) rfl
set_option maxRecDepth 100000 in
theorem s_66 : (Cond.selects RX9 yX9_tells0 yX9_tells0) ∈ tb := tb_of (mem_sl 66 rfl) rfl
set_option maxRecDepth 100000 in
theorem s_67 : (Cond.selects RX9 yX9_given yX9_given) ∈ tb := tb_of (mem_sl 67 rfl) rfl
set_option maxRecDepth 100000 in
theorem s_68 : (Cond.selects RX9 yX9_restOf yX9_restOf) ∈ tb := tb_of (mem_sl 68 rfl) rfl
set_option maxRecDepth 100000 in
theorem s_69 : (Cond.selects RX9 yX9_round yX9_round) ∈ tb := tb_of (mem_sl 69 rfl) rfl
set_option maxRecDepth 100000 in
theorem s_70 : (Cond.selects RX9 yX9_middle yX9_middle) ∈ tb := tb_of (mem_sl 70 rfl) rfl
theorem inX0 : ∀ w ∈ wsX00, w ∈ tb := mem_r [52, 54, 56] (by decide +kernel) (by decide +kernel)
theorem inX1 : ∀ w ∈ wsX10, w ∈ tb := mem_r [238, 240, 242, 244, 246, 248] (by decide +kernel) (by decide +kernel)
theorem inX2 : ∀ w ∈ wsX20, w ∈ tb := mem_r [164, 166, 168, 170, 172, 174, 176, 178, 180, 182, 184, 186, 188, 190] (by decide +kernel) (by decide +kernel)
theorem inX3 : ∀ w ∈ wsX30, w ∈ tb := mem_r [105, 107, 109, 111, 113, 115, 117, 119] (by decide +kernel) (by decide +kernel)
theorem inX4 : ∀ w ∈ wsX40, w ∈ tb := mem_r [31, 33] (by decide +kernel) (by decide +kernel)
theorem inX5 : ∀ w ∈ wsX50, w ∈ tb := mem_r [209, 211, 213, 215, 217, 219] (by decide +kernel) (by decide +kernel)
theorem inX6 : ∀ w ∈ wsX60, w ∈ tb := mem_r [130, 132] (by decide +kernel) (by decide +kernel)
theorem inX7 : ∀ w ∈ wsX70, w ∈ tb := mem_r [75, 77] (by decide +kernel) (by decide +kernel)
theorem inX8 : ∀ w ∈ wsX80, w ∈ tb := mem_r [260, 262, 264, 266, 268, 270, 272, 274, 276] (by decide +kernel) (by decide +kernel)
theorem inX9 : ∀ w ∈ wsX90, w ∈ tb := mem_r [794, 796, 798, 800, 802, 804, 806, 808, 810, 812, 814, 816, 818, 820, 822, 824, 826, 828, 830, 832, 834, 836, 838, 840, 842, 844, 846, 848, 850, 852] (by decide +kernel) (by decide +kernel)
