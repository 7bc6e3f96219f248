theorem dX7_add_26 : decode cX7_add 26 = .ok (.dup, 1) := by decide +kernel
theorem dX7_add_27 : decode cX7_add 27 = .ok (.getfield 15, 3) := by decide +kernel
theorem dX7_add_30 : decode cX7_add 30 = .ok (.iconst 1, 1) := by decide +kernel
theorem dX7_add_31 : decode cX7_add 31 = .ok (.iadd, 1) := by decide +kernel
theorem dX7_add_32 : decode cX7_add 32 = .ok (.putfield 15, 3) := by decide +kernel
theorem dX7_add_35 : decode cX7_add 35 = .ok (.iconst 1, 1) := by decide +kernel
theorem dX7_add_36 : decode cX7_add 36 = .ok (.ireturn, 1) := by decide +kernel
theorem dX7_drop_0 : decode cX7_drop 0 = .ok (.aload_n 0, 1) := by decide +kernel
theorem dX7_drop_1 : decode cX7_drop 1 = .ok (.iload_n 1, 1) := by decide +kernel
theorem dX7_drop_2 : decode cX7_drop 2 = .ok (.invokevirtual 23, 3) := by decide +kernel
theorem dX7_drop_5 : decode cX7_drop 5 = .ok (.ifCond .ne 5, 3) := by decide +kernel
theorem dX7_drop_8 : decode cX7_drop 8 = .ok (.iconst 0, 1) := by decide +kernel
theorem dX7_drop_9 : decode cX7_drop 9 = .ok (.ireturn, 1) := by decide +kernel
theorem dX7_drop_10 : decode cX7_drop 10 = .ok (.aload_n 0, 1) := by decide +kernel
theorem dX7_drop_11 : decode cX7_drop 11 = .ok (.getfield 9, 3) := by decide +kernel
theorem dX7_drop_14 : decode cX7_drop 14 = .ok (.iload_n 1, 1) := by decide +kernel
theorem dX7_drop_15 : decode cX7_drop 15 = .ok (.iconst 0, 1) := by decide +kernel
theorem dX7_drop_16 : decode cX7_drop 16 = .ok (.bastore, 1) := by decide +kernel
theorem dX7_drop_17 : decode cX7_drop 17 = .ok (.aload_n 0, 1) := by decide +kernel
theorem dX7_drop_18 : decode cX7_drop 18 = .ok (.dup, 1) := by decide +kernel
theorem dX7_drop_19 : decode cX7_drop 19 = .ok (.getfield 15, 3) := by decide +kernel
theorem dX7_drop_22 : decode cX7_drop 22 = .ok (.iconst 1, 1) := by decide +kernel
theorem dX7_drop_23 : decode cX7_drop 23 = .ok (.isub, 1) := by decide +kernel
theorem dX7_drop_24 : decode cX7_drop 24 = .ok (.putfield 15, 3) := by decide +kernel
theorem dX7_drop_27 : decode cX7_drop 27 = .ok (.iconst 1, 1) := by decide +kernel
theorem dX7_drop_28 : decode cX7_drop 28 = .ok (.ireturn, 1) := by decide +kernel
theorem dX7_clear_0 : decode cX7_clear 0 = .ok (.iconst 0, 1) := by decide +kernel
theorem dX7_clear_1 : decode cX7_clear 1 = .ok (.istore_n 1, 1) := by decide +kernel
theorem dX7_clear_2 : decode cX7_clear 2 = .ok (.iload_n 1, 1) := by decide +kernel
theorem dX7_clear_3 : decode cX7_clear 3 = .ok (.bipush 40, 2) := by decide +kernel
theorem dX7_clear_5 : decode cX7_clear 5 = .ok (.if_icmp .ge 16, 3) := by decide +kernel
theorem dX7_clear_8 : decode cX7_clear 8 = .ok (.aload_n 0, 1) := by decide +kernel
theorem dX7_clear_9 : decode cX7_clear 9 = .ok (.getfield 9, 3) := by decide +kernel
theorem dX7_clear_12 : decode cX7_clear 12 = .ok (.iload_n 1, 1) := by decide +kernel
theorem dX7_clear_13 : decode cX7_clear 13 = .ok (.iconst 0, 1) := by decide +kernel
theorem dX7_clear_14 : decode cX7_clear 14 = .ok (.bastore, 1) := by decide +kernel
theorem dX7_clear_15 : decode cX7_clear 15 = .ok (.iinc 1 1, 3) := by decide +kernel
theorem dX7_clear_18 : decode cX7_clear 18 = .ok (.goto (-16), 3) := by decide +kernel
theorem dX7_clear_21 : decode cX7_clear 21 = .ok (.aload_n 0, 1) := by decide +kernel
theorem dX7_clear_22 : decode cX7_clear 22 = .ok (.iconst 0, 1) := by decide +kernel
theorem dX7_clear_23 : decode cX7_clear 23 = .ok (.putfield 15, 3) := by decide +kernel
theorem dX7_clear_26 : decode cX7_clear 26 = .ok (.return_, 1) := by decide +kernel
theorem dX7_copy_0 : decode cX7_copy 0 = .ok (.iconst 0, 1) := by decide +kernel
theorem dX7_copy_1 : decode cX7_copy 1 = .ok (.istore_n 2, 1) := by decide +kernel
theorem dX7_copy_2 : decode cX7_copy 2 = .ok (.iload_n 2, 1) := by decide +kernel
theorem dX7_copy_3 : decode cX7_copy 3 = .ok (.bipush 40, 2) := by decide +kernel
theorem dX7_copy_5 : decode cX7_copy 5 = .ok (.if_icmp .ge 21, 3) := by decide +kernel
theorem dX7_copy_8 : decode cX7_copy 8 = .ok (.aload_n 0, 1) := by decide +kernel
theorem dX7_copy_9 : decode cX7_copy 9 = .ok (.getfield 9, 3) := by decide +kernel
theorem dX7_copy_12 : decode cX7_copy 12 = .ok (.iload_n 2, 1) := by decide +kernel
theorem dX7_copy_13 : decode cX7_copy 13 = .ok (.aload_n 1, 1) := by decide +kernel
theorem dX7_copy_14 : decode cX7_copy 14 = .ok (.getfield 9, 3) := by decide +kernel
theorem dX7_copy_17 : decode cX7_copy 17 = .ok (.iload_n 2, 1) := by decide +kernel
theorem dX7_copy_18 : decode cX7_copy 18 = .ok (.baload, 1) := by decide +kernel
theorem dX7_copy_19 : decode cX7_copy 19 = .ok (.bastore, 1) := by decide +kernel
theorem dX7_copy_20 : decode cX7_copy 20 = .ok (.iinc 2 1, 3) := by decide +kernel
theorem dX7_copy_23 : decode cX7_copy 23 = .ok (.goto (-21), 3) := by decide +kernel
theorem dX7_copy_26 : decode cX7_copy 26 = .ok (.aload_n 0, 1) := by decide +kernel
theorem dX7_copy_27 : decode cX7_copy 27 = .ok (.aload_n 1, 1) := by decide +kernel
theorem dX7_copy_28 : decode cX7_copy 28 = .ok (.getfield 15, 3) := by decide +kernel
theorem dX7_copy_31 : decode cX7_copy 31 = .ok (.putfield 15, 3) := by decide +kernel
theorem dX7_copy_34 : decode cX7_copy 34 = .ok (.return_, 1) := by decide +kernel
theorem dX8_init_0 : decode cX8_init 0 = .ok (.aload_n 0, 1) := by decide +kernel
theorem dX8_init_1 : decode cX8_init 1 = .ok (.invokespecial 1, 3) := by decide +kernel
theorem dX8_init_4 : decode cX8_init 4 = .ok (.aload_n 0, 1) := by decide +kernel
theorem dX8_init_5 : decode cX8_init 5 = .ok (.iconst 4, 1) := by decide +kernel
theorem dX8_init_6 : decode cX8_init 6 = .ok (.anewarray 9, 3) := by decide +kernel
theorem dX8_init_9 : decode cX8_init 9 = .ok (.putfield 11, 3) := by decide +kernel
theorem dX8_init_12 : decode cX8_init 12 = .ok (.aload_n 0, 1) := by decide +kernel
theorem dX8_init_13 : decode cX8_init 13 = .ok (.new 15, 3) := by decide +kernel
theorem dX8_init_16 : decode cX8_init 16 = .ok (.dup, 1) := by decide +kernel
theorem dX8_init_17 : decode cX8_init 17 = .ok (.invokespecial 17, 3) := by decide +kernel
theorem dX8_init_20 : decode cX8_init 20 = .ok (.putfield 18, 3) := by decide +kernel
theorem dX8_init_23 : decode cX8_init 23 = .ok (.aload_n 0, 1) := by decide +kernel
theorem dX8_init_24 : decode cX8_init 24 = .ok (.new 22, 3) := by decide +kernel
theorem dX8_init_27 : decode cX8_init 27 = .ok (.dup, 1) := by decide +kernel
theorem dX8_init_28 : decode cX8_init 28 = .ok (.invokespecial 24, 3) := by decide +kernel
theorem dX8_init_31 : decode cX8_init 31 = .ok (.putfield 25, 3) := by decide +kernel
theorem dX8_init_34 : decode cX8_init 34 = .ok (.aload_n 0, 1) := by decide +kernel
theorem dX8_init_35 : decode cX8_init 35 = .ok (.new 22, 3) := by decide +kernel
theorem dX8_init_38 : decode cX8_init 38 = .ok (.dup, 1) := by decide +kernel
theorem dX8_init_39 : decode cX8_init 39 = .ok (.invokespecial 24, 3) := by decide +kernel
theorem dX8_init_42 : decode cX8_init 42 = .ok (.putfield 29, 3) := by decide +kernel
theorem dX8_init_45 : decode cX8_init 45 = .ok (.aload_n 0, 1) := by decide +kernel
theorem dX8_init_46 : decode cX8_init 46 = .ok (.new 22, 3) := by decide +kernel
theorem dX8_init_49 : decode cX8_init 49 = .ok (.dup, 1) := by decide +kernel
theorem dX8_init_50 : decode cX8_init 50 = .ok (.invokespecial 24, 3) := by decide +kernel
theorem dX8_init_53 : decode cX8_init 53 = .ok (.putfield 32, 3) := by decide +kernel
theorem dX8_init_56 : decode cX8_init 56 = .ok (.aload_n 0, 1) := by decide +kernel
theorem dX8_init_57 : decode cX8_init 57 = .ok (.iconst 0, 1) := by decide +kernel
theorem dX8_init_58 : decode cX8_init 58 = .ok (.putfield 35, 3) := by decide +kernel
theorem dX8_init_61 : decode cX8_init 61 = .ok (.iconst 0, 1) := by decide +kernel
theorem dX8_init_62 : decode cX8_init 62 = .ok (.istore_n 1, 1) := by decide +kernel
theorem dX8_init_63 : decode cX8_init 63 = .ok (.iload_n 1, 1) := by decide +kernel
theorem dX8_init_64 : decode cX8_init 64 = .ok (.iconst 4, 1) := by decide +kernel
theorem dX8_init_65 : decode cX8_init 65 = .ok (.if_icmp .ge 22, 3) := by decide +kernel
theorem dX8_init_68 : decode cX8_init 68 = .ok (.aload_n 0, 1) := by decide +kernel
theorem dX8_init_69 : decode cX8_init 69 = .ok (.getfield 11, 3) := by decide +kernel
theorem dX8_init_72 : decode cX8_init 72 = .ok (.iload_n 1, 1) := by decide +kernel
theorem dX8_init_73 : decode cX8_init 73 = .ok (.new 9, 3) := by decide +kernel
theorem dX8_init_76 : decode cX8_init 76 = .ok (.dup, 1) := by decide +kernel
theorem dX8_init_77 : decode cX8_init 77 = .ok (.invokespecial 39, 3) := by decide +kernel
theorem dX8_init_80 : decode cX8_init 80 = .ok (.aastore, 1) := by decide +kernel
theorem dX8_init_81 : decode cX8_init 81 = .ok (.iinc 1 1, 3) := by decide +kernel
theorem dX8_init_84 : decode cX8_init 84 = .ok (.goto (-21), 3) := by decide +kernel
theorem dX8_init_87 : decode cX8_init 87 = .ok (.new 40, 3) := by decide +kernel
theorem dX8_init_90 : decode cX8_init 90 = .ok (.dup, 1) := by decide +kernel
theorem dX8_init_91 : decode cX8_init 91 = .ok (.invokespecial 42, 3) := by decide +kernel
theorem dX8_init_94 : decode cX8_init 94 = .ok (.astore_n 1, 1) := by decide +kernel
theorem dX8_init_95 : decode cX8_init 95 = .ok (.aload_n 0, 1) := by decide +kernel
theorem dX8_init_96 : decode cX8_init 96 = .ok (.new 43, 3) := by decide +kernel
theorem dX8_init_99 : decode cX8_init 99 = .ok (.dup, 1) := by decide +kernel
theorem dX8_init_100 : decode cX8_init 100 = .ok (.aload_n 1, 1) := by decide +kernel
theorem dX8_init_101 : decode cX8_init 101 = .ok (.invokespecial 45, 3) := by decide +kernel
theorem dX8_init_104 : decode cX8_init 104 = .ok (.putfield 48, 3) := by decide +kernel
theorem dX8_init_107 : decode cX8_init 107 = .ok (.aload_n 0, 1) := by decide +kernel
theorem dX8_init_108 : decode cX8_init 108 = .ok (.new 52, 3) := by decide +kernel
theorem dX8_init_111 : decode cX8_init 111 = .ok (.dup, 1) := by decide +kernel
theorem dX8_init_112 : decode cX8_init 112 = .ok (.aload_n 0, 1) := by decide +kernel
theorem dX8_init_113 : decode cX8_init 113 = .ok (.getfield 48, 3) := by decide +kernel
theorem dX8_init_116 : decode cX8_init 116 = .ok (.aload_n 1, 1) := by decide +kernel
theorem dX8_init_117 : decode cX8_init 117 = .ok (.invokespecial 54, 3) := by decide +kernel
theorem dX8_init_120 : decode cX8_init 120 = .ok (.putfield 57, 3) := by decide +kernel
theorem dX8_init_123 : decode cX8_init 123 = .ok (.aload_n 0, 1) := by decide +kernel
theorem dX8_init_124 : decode cX8_init 124 = .ok (.new 61, 3) := by decide +kernel
theorem dX8_init_127 : decode cX8_init 127 = .ok (.dup, 1) := by decide +kernel
theorem dX8_init_128 : decode cX8_init 128 = .ok (.aload_n 1, 1) := by decide +kernel
theorem dX8_init_129 : decode cX8_init 129 = .ok (.invokespecial 63, 3) := by decide +kernel
theorem dX8_init_132 : decode cX8_init 132 = .ok (.putfield 64, 3) := by decide +kernel
theorem dX8_init_135 : decode cX8_init 135 = .ok (.return_, 1) := by decide +kernel
theorem dX8_status_0 : decode cX8_status 0 = .ok (.aload_n 0, 1) := by decide +kernel
theorem dX8_status_1 : decode cX8_status 1 = .ok (.getfield 35, 3) := by decide +kernel
theorem dX8_status_4 : decode cX8_status 4 = .ok (.ireturn, 1) := by decide +kernel
theorem dX8_out_0 : decode cX8_out 0 = .ok (.aload_n 0, 1) := by decide +kernel
theorem dX8_out_1 : decode cX8_out 1 = .ok (.getfield 18, 3) := by decide +kernel
theorem dX8_out_4 : decode cX8_out 4 = .ok (.iload_n 1, 1) := by decide +kernel
theorem dX8_out_5 : decode cX8_out 5 = .ok (.invokevirtual 68, 3) := by decide +kernel
theorem dX8_out_8 : decode cX8_out 8 = .ok (.ireturn, 1) := by decide +kernel
theorem dX8_put_0 : decode cX8_put 0 = .ok (.aload_n 0, 1) := by decide +kernel
theorem dX8_put_1 : decode cX8_put 1 = .ok (.iload_n 1, 1) := by decide +kernel
theorem dX8_put_2 : decode cX8_put 2 = .ok (.invokevirtual 72, 3) := by decide +kernel
theorem dX8_put_5 : decode cX8_put 5 = .ok (.astore 4, 2) := by decide +kernel
theorem dX8_put_7 : decode cX8_put 7 = .ok (.aload 4, 2) := by decide +kernel
theorem dX8_put_9 : decode cX8_put 9 = .ok (.ifnull 10, 3) := by decide +kernel
theorem dX8_put_12 : decode cX8_put 12 = .ok (.iload_n 2, 1) := by decide +kernel
theorem dX8_put_13 : decode cX8_put 13 = .ok (.invokestatic 76, 3) := by decide +kernel
theorem dX8_put_16 : decode cX8_put 16 = .ok (.ifCond .ne 9, 3) := by decide +kernel
theorem dX8_put_19 : decode cX8_put 19 = .ok (.aload_n 0, 1) := by decide +kernel
theorem dX8_put_20 : decode cX8_put 20 = .ok (.iconst 1, 1) := by decide +kernel
theorem dX8_put_21 : decode cX8_put 21 = .ok (.invokevirtual 80, 3) := by decide +kernel
theorem dX8_put_24 : decode cX8_put 24 = .ok (.ireturn, 1) := by decide +kernel
theorem dX8_put_25 : decode cX8_put 25 = .ok (.iload_n 3, 1) := by decide +kernel
theorem dX8_put_26 : decode cX8_put 26 = .ok (.i2l, 1) := by decide +kernel
theorem dX8_put_27 : decode cX8_put 27 = .ok (.invokestatic 83, 3) := by decide +kernel
theorem dX8_put_30 : decode cX8_put 30 = .ok (.ifCond .ne 9, 3) := by decide +kernel
theorem dX8_put_33 : decode cX8_put 33 = .ok (.aload_n 0, 1) := by decide +kernel
theorem dX8_put_34 : decode cX8_put 34 = .ok (.iconst 2, 1) := by decide +kernel
theorem dX8_put_35 : decode cX8_put 35 = .ok (.invokevirtual 80, 3) := by decide +kernel
theorem dX8_put_38 : decode cX8_put 38 = .ok (.ireturn, 1) := by decide +kernel
theorem dX8_put_39 : decode cX8_put 39 = .ok (.aload 4, 2) := by decide +kernel
theorem dX8_put_41 : decode cX8_put 41 = .ok (.iload_n 2, 1) := by decide +kernel
theorem dX8_put_42 : decode cX8_put 42 = .ok (.iload_n 3, 1) := by decide +kernel
theorem dX8_put_43 : decode cX8_put 43 = .ok (.invokevirtual 87, 3) := by decide +kernel
theorem dX8_put_46 : decode cX8_put 46 = .ok (.aload_n 0, 1) := by decide +kernel
theorem dX8_put_47 : decode cX8_put 47 = .ok (.invokevirtual 91, 3) := by decide +kernel
theorem dX8_put_50 : decode cX8_put 50 = .ok (.ireturn, 1) := by decide +kernel
theorem dX8_fill_0 : decode cX8_fill 0 = .ok (.aload_n 0, 1) := by decide +kernel
theorem dX8_fill_1 : decode cX8_fill 1 = .ok (.iload_n 1, 1) := by decide +kernel
theorem dX8_fill_2 : decode cX8_fill 2 = .ok (.invokevirtual 72, 3) := by decide +kernel
theorem dX8_fill_5 : decode cX8_fill 5 = .ok (.astore 6, 2) := by decide +kernel
theorem dX8_fill_7 : decode cX8_fill 7 = .ok (.aload 6, 2) := by decide +kernel
theorem dX8_fill_9 : decode cX8_fill 9 = .ok (.ifnull 10, 3) := by decide +kernel
theorem dX8_fill_12 : decode cX8_fill 12 = .ok (.iload_n 2, 1) := by decide +kernel
theorem dX8_fill_13 : decode cX8_fill 13 = .ok (.invokestatic 76, 3) := by decide +kernel
theorem dX8_fill_16 : decode cX8_fill 16 = .ok (.ifCond .ne 9, 3) := by decide +kernel
theorem dX8_fill_19 : decode cX8_fill 19 = .ok (.aload_n 0, 1) := by decide +kernel
theorem dX8_fill_20 : decode cX8_fill 20 = .ok (.iconst 1, 1) := by decide +kernel
theorem dX8_fill_21 : decode cX8_fill 21 = .ok (.invokevirtual 80, 3) := by decide +kernel
theorem dX8_fill_24 : decode cX8_fill 24 = .ok (.ireturn, 1) := by decide +kernel
theorem dX8_fill_25 : decode cX8_fill 25 = .ok (.iload_n 3, 1) := by decide +kernel
theorem dX8_fill_26 : decode cX8_fill 26 = .ok (.iconst 1, 1) := by decide +kernel
theorem dX8_fill_27 : decode cX8_fill 27 = .ok (.if_icmp .lt 11, 3) := by decide +kernel
theorem dX8_fill_30 : decode cX8_fill 30 = .ok (.iload_n 3, 1) := by decide +kernel
theorem dX8_fill_31 : decode cX8_fill 31 = .ok (.bipush 40, 2) := by decide +kernel
theorem dX8_fill_33 : decode cX8_fill 33 = .ok (.iload_n 2, 1) := by decide +kernel
theorem dX8_fill_34 : decode cX8_fill 34 = .ok (.isub, 1) := by decide +kernel
theorem dX8_fill_35 : decode cX8_fill 35 = .ok (.if_icmp .le 9, 3) := by decide +kernel
theorem dX8_fill_38 : decode cX8_fill 38 = .ok (.aload_n 0, 1) := by decide +kernel
theorem dX8_fill_39 : decode cX8_fill 39 = .ok (.iconst 2, 1) := by decide +kernel
theorem dX8_fill_40 : decode cX8_fill 40 = .ok (.invokevirtual 80, 3) := by decide +kernel
theorem dX8_fill_43 : decode cX8_fill 43 = .ok (.ireturn, 1) := by decide +kernel
theorem dX8_fill_44 : decode cX8_fill 44 = .ok (.iload 4, 2) := by decide +kernel
theorem dX8_fill_46 : decode cX8_fill 46 = .ok (.i2l, 1) := by decide +kernel
theorem dX8_fill_47 : decode cX8_fill 47 = .ok (.iload_n 3, 1) := by decide +kernel
theorem dX8_fill_48 : decode cX8_fill 48 = .ok (.iconst 1, 1) := by decide +kernel
theorem dX8_fill_49 : decode cX8_fill 49 = .ok (.isub, 1) := by decide +kernel
theorem dX8_fill_50 : decode cX8_fill 50 = .ok (.i2l, 1) := by decide +kernel
theorem dX8_fill_51 : decode cX8_fill 51 = .ok (.iload 5, 2) := by decide +kernel
theorem dX8_fill_53 : decode cX8_fill 53 = .ok (.i2l, 1) := by decide +kernel
theorem dX8_fill_54 : decode cX8_fill 54 = .ok (.lmul, 1) := by decide +kernel
theorem dX8_fill_55 : decode cX8_fill 55 = .ok (.ladd, 1) := by decide +kernel
theorem dX8_fill_56 : decode cX8_fill 56 = .ok (.lstore 7, 2) := by decide +kernel
theorem dX8_fill_58 : decode cX8_fill 58 = .ok (.iload 4, 2) := by decide +kernel
theorem dX8_fill_60 : decode cX8_fill 60 = .ok (.i2l, 1) := by decide +kernel
theorem dX8_fill_61 : decode cX8_fill 61 = .ok (.invokestatic 83, 3) := by decide +kernel
theorem dX8_fill_64 : decode cX8_fill 64 = .ok (.ifCond .eq 11, 3) := by decide +kernel
theorem dX8_fill_67 : decode cX8_fill 67 = .ok (.lload 7, 2) := by decide +kernel
theorem dX8_fill_69 : decode cX8_fill 69 = .ok (.invokestatic 83, 3) := by decide +kernel
theorem dX8_fill_72 : decode cX8_fill 72 = .ok (.ifCond .ne 9, 3) := by decide +kernel
theorem dX8_fill_75 : decode cX8_fill 75 = .ok (.aload_n 0, 1) := by decide +kernel
theorem dX8_fill_76 : decode cX8_fill 76 = .ok (.iconst 2, 1) := by decide +kernel
theorem dX8_fill_77 : decode cX8_fill 77 = .ok (.invokevirtual 80, 3) := by decide +kernel
theorem dX8_fill_80 : decode cX8_fill 80 = .ok (.ireturn, 1) := by decide +kernel
theorem dX8_fill_81 : decode cX8_fill 81 = .ok (.iconst 0, 1) := by decide +kernel
theorem dX8_fill_82 : decode cX8_fill 82 = .ok (.istore 9, 2) := by decide +kernel
theorem dX8_fill_84 : decode cX8_fill 84 = .ok (.iload 9, 2) := by decide +kernel
theorem dX8_fill_86 : decode cX8_fill 86 = .ok (.iload_n 3, 1) := by decide +kernel
theorem dX8_fill_87 : decode cX8_fill 87 = .ok (.if_icmp .ge 26, 3) := by decide +kernel
theorem dX8_fill_90 : decode cX8_fill 90 = .ok (.aload 6, 2) := by decide +kernel
theorem dX8_fill_92 : decode cX8_fill 92 = .ok (.iload_n 2, 1) := by decide +kernel
theorem dX8_fill_93 : decode cX8_fill 93 = .ok (.iload 9, 2) := by decide +kernel
theorem dX8_fill_95 : decode cX8_fill 95 = .ok (.iadd, 1) := by decide +kernel
theorem dX8_fill_96 : decode cX8_fill 96 = .ok (.iload 4, 2) := by decide +kernel
theorem dX8_fill_98 : decode cX8_fill 98 = .ok (.iload 9, 2) := by decide +kernel
theorem dX8_fill_100 : decode cX8_fill 100 = .ok (.iload 5, 2) := by decide +kernel
theorem dX8_fill_102 : decode cX8_fill 102 = .ok (.imul, 1) := by decide +kernel
theorem dX8_fill_103 : decode cX8_fill 103 = .ok (.iadd, 1) := by decide +kernel
theorem dX8_fill_104 : decode cX8_fill 104 = .ok (.invokevirtual 87, 3) := by decide +kernel
theorem dX8_fill_107 : decode cX8_fill 107 = .ok (.iinc 9 1, 3) := by decide +kernel
theorem dX8_fill_110 : decode cX8_fill 110 = .ok (.goto (-26), 3) := by decide +kernel
theorem dX8_fill_113 : decode cX8_fill 113 = .ok (.aload_n 0, 1) := by decide +kernel
theorem dX8_fill_114 : decode cX8_fill 114 = .ok (.invokevirtual 91, 3) := by decide +kernel
theorem dX8_fill_117 : decode cX8_fill 117 = .ok (.ireturn, 1) := by decide +kernel
theorem dX8_gap_0 : decode cX8_gap 0 = .ok (.aload_n 0, 1) := by decide +kernel
theorem dX8_gap_1 : decode cX8_gap 1 = .ok (.iload_n 1, 1) := by decide +kernel
theorem dX8_gap_2 : decode cX8_gap 2 = .ok (.invokevirtual 72, 3) := by decide +kernel
theorem dX8_gap_5 : decode cX8_gap 5 = .ok (.astore_n 3, 1) := by decide +kernel
theorem dX8_gap_6 : decode cX8_gap 6 = .ok (.aload_n 3, 1) := by decide +kernel
theorem dX8_gap_7 : decode cX8_gap 7 = .ok (.ifnull 10, 3) := by decide +kernel
theorem dX8_gap_10 : decode cX8_gap 10 = .ok (.iload_n 2, 1) := by decide +kernel
theorem dX8_gap_11 : decode cX8_gap 11 = .ok (.invokestatic 76, 3) := by decide +kernel
theorem dX8_gap_14 : decode cX8_gap 14 = .ok (.ifCond .ne 9, 3) := by decide +kernel
theorem dX8_gap_17 : decode cX8_gap 17 = .ok (.aload_n 0, 1) := by decide +kernel
theorem dX8_gap_18 : decode cX8_gap 18 = .ok (.iconst 1, 1) := by decide +kernel
theorem dX8_gap_19 : decode cX8_gap 19 = .ok (.invokevirtual 80, 3) := by decide +kernel
theorem dX8_gap_22 : decode cX8_gap 22 = .ok (.ireturn, 1) := by decide +kernel
theorem dX8_gap_23 : decode cX8_gap 23 = .ok (.aload_n 3, 1) := by decide +kernel
theorem dX8_gap_24 : decode cX8_gap 24 = .ok (.getfield 95, 3) := by decide +kernel
theorem dX8_gap_27 : decode cX8_gap 27 = .ok (.iload_n 2, 1) := by decide +kernel
theorem dX8_gap_28 : decode cX8_gap 28 = .ok (.invokevirtual 99, 3) := by decide +kernel
theorem dX8_gap_31 : decode cX8_gap 31 = .ok (.ifCond .eq 10, 3) := by decide +kernel
theorem dX8_gap_34 : decode cX8_gap 34 = .ok (.aload_n 0, 1) := by decide +kernel
theorem dX8_gap_35 : decode cX8_gap 35 = .ok (.invokevirtual 91, 3) := by decide +kernel
theorem dX8_gap_38 : decode cX8_gap 38 = .ok (.goto 8, 3) := by decide +kernel
theorem dX8_gap_41 : decode cX8_gap 41 = .ok (.aload_n 0, 1) := by decide +kernel
theorem dX8_gap_42 : decode cX8_gap 42 = .ok (.iconst 5, 1) := by decide +kernel
theorem dX8_gap_43 : decode cX8_gap 43 = .ok (.invokevirtual 80, 3) := by decide +kernel
theorem dX8_gap_46 : decode cX8_gap 46 = .ok (.ireturn, 1) := by decide +kernel
theorem dX8_number_0 : decode cX8_number 0 = .ok (.aload_n 0, 1) := by decide +kernel
theorem dX8_number_1 : decode cX8_number 1 = .ok (.iload_n 1, 1) := by decide +kernel
theorem dX8_number_2 : decode cX8_number 2 = .ok (.invokevirtual 72, 3) := by decide +kernel
theorem dX8_number_5 : decode cX8_number 5 = .ok (.astore_n 3, 1) := by decide +kernel
theorem dX8_number_6 : decode cX8_number 6 = .ok (.aload_n 3, 1) := by decide +kernel
theorem dX8_number_7 : decode cX8_number 7 = .ok (.ifnull 10, 3) := by decide +kernel
theorem dX8_number_10 : decode cX8_number 10 = .ok (.iload_n 2, 1) := by decide +kernel
theorem dX8_number_11 : decode cX8_number 11 = .ok (.invokestatic 76, 3) := by decide +kernel
theorem dX8_number_14 : decode cX8_number 14 = .ok (.ifCond .ne 9, 3) := by decide +kernel
theorem dX8_number_17 : decode cX8_number 17 = .ok (.aload_n 0, 1) := by decide +kernel
theorem dX8_number_18 : decode cX8_number 18 = .ok (.iconst 1, 1) := by decide +kernel
theorem dX8_number_19 : decode cX8_number 19 = .ok (.invokevirtual 104, 3) := by decide +kernel
theorem dX8_number_22 : decode cX8_number 22 = .ok (.ireturn, 1) := by decide +kernel
theorem dX8_number_23 : decode cX8_number 23 = .ok (.aload_n 3, 1) := by decide +kernel
theorem dX8_number_24 : decode cX8_number 24 = .ok (.getfield 95, 3) := by decide +kernel
theorem dX8_number_27 : decode cX8_number 27 = .ok (.iload_n 2, 1) := by decide +kernel
theorem dX8_number_28 : decode cX8_number 28 = .ok (.invokevirtual 107, 3) := by decide +kernel
theorem dX8_number_31 : decode cX8_number 31 = .ok (.ifCond .eq 16, 3) := by decide +kernel
theorem dX8_number_34 : decode cX8_number 34 = .ok (.aload_n 0, 1) := by decide +kernel
theorem dX8_number_35 : decode cX8_number 35 = .ok (.aload_n 3, 1) := by decide +kernel
theorem dX8_number_36 : decode cX8_number 36 = .ok (.getfield 110, 3) := by decide +kernel
theorem dX8_number_39 : decode cX8_number 39 = .ok (.iload_n 2, 1) := by decide +kernel
theorem dX8_number_40 : decode cX8_number 40 = .ok (.iaload, 1) := by decide +kernel
theorem dX8_number_41 : decode cX8_number 41 = .ok (.invokevirtual 114, 3) := by decide +kernel
theorem dX8_number_44 : decode cX8_number 44 = .ok (.goto 9, 3) := by decide +kernel
theorem dX8_number_47 : decode cX8_number 47 = .ok (.aload_n 0, 1) := by decide +kernel
theorem dX8_number_48 : decode cX8_number 48 = .ok (.bipush 7, 2) := by decide +kernel
theorem dX8_number_50 : decode cX8_number 50 = .ok (.invokevirtual 104, 3) := by decide +kernel
theorem dX8_number_53 : decode cX8_number 53 = .ok (.ireturn, 1) := by decide +kernel
theorem dX8_told_0 : decode cX8_told 0 = .ok (.aload_n 0, 1) := by decide +kernel
theorem dX8_told_1 : decode cX8_told 1 = .ok (.iload_n 1, 1) := by decide +kernel
theorem dX8_told_2 : decode cX8_told 2 = .ok (.invokevirtual 72, 3) := by decide +kernel
theorem dX8_told_5 : decode cX8_told 5 = .ok (.astore_n 3, 1) := by decide +kernel
theorem dX8_told_6 : decode cX8_told 6 = .ok (.aload_n 3, 1) := by decide +kernel
theorem dX8_told_7 : decode cX8_told 7 = .ok (.ifnonnull 9, 3) := by decide +kernel
theorem dX8_told_10 : decode cX8_told 10 = .ok (.aload_n 0, 1) := by decide +kernel
theorem dX8_told_11 : decode cX8_told 11 = .ok (.iconst 1, 1) := by decide +kernel
theorem dX8_told_12 : decode cX8_told 12 = .ok (.invokevirtual 104, 3) := by decide +kernel
theorem dX8_told_15 : decode cX8_told 15 = .ok (.ireturn, 1) := by decide +kernel
theorem dX8_told_16 : decode cX8_told 16 = .ok (.iload_n 2, 1) := by decide +kernel
theorem dX8_told_17 : decode cX8_told 17 = .ok (.tableswitch 123 0 6 #[43, 55, 64, 76, 88, 97, 106], 43) := by decide +kernel
theorem dX8_told_60 : decode cX8_told 60 = .ok (.aload_n 0, 1) := by decide +kernel
theorem dX8_told_61 : decode cX8_told 61 = .ok (.aload_n 3, 1) := by decide +kernel
theorem dX8_told_62 : decode cX8_told 62 = .ok (.getfield 95, 3) := by decide +kernel
theorem dX8_told_65 : decode cX8_told 65 = .ok (.getfield 117, 3) := by decide +kernel
theorem dX8_told_68 : decode cX8_told 68 = .ok (.invokevirtual 114, 3) := by decide +kernel
theorem dX8_told_71 : decode cX8_told 71 = .ok (.ireturn, 1) := by decide +kernel
theorem dX8_told_72 : decode cX8_told 72 = .ok (.aload_n 0, 1) := by decide +kernel
theorem dX8_told_73 : decode cX8_told 73 = .ok (.aload_n 3, 1) := by decide +kernel
theorem dX8_told_74 : decode cX8_told 74 = .ok (.invokevirtual 120, 3) := by decide +kernel
theorem dX8_told_77 : decode cX8_told 77 = .ok (.invokevirtual 114, 3) := by decide +kernel
theorem dX8_told_80 : decode cX8_told 80 = .ok (.ireturn, 1) := by decide +kernel
theorem dX8_told_81 : decode cX8_told 81 = .ok (.aload_n 0, 1) := by decide +kernel
theorem dX8_told_82 : decode cX8_told 82 = .ok (.aload_n 3, 1) := by decide +kernel
theorem dX8_told_83 : decode cX8_told 83 = .ok (.getfield 124, 3) := by decide +kernel
theorem dX8_told_86 : decode cX8_told 86 = .ok (.getfield 117, 3) := by decide +kernel
theorem dX8_told_89 : decode cX8_told 89 = .ok (.invokevirtual 114, 3) := by decide +kernel
theorem dX8_told_92 : decode cX8_told 92 = .ok (.ireturn, 1) := by decide +kernel
theorem dX8_told_93 : decode cX8_told 93 = .ok (.aload_n 0, 1) := by decide +kernel
theorem dX8_told_94 : decode cX8_told 94 = .ok (.aload_n 3, 1) := by decide +kernel
theorem dX8_told_95 : decode cX8_told 95 = .ok (.getfield 127, 3) := by decide +kernel
theorem dX8_told_98 : decode cX8_told 98 = .ok (.getfield 117, 3) := by decide +kernel
theorem dX8_told_101 : decode cX8_told 101 = .ok (.invokevirtual 114, 3) := by decide +kernel
theorem dX8_told_104 : decode cX8_told 104 = .ok (.ireturn, 1) := by decide +kernel
theorem dX8_told_105 : decode cX8_told 105 = .ok (.aload_n 0, 1) := by decide +kernel
theorem dX8_told_106 : decode cX8_told 106 = .ok (.aload_n 3, 1) := by decide +kernel
theorem dX8_told_107 : decode cX8_told 107 = .ok (.getfield 130, 3) := by decide +kernel
theorem dX8_told_110 : decode cX8_told 110 = .ok (.invokevirtual 114, 3) := by decide +kernel
theorem dX8_told_113 : decode cX8_told 113 = .ok (.ireturn, 1) := by decide +kernel
theorem dX8_told_114 : decode cX8_told 114 = .ok (.aload_n 0, 1) := by decide +kernel
theorem dX8_told_115 : decode cX8_told 115 = .ok (.aload_n 3, 1) := by decide +kernel
theorem dX8_told_116 : decode cX8_told 116 = .ok (.getfield 133, 3) := by decide +kernel
theorem dX8_told_119 : decode cX8_told 119 = .ok (.invokevirtual 114, 3) := by decide +kernel
theorem dX8_told_122 : decode cX8_told 122 = .ok (.ireturn, 1) := by decide +kernel
theorem dX8_told_123 : decode cX8_told 123 = .ok (.aload_n 0, 1) := by decide +kernel
theorem dX8_told_124 : decode cX8_told 124 = .ok (.aload_n 3, 1) := by decide +kernel
theorem dX8_told_125 : decode cX8_told 125 = .ok (.getfield 136, 3) := by decide +kernel
theorem dX8_told_128 : decode cX8_told 128 = .ok (.ifCond .eq 7, 3) := by decide +kernel
theorem dX8_told_131 : decode cX8_told 131 = .ok (.iconst 1, 1) := by decide +kernel
theorem dX8_told_132 : decode cX8_told 132 = .ok (.goto 4, 3) := by decide +kernel
theorem dX8_told_135 : decode cX8_told 135 = .ok (.iconst 0, 1) := by decide +kernel
theorem dX8_told_136 : decode cX8_told 136 = .ok (.invokevirtual 114, 3) := by decide +kernel
theorem dX8_told_139 : decode cX8_told 139 = .ok (.ireturn, 1) := by decide +kernel
theorem dX8_told_140 : decode cX8_told 140 = .ok (.aload_n 0, 1) := by decide +kernel
theorem dX8_told_141 : decode cX8_told 141 = .ok (.iconst 2, 1) := by decide +kernel
theorem dX8_told_142 : decode cX8_told 142 = .ok (.invokevirtual 104, 3) := by decide +kernel
theorem dX8_told_145 : decode cX8_told 145 = .ok (.ireturn, 1) := by decide +kernel
theorem dX8_model_0 : decode cX8_model 0 = .ok (.aload_n 0, 1) := by decide +kernel
theorem dX8_model_1 : decode cX8_model 1 = .ok (.iload_n 1, 1) := by decide +kernel
theorem dX8_model_2 : decode cX8_model 2 = .ok (.invokevirtual 72, 3) := by decide +kernel
theorem dX8_model_5 : decode cX8_model 5 = .ok (.astore 4, 2) := by decide +kernel
theorem dX8_model_7 : decode cX8_model 7 = .ok (.aload 4, 2) := by decide +kernel
theorem dX8_model_9 : decode cX8_model 9 = .ok (.ifnonnull 9, 3) := by decide +kernel
theorem dX8_model_12 : decode cX8_model 12 = .ok (.aload_n 0, 1) := by decide +kernel
theorem dX8_model_13 : decode cX8_model 13 = .ok (.iconst 1, 1) := by decide +kernel
theorem dX8_model_14 : decode cX8_model 14 = .ok (.invokevirtual 80, 3) := by decide +kernel
theorem dX8_model_17 : decode cX8_model 17 = .ok (.ireturn, 1) := by decide +kernel
theorem dX8_model_18 : decode cX8_model 18 = .ok (.iload_n 3, 1) := by decide +kernel
theorem dX8_model_19 : decode cX8_model 19 = .ok (.ifCond .eq 20, 3) := by decide +kernel
theorem dX8_model_22 : decode cX8_model 22 = .ok (.iload_n 3, 1) := by decide +kernel
theorem dX8_model_23 : decode cX8_model 23 = .ok (.iconst 2, 1) := by decide +kernel
theorem dX8_model_24 : decode cX8_model 24 = .ok (.if_icmp .lt 9, 3) := by decide +kernel
theorem dX8_model_27 : decode cX8_model 27 = .ok (.iload_n 3, 1) := by decide +kernel
theorem dX8_model_28 : decode cX8_model 28 = .ok (.bipush 7, 2) := by decide +kernel
theorem dX8_model_30 : decode cX8_model 30 = .ok (.if_icmp .le 9, 3) := by decide +kernel
theorem dX8_model_33 : decode cX8_model 33 = .ok (.aload_n 0, 1) := by decide +kernel
theorem dX8_model_34 : decode cX8_model 34 = .ok (.iconst 2, 1) := by decide +kernel
theorem dX8_model_35 : decode cX8_model 35 = .ok (.invokevirtual 80, 3) := by decide +kernel
theorem dX8_model_38 : decode cX8_model 38 = .ok (.ireturn, 1) := by decide +kernel
theorem dX8_model_39 : decode cX8_model 39 = .ok (.aload 4, 2) := by decide +kernel
theorem dX8_model_41 : decode cX8_model 41 = .ok (.iload_n 2, 1) := by decide +kernel
theorem dX8_model_42 : decode cX8_model 42 = .ok (.putfield 136, 3) := by decide +kernel
theorem dX8_model_45 : decode cX8_model 45 = .ok (.aload 4, 2) := by decide +kernel
theorem dX8_model_47 : decode cX8_model 47 = .ok (.iload_n 3, 1) := by decide +kernel
theorem dX8_model_48 : decode cX8_model 48 = .ok (.putfield 133, 3) := by decide +kernel
theorem dX8_model_51 : decode cX8_model 51 = .ok (.aload_n 0, 1) := by decide +kernel
theorem dX8_model_52 : decode cX8_model 52 = .ok (.invokevirtual 91, 3) := by decide +kernel
theorem dX8_model_55 : decode cX8_model 55 = .ok (.ireturn, 1) := by decide +kernel
theorem dX8_step_0 : decode cX8_step 0 = .ok (.aload_n 0, 1) := by decide +kernel
theorem dX8_step_1 : decode cX8_step 1 = .ok (.iload_n 1, 1) := by decide +kernel
theorem dX8_step_2 : decode cX8_step 2 = .ok (.invokevirtual 72, 3) := by decide +kernel
theorem dX8_step_5 : decode cX8_step 5 = .ok (.astore_n 3, 1) := by decide +kernel
theorem dX8_step_6 : decode cX8_step 6 = .ok (.aload_n 3, 1) := by decide +kernel
theorem dX8_step_7 : decode cX8_step 7 = .ok (.ifnull 10, 3) := by decide +kernel
theorem dX8_step_10 : decode cX8_step 10 = .ok (.iload_n 2, 1) := by decide +kernel
theorem dX8_step_11 : decode cX8_step 11 = .ok (.invokestatic 76, 3) := by decide +kernel
theorem dX8_step_14 : decode cX8_step 14 = .ok (.ifCond .ne 9, 3) := by decide +kernel
theorem dX8_step_17 : decode cX8_step 17 = .ok (.aload_n 0, 1) := by decide +kernel
theorem dX8_step_18 : decode cX8_step 18 = .ok (.iconst 1, 1) := by decide +kernel
theorem dX8_step_19 : decode cX8_step 19 = .ok (.invokevirtual 80, 3) := by decide +kernel
theorem dX8_step_22 : decode cX8_step 22 = .ok (.ireturn, 1) := by decide +kernel
theorem dX8_step_23 : decode cX8_step 23 = .ok (.iload_n 2, 1) := by decide +kernel
theorem dX8_step_24 : decode cX8_step 24 = .ok (.ifCond .ne 9, 3) := by decide +kernel
theorem dX8_step_27 : decode cX8_step 27 = .ok (.aload_n 0, 1) := by decide +kernel
theorem dX8_step_28 : decode cX8_step 28 = .ok (.iconst 2, 1) := by decide +kernel
theorem dX8_step_29 : decode cX8_step 29 = .ok (.invokevirtual 80, 3) := by decide +kernel
theorem dX8_step_32 : decode cX8_step 32 = .ok (.ireturn, 1) := by decide +kernel
theorem dX8_step_33 : decode cX8_step 33 = .ok (.aload_n 3, 1) := by decide +kernel
theorem dX8_step_34 : decode cX8_step 34 = .ok (.getfield 127, 3) := by decide +kernel
theorem dX8_step_37 : decode cX8_step 37 = .ok (.getfield 117, 3) := by decide +kernel
theorem dX8_step_40 : decode cX8_step 40 = .ok (.iconst 3, 1) := by decide +kernel
theorem dX8_step_41 : decode cX8_step 41 = .ok (.if_icmp .lt 9, 3) := by decide +kernel
theorem dX8_step_44 : decode cX8_step 44 = .ok (.aload_n 0, 1) := by decide +kernel
theorem dX8_step_45 : decode cX8_step 45 = .ok (.iconst 3, 1) := by decide +kernel
theorem dX8_step_46 : decode cX8_step 46 = .ok (.invokevirtual 80, 3) := by decide +kernel
theorem dX8_step_49 : decode cX8_step 49 = .ok (.ireturn, 1) := by decide +kernel
theorem dX8_step_50 : decode cX8_step 50 = .ok (.aload_n 3, 1) := by decide +kernel
theorem dX8_step_51 : decode cX8_step 51 = .ok (.getfield 127, 3) := by decide +kernel
theorem dX8_step_54 : decode cX8_step 54 = .ok (.iload_n 2, 1) := by decide +kernel
theorem dX8_step_55 : decode cX8_step 55 = .ok (.invokevirtual 140, 3) := by decide +kernel
theorem dX8_step_58 : decode cX8_step 58 = .ok (.ifCond .eq 10, 3) := by decide +kernel
theorem dX8_step_61 : decode cX8_step 61 = .ok (.aload_n 0, 1) := by decide +kernel
theorem dX8_step_62 : decode cX8_step 62 = .ok (.invokevirtual 91, 3) := by decide +kernel
theorem dX8_step_65 : decode cX8_step 65 = .ok (.goto 8, 3) := by decide +kernel
theorem dX8_step_68 : decode cX8_step 68 = .ok (.aload_n 0, 1) := by decide +kernel
theorem dX8_step_69 : decode cX8_step 69 = .ok (.iconst 4, 1) := by decide +kernel
theorem dX8_step_70 : decode cX8_step 70 = .ok (.invokevirtual 80, 3) := by decide +kernel
theorem dX8_step_73 : decode cX8_step 73 = .ok (.ireturn, 1) := by decide +kernel
theorem dX8_unstep_0 : decode cX8_unstep 0 = .ok (.aload_n 0, 1) := by decide +kernel
theorem dX8_unstep_1 : decode cX8_unstep 1 = .ok (.iload_n 1, 1) := by decide +kernel
theorem dX8_unstep_2 : decode cX8_unstep 2 = .ok (.invokevirtual 72, 3) := by decide +kernel
theorem dX8_unstep_5 : decode cX8_unstep 5 = .ok (.astore_n 3, 1) := by decide +kernel
theorem dX8_unstep_6 : decode cX8_unstep 6 = .ok (.aload_n 3, 1) := by decide +kernel
theorem dX8_unstep_7 : decode cX8_unstep 7 = .ok (.ifnull 10, 3) := by decide +kernel
theorem dX8_unstep_10 : decode cX8_unstep 10 = .ok (.iload_n 2, 1) := by decide +kernel
theorem dX8_unstep_11 : decode cX8_unstep 11 = .ok (.invokestatic 76, 3) := by decide +kernel
theorem dX8_unstep_14 : decode cX8_unstep 14 = .ok (.ifCond .ne 9, 3) := by decide +kernel
theorem dX8_unstep_17 : decode cX8_unstep 17 = .ok (.aload_n 0, 1) := by decide +kernel
theorem dX8_unstep_18 : decode cX8_unstep 18 = .ok (.iconst 1, 1) := by decide +kernel
theorem dX8_unstep_19 : decode cX8_unstep 19 = .ok (.invokevirtual 80, 3) := by decide +kernel
theorem dX8_unstep_22 : decode cX8_unstep 22 = .ok (.ireturn, 1) := by decide +kernel
theorem dX8_unstep_23 : decode cX8_unstep 23 = .ok (.aload_n 3, 1) := by decide +kernel
theorem dX8_unstep_24 : decode cX8_unstep 24 = .ok (.getfield 127, 3) := by decide +kernel
theorem dX8_unstep_27 : decode cX8_unstep 27 = .ok (.iload_n 2, 1) := by decide +kernel
theorem dX8_unstep_28 : decode cX8_unstep 28 = .ok (.invokevirtual 99, 3) := by decide +kernel
theorem dX8_unstep_31 : decode cX8_unstep 31 = .ok (.ifCond .eq 10, 3) := by decide +kernel
theorem dX8_unstep_34 : decode cX8_unstep 34 = .ok (.aload_n 0, 1) := by decide +kernel
theorem dX8_unstep_35 : decode cX8_unstep 35 = .ok (.invokevirtual 91, 3) := by decide +kernel
theorem dX8_unstep_38 : decode cX8_unstep 38 = .ok (.goto 8, 3) := by decide +kernel
theorem dX8_unstep_41 : decode cX8_unstep 41 = .ok (.aload_n 0, 1) := by decide +kernel
theorem dX8_unstep_42 : decode cX8_unstep 42 = .ok (.iconst 5, 1) := by decide +kernel
theorem dX8_unstep_43 : decode cX8_unstep 43 = .ok (.invokevirtual 80, 3) := by decide +kernel
theorem dX8_unstep_46 : decode cX8_unstep 46 = .ok (.ireturn, 1) := by decide +kernel
theorem dX8_feast_0 : decode cX8_feast 0 = .ok (.aload_n 0, 1) := by decide +kernel
theorem dX8_feast_1 : decode cX8_feast 1 = .ok (.iload_n 1, 1) := by decide +kernel
theorem dX8_feast_2 : decode cX8_feast 2 = .ok (.invokevirtual 72, 3) := by decide +kernel
theorem dX8_feast_5 : decode cX8_feast 5 = .ok (.astore_n 2, 1) := by decide +kernel
theorem dX8_feast_6 : decode cX8_feast 6 = .ok (.aload_n 2, 1) := by decide +kernel
theorem dX8_feast_7 : decode cX8_feast 7 = .ok (.ifnonnull 9, 3) := by decide +kernel
theorem dX8_feast_10 : decode cX8_feast 10 = .ok (.aload_n 0, 1) := by decide +kernel
theorem dX8_feast_11 : decode cX8_feast 11 = .ok (.iconst 1, 1) := by decide +kernel
theorem dX8_feast_12 : decode cX8_feast 12 = .ok (.invokevirtual 104, 3) := by decide +kernel
theorem dX8_feast_15 : decode cX8_feast 15 = .ok (.ireturn, 1) := by decide +kernel
theorem dX8_feast_16 : decode cX8_feast 16 = .ok (.aload_n 2, 1) := by decide +kernel
theorem dX8_feast_17 : decode cX8_feast 17 = .ok (.getfield 130, 3) := by decide +kernel
theorem dX8_feast_20 : decode cX8_feast 20 = .ok (.iconst 2, 1) := by decide +kernel
theorem dX8_feast_21 : decode cX8_feast 21 = .ok (.if_icmp .lt 9, 3) := by decide +kernel
theorem dX8_feast_24 : decode cX8_feast 24 = .ok (.aload_n 0, 1) := by decide +kernel
theorem dX8_feast_25 : decode cX8_feast 25 = .ok (.iconst 3, 1) := by decide +kernel
theorem dX8_feast_26 : decode cX8_feast 26 = .ok (.invokevirtual 104, 3) := by decide +kernel
theorem dX8_feast_29 : decode cX8_feast 29 = .ok (.ireturn, 1) := by decide +kernel
theorem dX8_feast_30 : decode cX8_feast 30 = .ok (.aload_n 2, 1) := by decide +kernel
theorem dX8_feast_31 : decode cX8_feast 31 = .ok (.dup, 1) := by decide +kernel
theorem dX8_feast_32 : decode cX8_feast 32 = .ok (.getfield 130, 3) := by decide +kernel
theorem dX8_feast_35 : decode cX8_feast 35 = .ok (.iconst 1, 1) := by decide +kernel
theorem dX8_feast_36 : decode cX8_feast 36 = .ok (.iadd, 1) := by decide +kernel
theorem dX8_feast_37 : decode cX8_feast 37 = .ok (.putfield 130, 3) := by decide +kernel
theorem dX8_feast_40 : decode cX8_feast 40 = .ok (.aload_n 0, 1) := by decide +kernel
theorem dX8_feast_41 : decode cX8_feast 41 = .ok (.aload_n 2, 1) := by decide +kernel
theorem dX8_feast_42 : decode cX8_feast 42 = .ok (.getfield 130, 3) := by decide +kernel
theorem dX8_feast_45 : decode cX8_feast 45 = .ok (.iconst 1, 1) := by decide +kernel
theorem dX8_feast_46 : decode cX8_feast 46 = .ok (.isub, 1) := by decide +kernel
theorem dX8_feast_47 : decode cX8_feast 47 = .ok (.invokevirtual 114, 3) := by decide +kernel
theorem dX8_feast_50 : decode cX8_feast 50 = .ok (.ireturn, 1) := by decide +kernel
theorem dX8_on_0 : decode cX8_on 0 = .ok (.aload_n 0, 1) := by decide +kernel
theorem dX8_on_1 : decode cX8_on 1 = .ok (.iload_n 1, 1) := by decide +kernel
theorem dX8_on_2 : decode cX8_on 2 = .ok (.invokevirtual 72, 3) := by decide +kernel
theorem dX8_on_5 : decode cX8_on 5 = .ok (.astore 4, 2) := by decide +kernel
theorem dX8_on_7 : decode cX8_on 7 = .ok (.aload 4, 2) := by decide +kernel
theorem dX8_on_9 : decode cX8_on 9 = .ok (.ifnull 10, 3) := by decide +kernel
theorem dX8_on_12 : decode cX8_on 12 = .ok (.iload_n 3, 1) := by decide +kernel
theorem dX8_on_13 : decode cX8_on 13 = .ok (.invokestatic 76, 3) := by decide +kernel
theorem dX8_on_16 : decode cX8_on 16 = .ok (.ifCond .ne 9, 3) := by decide +kernel
theorem dX8_on_19 : decode cX8_on 19 = .ok (.aload_n 0, 1) := by decide +kernel
theorem dX8_on_20 : decode cX8_on 20 = .ok (.iconst 1, 1) := by decide +kernel
theorem dX8_on_21 : decode cX8_on 21 = .ok (.invokevirtual 80, 3) := by decide +kernel
theorem dX8_on_24 : decode cX8_on 24 = .ok (.ireturn, 1) := by decide +kernel
theorem dX8_on_25 : decode cX8_on 25 = .ok (.aload 4, 2) := by decide +kernel
theorem dX8_on_27 : decode cX8_on 27 = .ok (.iload_n 2, 1) := by decide +kernel
theorem dX8_on_28 : decode cX8_on 28 = .ok (.invokevirtual 143, 3) := by decide +kernel
theorem dX8_on_31 : decode cX8_on 31 = .ok (.ifCond .ne 9, 3) := by decide +kernel
theorem dX8_on_34 : decode cX8_on 34 = .ok (.aload_n 0, 1) := by decide +kernel
theorem dX8_on_35 : decode cX8_on 35 = .ok (.iconst 5, 1) := by decide +kernel
theorem dX8_on_36 : decode cX8_on 36 = .ok (.invokevirtual 80, 3) := by decide +kernel
theorem dX8_on_39 : decode cX8_on 39 = .ok (.ireturn, 1) := by decide +kernel
theorem dX8_on_40 : decode cX8_on 40 = .ok (.aload 4, 2) := by decide +kernel
theorem dX8_on_42 : decode cX8_on 42 = .ok (.getfield 146, 3) := by decide +kernel
theorem dX8_on_45 : decode cX8_on 45 = .ok (.iload_n 2, 1) := by decide +kernel
theorem dX8_on_46 : decode cX8_on 46 = .ok (.aaload, 1) := by decide +kernel
theorem dX8_on_47 : decode cX8_on 47 = .ok (.astore 5, 2) := by decide +kernel
theorem dX8_on_49 : decode cX8_on 49 = .ok (.aload 5, 2) := by decide +kernel
theorem dX8_on_51 : decode cX8_on 51 = .ok (.getfield 117, 3) := by decide +kernel
theorem dX8_on_54 : decode cX8_on 54 = .ok (.bipush 8, 2) := by decide +kernel
theorem dX8_on_56 : decode cX8_on 56 = .ok (.if_icmp .lt 9, 3) := by decide +kernel
theorem dX8_on_59 : decode cX8_on 59 = .ok (.aload_n 0, 1) := by decide +kernel
theorem dX8_on_60 : decode cX8_on 60 = .ok (.iconst 3, 1) := by decide +kernel
theorem dX8_on_61 : decode cX8_on 61 = .ok (.invokevirtual 80, 3) := by decide +kernel
theorem dX8_on_64 : decode cX8_on 64 = .ok (.ireturn, 1) := by decide +kernel
theorem dX8_on_65 : decode cX8_on 65 = .ok (.aload 5, 2) := by decide +kernel
theorem dX8_on_67 : decode cX8_on 67 = .ok (.iload_n 3, 1) := by decide +kernel
theorem dX8_on_68 : decode cX8_on 68 = .ok (.invokevirtual 140, 3) := by decide +kernel
theorem dX8_on_71 : decode cX8_on 71 = .ok (.ifCond .eq 10, 3) := by decide +kernel
theorem dX8_on_74 : decode cX8_on 74 = .ok (.aload_n 0, 1) := by decide +kernel
theorem dX8_on_75 : decode cX8_on 75 = .ok (.invokevirtual 91, 3) := by decide +kernel
theorem dX8_on_78 : decode cX8_on 78 = .ok (.goto 8, 3) := by decide +kernel
theorem dX8_on_81 : decode cX8_on 81 = .ok (.aload_n 0, 1) := by decide +kernel
theorem dX8_on_82 : decode cX8_on 82 = .ok (.iconst 4, 1) := by decide +kernel
theorem dX8_on_83 : decode cX8_on 83 = .ok (.invokevirtual 80, 3) := by decide +kernel
theorem dX8_on_86 : decode cX8_on 86 = .ok (.ireturn, 1) := by decide +kernel
theorem dX8_plain_0 : decode cX8_plain 0 = .ok (.aload_n 0, 1) := by decide +kernel
theorem dX8_plain_1 : decode cX8_plain 1 = .ok (.iload_n 1, 1) := by decide +kernel
theorem dX8_plain_2 : decode cX8_plain 2 = .ok (.invokevirtual 72, 3) := by decide +kernel
theorem dX8_plain_5 : decode cX8_plain 5 = .ok (.astore_n 2, 1) := by decide +kernel
theorem dX8_plain_6 : decode cX8_plain 6 = .ok (.aload_n 2, 1) := by decide +kernel
theorem dX8_plain_7 : decode cX8_plain 7 = .ok (.ifnonnull 9, 3) := by decide +kernel
theorem dX8_plain_10 : decode cX8_plain 10 = .ok (.aload_n 0, 1) := by decide +kernel
theorem dX8_plain_11 : decode cX8_plain 11 = .ok (.iconst 1, 1) := by decide +kernel
theorem dX8_plain_12 : decode cX8_plain 12 = .ok (.invokevirtual 80, 3) := by decide +kernel
theorem dX8_plain_15 : decode cX8_plain 15 = .ok (.ireturn, 1) := by decide +kernel
theorem dX8_plain_16 : decode cX8_plain 16 = .ok (.aload_n 2, 1) := by decide +kernel
theorem dX8_plain_17 : decode cX8_plain 17 = .ok (.invokevirtual 150, 3) := by decide +kernel
theorem dX8_plain_20 : decode cX8_plain 20 = .ok (.aload_n 0, 1) := by decide +kernel
theorem dX8_plain_21 : decode cX8_plain 21 = .ok (.invokevirtual 91, 3) := by decide +kernel
theorem dX8_plain_24 : decode cX8_plain 24 = .ok (.ireturn, 1) := by decide +kernel
theorem dX8_strange_0 : decode cX8_strange 0 = .ok (.aload_n 0, 1) := by decide +kernel
theorem dX8_strange_1 : decode cX8_strange 1 = .ok (.iload_n 1, 1) := by decide +kernel
theorem dX8_strange_2 : decode cX8_strange 2 = .ok (.invokevirtual 72, 3) := by decide +kernel
theorem dX8_strange_5 : decode cX8_strange 5 = .ok (.astore 4, 2) := by decide +kernel
theorem dX8_strange_7 : decode cX8_strange 7 = .ok (.aload 4, 2) := by decide +kernel
theorem dX8_strange_9 : decode cX8_strange 9 = .ok (.ifnull 10, 3) := by decide +kernel
theorem dX8_strange_12 : decode cX8_strange 12 = .ok (.iload_n 2, 1) := by decide +kernel
theorem dX8_strange_13 : decode cX8_strange 13 = .ok (.invokestatic 76, 3) := by decide +kernel
theorem dX8_strange_16 : decode cX8_strange 16 = .ok (.ifCond .ne 9, 3) := by decide +kernel
theorem dX8_strange_19 : decode cX8_strange 19 = .ok (.aload_n 0, 1) := by decide +kernel
theorem dX8_strange_20 : decode cX8_strange 20 = .ok (.iconst 1, 1) := by decide +kernel
theorem dX8_strange_21 : decode cX8_strange 21 = .ok (.invokevirtual 80, 3) := by decide +kernel
theorem dX8_strange_24 : decode cX8_strange 24 = .ok (.ireturn, 1) := by decide +kernel
theorem dX8_strange_25 : decode cX8_strange 25 = .ok (.iload_n 3, 1) := by decide +kernel
theorem dX8_strange_26 : decode cX8_strange 26 = .ok (.ifCond .eq 15, 3) := by decide +kernel
theorem dX8_strange_29 : decode cX8_strange 29 = .ok (.aload 4, 2) := by decide +kernel
theorem dX8_strange_31 : decode cX8_strange 31 = .ok (.getfield 124, 3) := by decide +kernel
theorem dX8_strange_34 : decode cX8_strange 34 = .ok (.iload_n 2, 1) := by decide +kernel
theorem dX8_strange_35 : decode cX8_strange 35 = .ok (.invokevirtual 140, 3) := by decide +kernel
theorem dX8_strange_38 : decode cX8_strange 38 = .ok (.goto 12, 3) := by decide +kernel
theorem dX8_strange_41 : decode cX8_strange 41 = .ok (.aload 4, 2) := by decide +kernel
theorem dX8_strange_43 : decode cX8_strange 43 = .ok (.getfield 124, 3) := by decide +kernel
theorem dX8_strange_46 : decode cX8_strange 46 = .ok (.iload_n 2, 1) := by decide +kernel
theorem dX8_strange_47 : decode cX8_strange 47 = .ok (.invokevirtual 99, 3) := by decide +kernel
theorem dX8_strange_50 : decode cX8_strange 50 = .ok (.istore 5, 2) := by decide +kernel
theorem dX8_strange_52 : decode cX8_strange 52 = .ok (.iload 5, 2) := by decide +kernel
theorem dX8_strange_54 : decode cX8_strange 54 = .ok (.ifCond .eq 10, 3) := by decide +kernel
theorem dX8_strange_57 : decode cX8_strange 57 = .ok (.aload_n 0, 1) := by decide +kernel
theorem dX8_strange_58 : decode cX8_strange 58 = .ok (.invokevirtual 91, 3) := by decide +kernel
theorem dX8_strange_61 : decode cX8_strange 61 = .ok (.goto 8, 3) := by decide +kernel
theorem dX8_strange_64 : decode cX8_strange 64 = .ok (.aload_n 0, 1) := by decide +kernel
theorem dX8_strange_65 : decode cX8_strange 65 = .ok (.iconst 4, 1) := by decide +kernel
theorem dX8_strange_66 : decode cX8_strange 66 = .ok (.invokevirtual 80, 3) := by decide +kernel
theorem dX8_strange_69 : decode cX8_strange 69 = .ok (.ireturn, 1) := by decide +kernel
theorem dX8_isStrange_0 : decode cX8_isStrange 0 = .ok (.aload_n 0, 1) := by decide +kernel
theorem dX8_isStrange_1 : decode cX8_isStrange 1 = .ok (.iload_n 1, 1) := by decide +kernel
theorem dX8_isStrange_2 : decode cX8_isStrange 2 = .ok (.invokevirtual 72, 3) := by decide +kernel
theorem dX8_isStrange_5 : decode cX8_isStrange 5 = .ok (.astore_n 3, 1) := by decide +kernel
theorem dX8_isStrange_6 : decode cX8_isStrange 6 = .ok (.aload_n 3, 1) := by decide +kernel
theorem dX8_isStrange_7 : decode cX8_isStrange 7 = .ok (.ifnull 10, 3) := by decide +kernel
theorem dX8_isStrange_10 : decode cX8_isStrange 10 = .ok (.iload_n 2, 1) := by decide +kernel
theorem dX8_isStrange_11 : decode cX8_isStrange 11 = .ok (.invokestatic 76, 3) := by decide +kernel
theorem dX8_isStrange_14 : decode cX8_isStrange 14 = .ok (.ifCond .ne 9, 3) := by decide +kernel
theorem dX8_isStrange_17 : decode cX8_isStrange 17 = .ok (.aload_n 0, 1) := by decide +kernel
theorem dX8_isStrange_18 : decode cX8_isStrange 18 = .ok (.iconst 1, 1) := by decide +kernel
theorem dX8_isStrange_19 : decode cX8_isStrange 19 = .ok (.invokevirtual 104, 3) := by decide +kernel
theorem dX8_isStrange_22 : decode cX8_isStrange 22 = .ok (.ireturn, 1) := by decide +kernel
theorem dX8_isStrange_23 : decode cX8_isStrange 23 = .ok (.aload_n 0, 1) := by decide +kernel
theorem dX8_isStrange_24 : decode cX8_isStrange 24 = .ok (.aload_n 3, 1) := by decide +kernel
theorem dX8_isStrange_25 : decode cX8_isStrange 25 = .ok (.getfield 124, 3) := by decide +kernel
theorem dX8_isStrange_28 : decode cX8_isStrange 28 = .ok (.iload_n 2, 1) := by decide +kernel
theorem dX8_isStrange_29 : decode cX8_isStrange 29 = .ok (.invokevirtual 107, 3) := by decide +kernel
theorem dX8_isStrange_32 : decode cX8_isStrange 32 = .ok (.ifCond .eq 7, 3) := by decide +kernel
theorem dX8_isStrange_35 : decode cX8_isStrange 35 = .ok (.iconst 1, 1) := by decide +kernel
theorem dX8_isStrange_36 : decode cX8_isStrange 36 = .ok (.goto 4, 3) := by decide +kernel
theorem dX8_isStrange_39 : decode cX8_isStrange 39 = .ok (.iconst 0, 1) := by decide +kernel
theorem dX8_isStrange_40 : decode cX8_isStrange 40 = .ok (.invokevirtual 114, 3) := by decide +kernel
theorem dX8_isStrange_43 : decode cX8_isStrange 43 = .ok (.ireturn, 1) := by decide +kernel
theorem dX8_part_0 : decode cX8_part 0 = .ok (.aload_n 0, 1) := by decide +kernel
theorem dX8_part_1 : decode cX8_part 1 = .ok (.iload_n 1, 1) := by decide +kernel
theorem dX8_part_2 : decode cX8_part 2 = .ok (.invokevirtual 72, 3) := by decide +kernel
theorem dX8_part_5 : decode cX8_part 5 = .ok (.astore_n 3, 1) := by decide +kernel
theorem dX8_part_6 : decode cX8_part 6 = .ok (.aload_n 3, 1) := by decide +kernel
theorem dX8_part_7 : decode cX8_part 7 = .ok (.ifnonnull 9, 3) := by decide +kernel
theorem dX8_part_10 : decode cX8_part 10 = .ok (.aload_n 0, 1) := by decide +kernel
theorem dX8_part_11 : decode cX8_part 11 = .ok (.iconst 1, 1) := by decide +kernel
theorem dX8_part_12 : decode cX8_part 12 = .ok (.invokevirtual 104, 3) := by decide +kernel
theorem dX8_part_15 : decode cX8_part 15 = .ok (.ireturn, 1) := by decide +kernel
theorem dX8_part_16 : decode cX8_part 16 = .ok (.iload_n 2, 1) := by decide +kernel
theorem dX8_part_17 : decode cX8_part 17 = .ok (.ifCond .lt 8, 3) := by decide +kernel
theorem dX8_part_20 : decode cX8_part 20 = .ok (.iload_n 2, 1) := by decide +kernel
theorem dX8_part_21 : decode cX8_part 21 = .ok (.iconst 2, 1) := by decide +kernel
theorem dX8_part_22 : decode cX8_part 22 = .ok (.if_icmp .le 9, 3) := by decide +kernel
theorem dX8_part_25 : decode cX8_part 25 = .ok (.aload_n 0, 1) := by decide +kernel
theorem dX8_part_26 : decode cX8_part 26 = .ok (.iconst 2, 1) := by decide +kernel
theorem dX8_part_27 : decode cX8_part 27 = .ok (.invokevirtual 104, 3) := by decide +kernel
theorem dX8_part_30 : decode cX8_part 30 = .ok (.ireturn, 1) := by decide +kernel
theorem dX8_part_31 : decode cX8_part 31 = .ok (.aload_n 0, 1) := by decide +kernel
theorem dX8_part_32 : decode cX8_part 32 = .ok (.getfield 48, 3) := by decide +kernel
theorem dX8_part_35 : decode cX8_part 35 = .ok (.aload_n 3, 1) := by decide +kernel
theorem dX8_part_36 : decode cX8_part 36 = .ok (.iconst (-1), 1) := by decide +kernel
theorem dX8_part_37 : decode cX8_part 37 = .ok (.invokevirtual 153, 3) := by decide +kernel
theorem dX8_part_40 : decode cX8_part 40 = .ok (.ifCond .ne 10, 3) := by decide +kernel
theorem dX8_part_43 : decode cX8_part 43 = .ok (.aload_n 0, 1) := by decide +kernel
theorem dX8_part_44 : decode cX8_part 44 = .ok (.bipush 6, 2) := by decide +kernel
theorem dX8_part_46 : decode cX8_part 46 = .ok (.invokevirtual 104, 3) := by decide +kernel
theorem dX8_part_49 : decode cX8_part 49 = .ok (.ireturn, 1) := by decide +kernel
theorem dX8_part_50 : decode cX8_part 50 = .ok (.iload_n 2, 1) := by decide +kernel
theorem dX8_part_51 : decode cX8_part 51 = .ok (.ifCond .ne 26, 3) := by decide +kernel
theorem dX8_part_54 : decode cX8_part 54 = .ok (.aload_n 0, 1) := by decide +kernel
theorem dX8_part_55 : decode cX8_part 55 = .ok (.getfield 48, 3) := by decide +kernel
theorem dX8_part_58 : decode cX8_part 58 = .ok (.aload_n 0, 1) := by decide +kernel
theorem dX8_part_59 : decode cX8_part 59 = .ok (.getfield 25, 3) := by decide +kernel
theorem dX8_part_62 : decode cX8_part 62 = .ok (.invokevirtual 157, 3) := by decide +kernel
theorem dX8_part_65 : decode cX8_part 65 = .ok (.aload_n 0, 1) := by decide +kernel
theorem dX8_part_66 : decode cX8_part 66 = .ok (.aload_n 0, 1) := by decide +kernel
theorem dX8_part_67 : decode cX8_part 67 = .ok (.getfield 48, 3) := by decide +kernel
theorem dX8_part_70 : decode cX8_part 70 = .ok (.getfield 161, 3) := by decide +kernel
theorem dX8_part_73 : decode cX8_part 73 = .ok (.invokevirtual 164, 3) := by decide +kernel
theorem dX8_part_76 : decode cX8_part 76 = .ok (.ireturn, 1) := by decide +kernel
theorem dX8_part_77 : decode cX8_part 77 = .ok (.iload_n 2, 1) := by decide +kernel
theorem dX8_part_78 : decode cX8_part 78 = .ok (.iconst 1, 1) := by decide +kernel
theorem dX8_part_79 : decode cX8_part 79 = .ok (.if_icmp .ne 17, 3) := by decide +kernel
theorem dX8_part_82 : decode cX8_part 82 = .ok (.aload_n 0, 1) := by decide +kernel
theorem dX8_part_83 : decode cX8_part 83 = .ok (.getfield 48, 3) := by decide +kernel
theorem dX8_part_86 : decode cX8_part 86 = .ok (.aload_n 0, 1) := by decide +kernel
theorem dX8_part_87 : decode cX8_part 87 = .ok (.getfield 25, 3) := by decide +kernel
theorem dX8_part_90 : decode cX8_part 90 = .ok (.invokevirtual 167, 3) := by decide +kernel
theorem dX8_part_93 : decode cX8_part 93 = .ok (.goto 14, 3) := by decide +kernel
theorem dX8_part_96 : decode cX8_part 96 = .ok (.aload_n 0, 1) := by decide +kernel
theorem dX8_part_97 : decode cX8_part 97 = .ok (.getfield 48, 3) := by decide +kernel
theorem dX8_part_100 : decode cX8_part 100 = .ok (.aload_n 0, 1) := by decide +kernel
theorem dX8_part_101 : decode cX8_part 101 = .ok (.getfield 25, 3) := by decide +kernel
theorem dX8_part_104 : decode cX8_part 104 = .ok (.invokevirtual 170, 3) := by decide +kernel
theorem dX8_part_107 : decode cX8_part 107 = .ok (.aload_n 0, 1) := by decide +kernel
theorem dX8_part_108 : decode cX8_part 108 = .ok (.iconst 1, 1) := by decide +kernel
theorem dX8_part_109 : decode cX8_part 109 = .ok (.invokevirtual 164, 3) := by decide +kernel
theorem dX8_part_112 : decode cX8_part 112 = .ok (.ireturn, 1) := by decide +kernel
theorem dX8_stepBy_0 : decode cX8_stepBy 0 = .ok (.aload_n 0, 1) := by decide +kernel
theorem dX8_stepBy_1 : decode cX8_stepBy 1 = .ok (.iload_n 1, 1) := by decide +kernel
theorem dX8_stepBy_2 : decode cX8_stepBy 2 = .ok (.invokevirtual 72, 3) := by decide +kernel
theorem dX8_stepBy_5 : decode cX8_stepBy 5 = .ok (.astore_n 3, 1) := by decide +kernel
theorem dX8_stepBy_6 : decode cX8_stepBy 6 = .ok (.aload_n 3, 1) := by decide +kernel
theorem dX8_stepBy_7 : decode cX8_stepBy 7 = .ok (.ifnonnull 9, 3) := by decide +kernel
theorem dX8_stepBy_10 : decode cX8_stepBy 10 = .ok (.aload_n 0, 1) := by decide +kernel
theorem dX8_stepBy_11 : decode cX8_stepBy 11 = .ok (.iconst 1, 1) := by decide +kernel
theorem dX8_stepBy_12 : decode cX8_stepBy 12 = .ok (.invokevirtual 104, 3) := by decide +kernel
theorem dX8_stepBy_15 : decode cX8_stepBy 15 = .ok (.ireturn, 1) := by decide +kernel
theorem dX8_stepBy_16 : decode cX8_stepBy 16 = .ok (.iload_n 2, 1) := by decide +kernel
theorem dX8_stepBy_17 : decode cX8_stepBy 17 = .ok (.ifCond .lt 14, 3) := by decide +kernel
theorem dX8_stepBy_20 : decode cX8_stepBy 20 = .ok (.iload_n 2, 1) := by decide +kernel
theorem dX8_stepBy_21 : decode cX8_stepBy 21 = .ok (.aload_n 3, 1) := by decide +kernel
theorem dX8_stepBy_22 : decode cX8_stepBy 22 = .ok (.getfield 127, 3) := by decide +kernel
theorem dX8_stepBy_25 : decode cX8_stepBy 25 = .ok (.getfield 117, 3) := by decide +kernel
theorem dX8_stepBy_28 : decode cX8_stepBy 28 = .ok (.if_icmp .lt 9, 3) := by decide +kernel
theorem dX8_stepBy_31 : decode cX8_stepBy 31 = .ok (.aload_n 0, 1) := by decide +kernel
theorem dX8_stepBy_32 : decode cX8_stepBy 32 = .ok (.iconst 5, 1) := by decide +kernel
theorem dX8_stepBy_33 : decode cX8_stepBy 33 = .ok (.invokevirtual 104, 3) := by decide +kernel
theorem dX8_stepBy_36 : decode cX8_stepBy 36 = .ok (.ireturn, 1) := by decide +kernel
theorem dX8_stepBy_37 : decode cX8_stepBy 37 = .ok (.aload_n 0, 1) := by decide +kernel
theorem dX8_stepBy_38 : decode cX8_stepBy 38 = .ok (.getfield 48, 3) := by decide +kernel
theorem dX8_stepBy_41 : decode cX8_stepBy 41 = .ok (.aload_n 3, 1) := by decide +kernel
theorem dX8_stepBy_42 : decode cX8_stepBy 42 = .ok (.iconst (-1), 1) := by decide +kernel
theorem dX8_stepBy_43 : decode cX8_stepBy 43 = .ok (.invokevirtual 153, 3) := by decide +kernel
theorem dX8_stepBy_46 : decode cX8_stepBy 46 = .ok (.ifCond .ne 10, 3) := by decide +kernel
theorem dX8_stepBy_49 : decode cX8_stepBy 49 = .ok (.aload_n 0, 1) := by decide +kernel
theorem dX8_stepBy_50 : decode cX8_stepBy 50 = .ok (.bipush 6, 2) := by decide +kernel
theorem dX8_stepBy_52 : decode cX8_stepBy 52 = .ok (.invokevirtual 104, 3) := by decide +kernel
theorem dX8_stepBy_55 : decode cX8_stepBy 55 = .ok (.ireturn, 1) := by decide +kernel
theorem dX8_stepBy_56 : decode cX8_stepBy 56 = .ok (.aload_n 0, 1) := by decide +kernel
theorem dX8_stepBy_57 : decode cX8_stepBy 57 = .ok (.getfield 48, 3) := by decide +kernel
theorem dX8_stepBy_60 : decode cX8_stepBy 60 = .ok (.aload_n 0, 1) := by decide +kernel
theorem dX8_stepBy_61 : decode cX8_stepBy 61 = .ok (.getfield 48, 3) := by decide +kernel
theorem dX8_stepBy_64 : decode cX8_stepBy 64 = .ok (.getfield 173, 3) := by decide +kernel
theorem dX8_stepBy_67 : decode cX8_stepBy 67 = .ok (.iload_n 2, 1) := by decide +kernel
theorem dX8_stepBy_68 : decode cX8_stepBy 68 = .ok (.iadd, 1) := by decide +kernel
theorem dX8_stepBy_69 : decode cX8_stepBy 69 = .ok (.aload_n 0, 1) := by decide +kernel
theorem dX8_stepBy_70 : decode cX8_stepBy 70 = .ok (.getfield 25, 3) := by decide +kernel
theorem dX8_stepBy_73 : decode cX8_stepBy 73 = .ok (.invokevirtual 176, 3) := by decide +kernel
theorem dX8_stepBy_76 : decode cX8_stepBy 76 = .ok (.aload_n 0, 1) := by decide +kernel
theorem dX8_stepBy_77 : decode cX8_stepBy 77 = .ok (.iconst 1, 1) := by decide +kernel
theorem dX8_stepBy_78 : decode cX8_stepBy 78 = .ok (.invokevirtual 164, 3) := by decide +kernel
theorem dX8_stepBy_81 : decode cX8_stepBy 81 = .ok (.ireturn, 1) := by decide +kernel
theorem dX8_feastBy_0 : decode cX8_feastBy 0 = .ok (.aload_n 0, 1) := by decide +kernel
theorem dX8_feastBy_1 : decode cX8_feastBy 1 = .ok (.iload_n 1, 1) := by decide +kernel
theorem dX8_feastBy_2 : decode cX8_feastBy 2 = .ok (.invokevirtual 72, 3) := by decide +kernel
theorem dX8_feastBy_5 : decode cX8_feastBy 5 = .ok (.astore_n 3, 1) := by decide +kernel
theorem dX8_feastBy_6 : decode cX8_feastBy 6 = .ok (.aload_n 3, 1) := by decide +kernel
theorem dX8_feastBy_7 : decode cX8_feastBy 7 = .ok (.ifnonnull 9, 3) := by decide +kernel
theorem dX8_feastBy_10 : decode cX8_feastBy 10 = .ok (.aload_n 0, 1) := by decide +kernel
theorem dX8_feastBy_11 : decode cX8_feastBy 11 = .ok (.iconst 1, 1) := by decide +kernel
theorem dX8_feastBy_12 : decode cX8_feastBy 12 = .ok (.invokevirtual 104, 3) := by decide +kernel
theorem dX8_feastBy_15 : decode cX8_feastBy 15 = .ok (.ireturn, 1) := by decide +kernel
theorem dX8_feastBy_16 : decode cX8_feastBy 16 = .ok (.aload_n 3, 1) := by decide +kernel
theorem dX8_feastBy_17 : decode cX8_feastBy 17 = .ok (.iload_n 2, 1) := by decide +kernel
theorem dX8_feastBy_18 : decode cX8_feastBy 18 = .ok (.invokevirtual 143, 3) := by decide +kernel
theorem dX8_feastBy_21 : decode cX8_feastBy 21 = .ok (.ifCond .ne 9, 3) := by decide +kernel
theorem dX8_feastBy_24 : decode cX8_feastBy 24 = .ok (.aload_n 0, 1) := by decide +kernel
theorem dX8_feastBy_25 : decode cX8_feastBy 25 = .ok (.iconst 5, 1) := by decide +kernel
theorem dX8_feastBy_26 : decode cX8_feastBy 26 = .ok (.invokevirtual 104, 3) := by decide +kernel
theorem dX8_feastBy_29 : decode cX8_feastBy 29 = .ok (.ireturn, 1) := by decide +kernel
theorem dX8_feastBy_30 : decode cX8_feastBy 30 = .ok (.aload_n 0, 1) := by decide +kernel
theorem dX8_feastBy_31 : decode cX8_feastBy 31 = .ok (.getfield 48, 3) := by decide +kernel
theorem dX8_feastBy_34 : decode cX8_feastBy 34 = .ok (.aload_n 3, 1) := by decide +kernel
theorem dX8_feastBy_35 : decode cX8_feastBy 35 = .ok (.iconst (-1), 1) := by decide +kernel
theorem dX8_feastBy_36 : decode cX8_feastBy 36 = .ok (.invokevirtual 153, 3) := by decide +kernel
theorem dX8_feastBy_39 : decode cX8_feastBy 39 = .ok (.ifCond .ne 10, 3) := by decide +kernel
theorem dX8_feastBy_42 : decode cX8_feastBy 42 = .ok (.aload_n 0, 1) := by decide +kernel
theorem dX8_feastBy_43 : decode cX8_feastBy 43 = .ok (.bipush 6, 2) := by decide +kernel
theorem dX8_feastBy_45 : decode cX8_feastBy 45 = .ok (.invokevirtual 104, 3) := by decide +kernel
theorem dX8_feastBy_48 : decode cX8_feastBy 48 = .ok (.ireturn, 1) := by decide +kernel
theorem dX8_feastBy_49 : decode cX8_feastBy 49 = .ok (.aload_n 0, 1) := by decide +kernel
theorem dX8_feastBy_50 : decode cX8_feastBy 50 = .ok (.getfield 48, 3) := by decide +kernel
theorem dX8_feastBy_53 : decode cX8_feastBy 53 = .ok (.aload_n 0, 1) := by decide +kernel
theorem dX8_feastBy_54 : decode cX8_feastBy 54 = .ok (.getfield 48, 3) := by decide +kernel
theorem dX8_feastBy_57 : decode cX8_feastBy 57 = .ok (.getfield 180, 3) := by decide +kernel
theorem dX8_feastBy_60 : decode cX8_feastBy 60 = .ok (.iload_n 2, 1) := by decide +kernel
theorem dX8_feastBy_61 : decode cX8_feastBy 61 = .ok (.iadd, 1) := by decide +kernel
theorem dX8_feastBy_62 : decode cX8_feastBy 62 = .ok (.aload_n 0, 1) := by decide +kernel
theorem dX8_feastBy_63 : decode cX8_feastBy 63 = .ok (.getfield 25, 3) := by decide +kernel
theorem dX8_feastBy_66 : decode cX8_feastBy 66 = .ok (.invokevirtual 176, 3) := by decide +kernel
theorem dX8_feastBy_69 : decode cX8_feastBy 69 = .ok (.aload_n 0, 1) := by decide +kernel
theorem dX8_feastBy_70 : decode cX8_feastBy 70 = .ok (.iconst 1, 1) := by decide +kernel
theorem dX8_feastBy_71 : decode cX8_feastBy 71 = .ok (.invokevirtual 164, 3) := by decide +kernel
theorem dX8_feastBy_74 : decode cX8_feastBy 74 = .ok (.ireturn, 1) := by decide +kernel
theorem dX8_season_0 : decode cX8_season 0 = .ok (.aload_n 0, 1) := by decide +kernel
theorem dX8_season_1 : decode cX8_season 1 = .ok (.iload_n 1, 1) := by decide +kernel
theorem dX8_season_2 : decode cX8_season 2 = .ok (.invokevirtual 72, 3) := by decide +kernel
theorem dX8_season_5 : decode cX8_season 5 = .ok (.astore_n 3, 1) := by decide +kernel
theorem dX8_season_6 : decode cX8_season 6 = .ok (.aload_n 3, 1) := by decide +kernel
theorem dX8_season_7 : decode cX8_season 7 = .ok (.ifnonnull 9, 3) := by decide +kernel
theorem dX8_season_10 : decode cX8_season 10 = .ok (.aload_n 0, 1) := by decide +kernel
theorem dX8_season_11 : decode cX8_season 11 = .ok (.iconst 1, 1) := by decide +kernel
theorem dX8_season_12 : decode cX8_season 12 = .ok (.invokevirtual 104, 3) := by decide +kernel
theorem dX8_season_15 : decode cX8_season 15 = .ok (.ireturn, 1) := by decide +kernel
theorem dX8_season_16 : decode cX8_season 16 = .ok (.iload_n 2, 1) := by decide +kernel
theorem dX8_season_17 : decode cX8_season 17 = .ok (.ifCond .lt 11, 3) := by decide +kernel
theorem dX8_season_20 : decode cX8_season 20 = .ok (.iload_n 2, 1) := by decide +kernel
theorem dX8_season_21 : decode cX8_season 21 = .ok (.aload_n 3, 1) := by decide +kernel
theorem dX8_season_22 : decode cX8_season 22 = .ok (.getfield 133, 3) := by decide +kernel
theorem dX8_season_25 : decode cX8_season 25 = .ok (.if_icmp .lt 9, 3) := by decide +kernel
theorem dX8_season_28 : decode cX8_season 28 = .ok (.aload_n 0, 1) := by decide +kernel
theorem dX8_season_29 : decode cX8_season 29 = .ok (.iconst 5, 1) := by decide +kernel
theorem dX8_season_30 : decode cX8_season 30 = .ok (.invokevirtual 104, 3) := by decide +kernel
theorem dX8_season_33 : decode cX8_season 33 = .ok (.ireturn, 1) := by decide +kernel
theorem dX8_season_34 : decode cX8_season 34 = .ok (.aload_n 0, 1) := by decide +kernel
theorem dX8_season_35 : decode cX8_season 35 = .ok (.getfield 48, 3) := by decide +kernel
theorem dX8_season_38 : decode cX8_season 38 = .ok (.aload_n 3, 1) := by decide +kernel
theorem dX8_season_39 : decode cX8_season 39 = .ok (.iconst (-1), 1) := by decide +kernel
theorem dX8_season_40 : decode cX8_season 40 = .ok (.invokevirtual 153, 3) := by decide +kernel
theorem dX8_season_43 : decode cX8_season 43 = .ok (.ifCond .ne 10, 3) := by decide +kernel
theorem dX8_season_46 : decode cX8_season 46 = .ok (.aload_n 0, 1) := by decide +kernel
theorem dX8_season_47 : decode cX8_season 47 = .ok (.bipush 6, 2) := by decide +kernel
theorem dX8_season_49 : decode cX8_season 49 = .ok (.invokevirtual 104, 3) := by decide +kernel
theorem dX8_season_52 : decode cX8_season 52 = .ok (.ireturn, 1) := by decide +kernel
theorem dX8_season_53 : decode cX8_season 53 = .ok (.aload_n 0, 1) := by decide +kernel
theorem dX8_season_54 : decode cX8_season 54 = .ok (.getfield 48, 3) := by decide +kernel
theorem dX8_season_57 : decode cX8_season 57 = .ok (.iload_n 2, 1) := by decide +kernel
theorem dX8_season_58 : decode cX8_season 58 = .ok (.aload_n 0, 1) := by decide +kernel
theorem dX8_season_59 : decode cX8_season 59 = .ok (.getfield 25, 3) := by decide +kernel
theorem dX8_season_62 : decode cX8_season 62 = .ok (.invokevirtual 183, 3) := by decide +kernel
theorem dX8_season_65 : decode cX8_season 65 = .ok (.aload_n 0, 1) := by decide +kernel
theorem dX8_season_66 : decode cX8_season 66 = .ok (.aload_n 0, 1) := by decide +kernel
theorem dX8_season_67 : decode cX8_season 67 = .ok (.getfield 48, 3) := by decide +kernel
theorem dX8_season_70 : decode cX8_season 70 = .ok (.getfield 161, 3) := by decide +kernel
theorem dX8_season_73 : decode cX8_season 73 = .ok (.invokevirtual 164, 3) := by decide +kernel
theorem dX8_season_76 : decode cX8_season 76 = .ok (.ireturn, 1) := by decide +kernel
theorem dX8_at_0 : decode cX8_at 0 = .ok (.aload_n 0, 1) := by decide +kernel
theorem dX8_at_1 : decode cX8_at 1 = .ok (.iload_n 1, 1) := by decide +kernel
theorem dX8_at_2 : decode cX8_at 2 = .ok (.invokevirtual 72, 3) := by decide +kernel
theorem dX8_at_5 : decode cX8_at 5 = .ok (.astore 4, 2) := by decide +kernel
theorem dX8_at_7 : decode cX8_at 7 = .ok (.aload 4, 2) := by decide +kernel
theorem dX8_at_9 : decode cX8_at 9 = .ok (.ifnull 10, 3) := by decide +kernel
theorem dX8_at_12 : decode cX8_at 12 = .ok (.iload_n 2, 1) := by decide +kernel
theorem dX8_at_13 : decode cX8_at 13 = .ok (.invokestatic 186, 3) := by decide +kernel
theorem dX8_at_16 : decode cX8_at 16 = .ok (.ifCond .ne 9, 3) := by decide +kernel
theorem dX8_at_19 : decode cX8_at 19 = .ok (.aload_n 0, 1) := by decide +kernel
theorem dX8_at_20 : decode cX8_at 20 = .ok (.iconst 1, 1) := by decide +kernel
theorem dX8_at_21 : decode cX8_at 21 = .ok (.invokevirtual 104, 3) := by decide +kernel
theorem dX8_at_24 : decode cX8_at 24 = .ok (.ireturn, 1) := by decide +kernel
theorem dX8_at_25 : decode cX8_at 25 = .ok (.iload_n 3, 1) := by decide +kernel
theorem dX8_at_26 : decode cX8_at 26 = .ok (.ifCond .lt 8, 3) := by decide +kernel
theorem dX8_at_29 : decode cX8_at 29 = .ok (.iload_n 3, 1) := by decide +kernel
theorem dX8_at_30 : decode cX8_at 30 = .ok (.iconst 3, 1) := by decide +kernel
theorem dX8_at_31 : decode cX8_at 31 = .ok (.if_icmp .le 9, 3) := by decide +kernel
theorem dX8_at_34 : decode cX8_at 34 = .ok (.aload_n 0, 1) := by decide +kernel
theorem dX8_at_35 : decode cX8_at 35 = .ok (.iconst 2, 1) := by decide +kernel
theorem dX8_at_36 : decode cX8_at 36 = .ok (.invokevirtual 104, 3) := by decide +kernel
theorem dX8_at_39 : decode cX8_at 39 = .ok (.ireturn, 1) := by decide +kernel
theorem dX8_at_40 : decode cX8_at 40 = .ok (.aload_n 0, 1) := by decide +kernel
theorem dX8_at_41 : decode cX8_at 41 = .ok (.getfield 48, 3) := by decide +kernel
theorem dX8_at_44 : decode cX8_at 44 = .ok (.aload 4, 2) := by decide +kernel
theorem dX8_at_46 : decode cX8_at 46 = .ok (.iconst (-1), 1) := by decide +kernel
theorem dX8_at_47 : decode cX8_at 47 = .ok (.invokevirtual 153, 3) := by decide +kernel
theorem dX8_at_50 : decode cX8_at 50 = .ok (.ifCond .ne 10, 3) := by decide +kernel
theorem dX8_at_53 : decode cX8_at 53 = .ok (.aload_n 0, 1) := by decide +kernel
theorem dX8_at_54 : decode cX8_at 54 = .ok (.bipush 6, 2) := by decide +kernel
theorem dX8_at_56 : decode cX8_at 56 = .ok (.invokevirtual 104, 3) := by decide +kernel
theorem dX8_at_59 : decode cX8_at 59 = .ok (.ireturn, 1) := by decide +kernel
theorem dX8_at_60 : decode cX8_at 60 = .ok (.iload_n 3, 1) := by decide +kernel
theorem dX8_at_61 : decode cX8_at 61 = .ok (.tableswitch 100 0 2 #[27, 51, 82], 27) := by decide +kernel
theorem dX8_at_88 : decode cX8_at 88 = .ok (.aload_n 0, 1) := by decide +kernel
theorem dX8_at_89 : decode cX8_at 89 = .ok (.getfield 48, 3) := by decide +kernel
theorem dX8_at_92 : decode cX8_at 92 = .ok (.iload_n 2, 1) := by decide +kernel
theorem dX8_at_93 : decode cX8_at 93 = .ok (.aload_n 0, 1) := by decide +kernel
theorem dX8_at_94 : decode cX8_at 94 = .ok (.getfield 25, 3) := by decide +kernel
theorem dX8_at_97 : decode cX8_at 97 = .ok (.invokevirtual 189, 3) := by decide +kernel
theorem dX8_at_100 : decode cX8_at 100 = .ok (.aload_n 0, 1) := by decide +kernel
theorem dX8_at_101 : decode cX8_at 101 = .ok (.aload_n 0, 1) := by decide +kernel
theorem dX8_at_102 : decode cX8_at 102 = .ok (.getfield 48, 3) := by decide +kernel
theorem dX8_at_105 : decode cX8_at 105 = .ok (.getfield 161, 3) := by decide +kernel
theorem dX8_at_108 : decode cX8_at 108 = .ok (.invokevirtual 164, 3) := by decide +kernel
theorem dX8_at_111 : decode cX8_at 111 = .ok (.ireturn, 1) := by decide +kernel
theorem dX8_at_112 : decode cX8_at 112 = .ok (.aload_n 0, 1) := by decide +kernel
theorem dX8_at_113 : decode cX8_at 113 = .ok (.getfield 48, 3) := by decide +kernel
theorem dX8_at_116 : decode cX8_at 116 = .ok (.aload_n 0, 1) := by decide +kernel
theorem dX8_at_117 : decode cX8_at 117 = .ok (.getfield 48, 3) := by decide +kernel
theorem dX8_at_120 : decode cX8_at 120 = .ok (.iload_n 2, 1) := by decide +kernel
theorem dX8_at_121 : decode cX8_at 121 = .ok (.invokevirtual 192, 3) := by decide +kernel
theorem dX8_at_124 : decode cX8_at 124 = .ok (.aload_n 0, 1) := by decide +kernel
theorem dX8_at_125 : decode cX8_at 125 = .ok (.getfield 25, 3) := by decide +kernel
theorem dX8_at_128 : decode cX8_at 128 = .ok (.invokevirtual 183, 3) := by decide +kernel
theorem dX8_at_131 : decode cX8_at 131 = .ok (.aload_n 0, 1) := by decide +kernel
theorem dX8_at_132 : decode cX8_at 132 = .ok (.aload_n 0, 1) := by decide +kernel
theorem dX8_at_133 : decode cX8_at 133 = .ok (.getfield 48, 3) := by decide +kernel
theorem dX8_at_136 : decode cX8_at 136 = .ok (.getfield 161, 3) := by decide +kernel
theorem dX8_at_139 : decode cX8_at 139 = .ok (.invokevirtual 164, 3) := by decide +kernel
theorem dX8_at_142 : decode cX8_at 142 = .ok (.ireturn, 1) := by decide +kernel
theorem dX8_at_143 : decode cX8_at 143 = .ok (.aload_n 0, 1) := by decide +kernel
theorem dX8_at_144 : decode cX8_at 144 = .ok (.getfield 48, 3) := by decide +kernel
theorem dX8_at_147 : decode cX8_at 147 = .ok (.iload_n 2, 1) := by decide +kernel
theorem dX8_at_148 : decode cX8_at 148 = .ok (.aload_n 0, 1) := by decide +kernel
theorem dX8_at_149 : decode cX8_at 149 = .ok (.getfield 25, 3) := by decide +kernel
theorem dX8_at_152 : decode cX8_at 152 = .ok (.invokevirtual 195, 3) := by decide +kernel
theorem dX8_at_155 : decode cX8_at 155 = .ok (.aload_n 0, 1) := by decide +kernel
theorem dX8_at_156 : decode cX8_at 156 = .ok (.iconst 1, 1) := by decide +kernel
theorem dX8_at_157 : decode cX8_at 157 = .ok (.invokevirtual 164, 3) := by decide +kernel
theorem dX8_at_160 : decode cX8_at 160 = .ok (.ireturn, 1) := by decide +kernel
theorem dX8_at_161 : decode cX8_at 161 = .ok (.aload_n 0, 1) := by decide +kernel
theorem dX8_at_162 : decode cX8_at 162 = .ok (.getfield 48, 3) := by decide +kernel
theorem dX8_at_165 : decode cX8_at 165 = .ok (.iload_n 2, 1) := by decide +kernel
theorem dX8_at_166 : decode cX8_at 166 = .ok (.aload_n 0, 1) := by decide +kernel
theorem dX8_at_167 : decode cX8_at 167 = .ok (.getfield 25, 3) := by decide +kernel
theorem dX8_at_170 : decode cX8_at 170 = .ok (.invokevirtual 198, 3) := by decide +kernel
theorem dX8_at_173 : decode cX8_at 173 = .ok (.aload_n 0, 1) := by decide +kernel
theorem dX8_at_174 : decode cX8_at 174 = .ok (.iconst 1, 1) := by decide +kernel
theorem dX8_at_175 : decode cX8_at 175 = .ok (.invokevirtual 164, 3) := by decide +kernel
theorem dX8_at_178 : decode cX8_at 178 = .ok (.ireturn, 1) := by decide +kernel
theorem dX8_rest_0 : decode cX8_rest 0 = .ok (.aload_n 0, 1) := by decide +kernel
theorem dX8_rest_1 : decode cX8_rest 1 = .ok (.iload_n 1, 1) := by decide +kernel
theorem dX8_rest_2 : decode cX8_rest 2 = .ok (.invokevirtual 72, 3) := by decide +kernel
theorem dX8_rest_5 : decode cX8_rest 5 = .ok (.astore_n 3, 1) := by decide +kernel
theorem dX8_rest_6 : decode cX8_rest 6 = .ok (.aload_n 3, 1) := by decide +kernel
theorem dX8_rest_7 : decode cX8_rest 7 = .ok (.ifnull 10, 3) := by decide +kernel
theorem dX8_rest_10 : decode cX8_rest 10 = .ok (.iload_n 2, 1) := by decide +kernel
theorem dX8_rest_11 : decode cX8_rest 11 = .ok (.invokestatic 76, 3) := by decide +kernel
theorem dX8_rest_14 : decode cX8_rest 14 = .ok (.ifCond .ne 9, 3) := by decide +kernel
theorem dX8_rest_17 : decode cX8_rest 17 = .ok (.aload_n 0, 1) := by decide +kernel
theorem dX8_rest_18 : decode cX8_rest 18 = .ok (.iconst 1, 1) := by decide +kernel
theorem dX8_rest_19 : decode cX8_rest 19 = .ok (.invokevirtual 104, 3) := by decide +kernel
theorem dX8_rest_22 : decode cX8_rest 22 = .ok (.ireturn, 1) := by decide +kernel
theorem dX8_rest_23 : decode cX8_rest 23 = .ok (.aload_n 3, 1) := by decide +kernel
theorem dX8_rest_24 : decode cX8_rest 24 = .ok (.getfield 95, 3) := by decide +kernel
theorem dX8_rest_27 : decode cX8_rest 27 = .ok (.iload_n 2, 1) := by decide +kernel
theorem dX8_rest_28 : decode cX8_rest 28 = .ok (.invokevirtual 107, 3) := by decide +kernel
theorem dX8_rest_31 : decode cX8_rest 31 = .ok (.ifCond .ne 10, 3) := by decide +kernel
theorem dX8_rest_34 : decode cX8_rest 34 = .ok (.aload_n 0, 1) := by decide +kernel
theorem dX8_rest_35 : decode cX8_rest 35 = .ok (.bipush 7, 2) := by decide +kernel
theorem dX8_rest_37 : decode cX8_rest 37 = .ok (.invokevirtual 104, 3) := by decide +kernel
theorem dX8_rest_40 : decode cX8_rest 40 = .ok (.ireturn, 1) := by decide +kernel
theorem dX8_rest_41 : decode cX8_rest 41 = .ok (.aload_n 0, 1) := by decide +kernel
theorem dX8_rest_42 : decode cX8_rest 42 = .ok (.getfield 48, 3) := by decide +kernel
theorem dX8_rest_45 : decode cX8_rest 45 = .ok (.aload_n 3, 1) := by decide +kernel
theorem dX8_rest_46 : decode cX8_rest 46 = .ok (.iconst (-1), 1) := by decide +kernel
theorem dX8_rest_47 : decode cX8_rest 47 = .ok (.invokevirtual 153, 3) := by decide +kernel
theorem dX8_rest_50 : decode cX8_rest 50 = .ok (.ifCond .ne 10, 3) := by decide +kernel
theorem dX8_rest_53 : decode cX8_rest 53 = .ok (.aload_n 0, 1) := by decide +kernel
theorem dX8_rest_54 : decode cX8_rest 54 = .ok (.bipush 6, 2) := by decide +kernel
theorem dX8_rest_56 : decode cX8_rest 56 = .ok (.invokevirtual 104, 3) := by decide +kernel
theorem dX8_rest_59 : decode cX8_rest 59 = .ok (.ireturn, 1) := by decide +kernel
theorem dX8_rest_60 : decode cX8_rest 60 = .ok (.aload_n 0, 1) := by decide +kernel
theorem dX8_rest_61 : decode cX8_rest 61 = .ok (.getfield 48, 3) := by decide +kernel
theorem dX8_rest_64 : decode cX8_rest 64 = .ok (.iload_n 2, 1) := by decide +kernel
theorem dX8_rest_65 : decode cX8_rest 65 = .ok (.aload_n 0, 1) := by decide +kernel
theorem dX8_rest_66 : decode cX8_rest 66 = .ok (.getfield 25, 3) := by decide +kernel
theorem dX8_rest_69 : decode cX8_rest 69 = .ok (.invokevirtual 201, 3) := by decide +kernel
theorem dX8_rest_72 : decode cX8_rest 72 = .ok (.aload_n 0, 1) := by decide +kernel
theorem dX8_rest_73 : decode cX8_rest 73 = .ok (.iconst 1, 1) := by decide +kernel
theorem dX8_rest_74 : decode cX8_rest 74 = .ok (.invokevirtual 164, 3) := by decide +kernel
theorem dX8_rest_77 : decode cX8_rest 77 = .ok (.ireturn, 1) := by decide +kernel
theorem dX8_where_0 : decode cX8_where 0 = .ok (.aload_n 0, 1) := by decide +kernel
theorem dX8_where_1 : decode cX8_where 1 = .ok (.iload_n 1, 1) := by decide +kernel
theorem dX8_where_2 : decode cX8_where 2 = .ok (.invokevirtual 72, 3) := by decide +kernel
theorem dX8_where_5 : decode cX8_where 5 = .ok (.astore_n 2, 1) := by decide +kernel
theorem dX8_where_6 : decode cX8_where 6 = .ok (.aload_n 2, 1) := by decide +kernel
theorem dX8_where_7 : decode cX8_where 7 = .ok (.ifnonnull 9, 3) := by decide +kernel
theorem dX8_where_10 : decode cX8_where 10 = .ok (.aload_n 0, 1) := by decide +kernel
theorem dX8_where_11 : decode cX8_where 11 = .ok (.iconst 1, 1) := by decide +kernel
theorem dX8_where_12 : decode cX8_where 12 = .ok (.invokevirtual 104, 3) := by decide +kernel
theorem dX8_where_15 : decode cX8_where 15 = .ok (.ireturn, 1) := by decide +kernel
theorem dX8_where_16 : decode cX8_where 16 = .ok (.aload_n 2, 1) := by decide +kernel
theorem dX8_where_17 : decode cX8_where 17 = .ok (.getfield 127, 3) := by decide +kernel
theorem dX8_where_20 : decode cX8_where 20 = .ok (.getfield 117, 3) := by decide +kernel
theorem dX8_where_23 : decode cX8_where 23 = .ok (.iconst 3, 1) := by decide +kernel
theorem dX8_where_24 : decode cX8_where 24 = .ok (.if_icmp .ge 11, 3) := by decide +kernel
theorem dX8_where_27 : decode cX8_where 27 = .ok (.aload_n 0, 1) := by decide +kernel
theorem dX8_where_28 : decode cX8_where 28 = .ok (.aload_n 2, 1) := by decide +kernel
theorem dX8_where_29 : decode cX8_where 29 = .ok (.invokevirtual 204, 3) := by decide +kernel
theorem dX8_where_32 : decode cX8_where 32 = .ok (.goto 4, 3) := by decide +kernel
theorem dX8_where_35 : decode cX8_where 35 = .ok (.iconst (-1), 1) := by decide +kernel
theorem dX8_where_36 : decode cX8_where 36 = .ok (.istore_n 3, 1) := by decide +kernel
theorem dX8_where_37 : decode cX8_where 37 = .ok (.iload_n 3, 1) := by decide +kernel
theorem dX8_where_38 : decode cX8_where 38 = .ok (.iconst (-1), 1) := by decide +kernel
theorem dX8_where_39 : decode cX8_where 39 = .ok (.if_icmp .ne 12, 3) := by decide +kernel
theorem dX8_where_42 : decode cX8_where 42 = .ok (.aload_n 0, 1) := by decide +kernel
theorem dX8_where_43 : decode cX8_where 43 = .ok (.bipush 8, 2) := by decide +kernel
theorem dX8_where_45 : decode cX8_where 45 = .ok (.invokevirtual 104, 3) := by decide +kernel
theorem dX8_where_48 : decode cX8_where 48 = .ok (.goto 8, 3) := by decide +kernel
theorem dX8_where_51 : decode cX8_where 51 = .ok (.aload_n 0, 1) := by decide +kernel
theorem dX8_where_52 : decode cX8_where 52 = .ok (.iload_n 3, 1) := by decide +kernel
theorem dX8_where_53 : decode cX8_where 53 = .ok (.invokevirtual 114, 3) := by decide +kernel
theorem dX8_where_56 : decode cX8_where 56 = .ok (.ireturn, 1) := by decide +kernel
theorem dX8_rounds_0 : decode cX8_rounds 0 = .ok (.aload_n 0, 1) := by decide +kernel
theorem dX8_rounds_1 : decode cX8_rounds 1 = .ok (.iload_n 1, 1) := by decide +kernel
theorem dX8_rounds_2 : decode cX8_rounds 2 = .ok (.invokevirtual 72, 3) := by decide +kernel
theorem dX8_rounds_5 : decode cX8_rounds 5 = .ok (.astore 4, 2) := by decide +kernel
theorem dX8_rounds_7 : decode cX8_rounds 7 = .ok (.aload 4, 2) := by decide +kernel
theorem dX8_rounds_9 : decode cX8_rounds 9 = .ok (.ifnonnull 9, 3) := by decide +kernel
theorem dX8_rounds_12 : decode cX8_rounds 12 = .ok (.aload_n 0, 1) := by decide +kernel
theorem dX8_rounds_13 : decode cX8_rounds 13 = .ok (.iconst 1, 1) := by decide +kernel
theorem dX8_rounds_14 : decode cX8_rounds 14 = .ok (.invokevirtual 104, 3) := by decide +kernel
theorem dX8_rounds_17 : decode cX8_rounds 17 = .ok (.ireturn, 1) := by decide +kernel
theorem dX8_rounds_18 : decode cX8_rounds 18 = .ok (.iload_n 2, 1) := by decide +kernel
theorem dX8_rounds_19 : decode cX8_rounds 19 = .ok (.invokestatic 208, 3) := by decide +kernel
theorem dX8_rounds_22 : decode cX8_rounds 22 = .ok (.ifCond .eq 10, 3) := by decide +kernel
theorem dX8_rounds_25 : decode cX8_rounds 25 = .ok (.iload_n 3, 1) := by decide +kernel
theorem dX8_rounds_26 : decode cX8_rounds 26 = .ok (.invokestatic 208, 3) := by decide +kernel
theorem dX8_rounds_29 : decode cX8_rounds 29 = .ok (.ifCond .ne 9, 3) := by decide +kernel
theorem dX8_rounds_32 : decode cX8_rounds 32 = .ok (.aload_n 0, 1) := by decide +kernel
theorem dX8_rounds_33 : decode cX8_rounds 33 = .ok (.iconst 2, 1) := by decide +kernel
theorem dX8_rounds_34 : decode cX8_rounds 34 = .ok (.invokevirtual 104, 3) := by decide +kernel
theorem dX8_rounds_37 : decode cX8_rounds 37 = .ok (.ireturn, 1) := by decide +kernel
theorem dX8_rounds_38 : decode cX8_rounds 38 = .ok (.aload 4, 2) := by decide +kernel
theorem dX8_rounds_40 : decode cX8_rounds 40 = .ok (.getfield 95, 3) := by decide +kernel
theorem dX8_rounds_43 : decode cX8_rounds 43 = .ok (.getfield 117, 3) := by decide +kernel
theorem dX8_rounds_46 : decode cX8_rounds 46 = .ok (.ifCond .ne 10, 3) := by decide +kernel
theorem dX8_rounds_49 : decode cX8_rounds 49 = .ok (.aload_n 0, 1) := by decide +kernel
theorem dX8_rounds_50 : decode cX8_rounds 50 = .ok (.bipush 8, 2) := by decide +kernel
theorem dX8_rounds_52 : decode cX8_rounds 52 = .ok (.invokevirtual 104, 3) := by decide +kernel
theorem dX8_rounds_55 : decode cX8_rounds 55 = .ok (.ireturn, 1) := by decide +kernel
theorem dX8_rounds_56 : decode cX8_rounds 56 = .ok (.aload_n 0, 1) := by decide +kernel
theorem dX8_rounds_57 : decode cX8_rounds 57 = .ok (.getfield 57, 3) := by decide +kernel
theorem dX8_rounds_60 : decode cX8_rounds 60 = .ok (.aload 4, 2) := by decide +kernel
theorem dX8_rounds_62 : decode cX8_rounds 62 = .ok (.iload_n 2, 1) := by decide +kernel
theorem dX8_rounds_63 : decode cX8_rounds 63 = .ok (.iload_n 3, 1) := by decide +kernel
theorem dX8_rounds_64 : decode cX8_rounds 64 = .ok (.invokevirtual 211, 3) := by decide +kernel
theorem dX8_rounds_67 : decode cX8_rounds 67 = .ok (.ifCond .eq 18, 3) := by decide +kernel
theorem dX8_rounds_70 : decode cX8_rounds 70 = .ok (.aload_n 0, 1) := by decide +kernel
theorem dX8_rounds_71 : decode cX8_rounds 71 = .ok (.aload 4, 2) := by decide +kernel
theorem dX8_rounds_73 : decode cX8_rounds 73 = .ok (.getfield 124, 3) := by decide +kernel
theorem dX8_rounds_76 : decode cX8_rounds 76 = .ok (.getfield 117, 3) := by decide +kernel
theorem dX8_rounds_79 : decode cX8_rounds 79 = .ok (.invokevirtual 114, 3) := by decide +kernel
theorem dX8_rounds_82 : decode cX8_rounds 82 = .ok (.goto 9, 3) := by decide +kernel
theorem dX8_rounds_85 : decode cX8_rounds 85 = .ok (.aload_n 0, 1) := by decide +kernel
theorem dX8_rounds_86 : decode cX8_rounds 86 = .ok (.bipush 6, 2) := by decide +kernel
theorem dX8_rounds_88 : decode cX8_rounds 88 = .ok (.invokevirtual 104, 3) := by decide +kernel
theorem dX8_rounds_91 : decode cX8_rounds 91 = .ok (.ireturn, 1) := by decide +kernel
theorem dX8_pull_0 : decode cX8_pull 0 = .ok (.aload_n 0, 1) := by decide +kernel
theorem dX8_pull_1 : decode cX8_pull 1 = .ok (.iload_n 1, 1) := by decide +kernel
theorem dX8_pull_2 : decode cX8_pull 2 = .ok (.invokevirtual 72, 3) := by decide +kernel
theorem dX8_pull_5 : decode cX8_pull 5 = .ok (.astore 4, 2) := by decide +kernel
theorem dX8_pull_7 : decode cX8_pull 7 = .ok (.aload 4, 2) := by decide +kernel
theorem dX8_pull_9 : decode cX8_pull 9 = .ok (.ifnull 17, 3) := by decide +kernel
theorem dX8_pull_12 : decode cX8_pull 12 = .ok (.iload_n 2, 1) := by decide +kernel
theorem dX8_pull_13 : decode cX8_pull 13 = .ok (.invokestatic 76, 3) := by decide +kernel
theorem dX8_pull_16 : decode cX8_pull 16 = .ok (.ifCond .eq 10, 3) := by decide +kernel
theorem dX8_pull_19 : decode cX8_pull 19 = .ok (.iload_n 3, 1) := by decide +kernel
theorem dX8_pull_20 : decode cX8_pull 20 = .ok (.invokestatic 186, 3) := by decide +kernel
theorem dX8_pull_23 : decode cX8_pull 23 = .ok (.ifCond .ne 9, 3) := by decide +kernel
theorem dX8_pull_26 : decode cX8_pull 26 = .ok (.aload_n 0, 1) := by decide +kernel
theorem dX8_pull_27 : decode cX8_pull 27 = .ok (.iconst 1, 1) := by decide +kernel
theorem dX8_pull_28 : decode cX8_pull 28 = .ok (.invokevirtual 104, 3) := by decide +kernel
theorem dX8_pull_31 : decode cX8_pull 31 = .ok (.ireturn, 1) := by decide +kernel
theorem dX8_pull_32 : decode cX8_pull 32 = .ok (.aload 4, 2) := by decide +kernel
theorem dX8_pull_34 : decode cX8_pull 34 = .ok (.iload_n 2, 1) := by decide +kernel
theorem dX8_pull_35 : decode cX8_pull 35 = .ok (.invokevirtual 215, 3) := by decide +kernel
theorem dX8_pull_38 : decode cX8_pull 38 = .ok (.ifCond .ne 10, 3) := by decide +kernel
theorem dX8_pull_41 : decode cX8_pull 41 = .ok (.aload_n 0, 1) := by decide +kernel
theorem dX8_pull_42 : decode cX8_pull 42 = .ok (.bipush 7, 2) := by decide +kernel
theorem dX8_pull_44 : decode cX8_pull 44 = .ok (.invokevirtual 104, 3) := by decide +kernel
theorem dX8_pull_47 : decode cX8_pull 47 = .ok (.ireturn, 1) := by decide +kernel
theorem dX8_pull_48 : decode cX8_pull 48 = .ok (.aload_n 0, 1) := by decide +kernel
theorem dX8_pull_49 : decode cX8_pull 49 = .ok (.getfield 48, 3) := by decide +kernel
theorem dX8_pull_52 : decode cX8_pull 52 = .ok (.aload 4, 2) := by decide +kernel
theorem dX8_pull_54 : decode cX8_pull 54 = .ok (.iload_n 2, 1) := by decide +kernel
theorem dX8_pull_55 : decode cX8_pull 55 = .ok (.invokevirtual 153, 3) := by decide +kernel
theorem dX8_pull_58 : decode cX8_pull 58 = .ok (.ifCond .ne 10, 3) := by decide +kernel
theorem dX8_pull_61 : decode cX8_pull 61 = .ok (.aload_n 0, 1) := by decide +kernel
theorem dX8_pull_62 : decode cX8_pull 62 = .ok (.bipush 6, 2) := by decide +kernel
theorem dX8_pull_64 : decode cX8_pull 64 = .ok (.invokevirtual 104, 3) := by decide +kernel
theorem dX8_pull_67 : decode cX8_pull 67 = .ok (.ireturn, 1) := by decide +kernel
theorem dX8_pull_68 : decode cX8_pull 68 = .ok (.aload_n 0, 1) := by decide +kernel
theorem dX8_pull_69 : decode cX8_pull 69 = .ok (.getfield 48, 3) := by decide +kernel
theorem dX8_pull_72 : decode cX8_pull 72 = .ok (.iload_n 3, 1) := by decide +kernel
theorem dX8_pull_73 : decode cX8_pull 73 = .ok (.aload_n 0, 1) := by decide +kernel
theorem dX8_pull_74 : decode cX8_pull 74 = .ok (.getfield 25, 3) := by decide +kernel
theorem dX8_pull_77 : decode cX8_pull 77 = .ok (.invokevirtual 198, 3) := by decide +kernel
theorem dX8_pull_80 : decode cX8_pull 80 = .ok (.aload_n 0, 1) := by decide +kernel
theorem dX8_pull_81 : decode cX8_pull 81 = .ok (.iconst 1, 1) := by decide +kernel
theorem dX8_pull_82 : decode cX8_pull 82 = .ok (.invokevirtual 164, 3) := by decide +kernel
theorem dX8_pull_85 : decode cX8_pull 85 = .ok (.ireturn, 1) := by decide +kernel
theorem dX8_right_0 : decode cX8_right 0 = .ok (.iload_n 3, 1) := by decide +kernel
theorem dX8_right_1 : decode cX8_right 1 = .ok (.iconst (-1), 1) := by decide +kernel
theorem dX8_right_2 : decode cX8_right 2 = .ok (.if_icmp .ne 7, 3) := by decide +kernel
theorem dX8_right_5 : decode cX8_right 5 = .ok (.iconst 2, 1) := by decide +kernel
theorem dX8_right_6 : decode cX8_right 6 = .ok (.goto 4, 3) := by decide +kernel
theorem dX8_right_9 : decode cX8_right 9 = .ok (.iconst 3, 1) := by decide +kernel
theorem dX8_right_10 : decode cX8_right 10 = .ok (.istore 7, 2) := by decide +kernel
theorem dX8_right_12 : decode cX8_right 12 = .ok (.aload_n 0, 1) := by decide +kernel
theorem dX8_right_13 : decode cX8_right 13 = .ok (.iload_n 1, 1) := by decide +kernel
theorem dX8_right_14 : decode cX8_right 14 = .ok (.iload_n 2, 1) := by decide +kernel
theorem dX8_right_15 : decode cX8_right 15 = .ok (.iload_n 3, 1) := by decide +kernel
theorem dX8_right_16 : decode cX8_right 16 = .ok (.iload 4, 2) := by decide +kernel
theorem dX8_right_18 : decode cX8_right 18 = .ok (.invokevirtual 218, 3) := by decide +kernel
theorem dX8_right_21 : decode cX8_right 21 = .ok (.ifCond .eq 23, 3) := by decide +kernel
theorem dX8_right_24 : decode cX8_right 24 = .ok (.iload 5, 2) := by decide +kernel
theorem dX8_right_26 : decode cX8_right 26 = .ok (.ifCond .lt 18, 3) := by decide +kernel
theorem dX8_right_29 : decode cX8_right 29 = .ok (.iload 5, 2) := by decide +kernel
theorem dX8_right_31 : decode cX8_right 31 = .ok (.iload 7, 2) := by decide +kernel
theorem dX8_right_33 : decode cX8_right 33 = .ok (.if_icmp .ge 11, 3) := by decide +kernel
theorem dX8_right_36 : decode cX8_right 36 = .ok (.iload 6, 2) := by decide +kernel
theorem dX8_right_38 : decode cX8_right 38 = .ok (.invokestatic 186, 3) := by decide +kernel
theorem dX8_right_41 : decode cX8_right 41 = .ok (.ifCond .ne 9, 3) := by decide +kernel
theorem dX8_right_44 : decode cX8_right 44 = .ok (.aload_n 0, 1) := by decide +kernel
theorem dX8_right_45 : decode cX8_right 45 = .ok (.iconst 1, 1) := by decide +kernel
theorem dX8_right_46 : decode cX8_right 46 = .ok (.invokevirtual 104, 3) := by decide +kernel
theorem dX8_right_49 : decode cX8_right 49 = .ok (.ireturn, 1) := by decide +kernel
theorem dX8_right_50 : decode cX8_right 50 = .ok (.aload_n 0, 1) := by decide +kernel
theorem dX8_right_51 : decode cX8_right 51 = .ok (.getfield 64, 3) := by decide +kernel
theorem dX8_right_54 : decode cX8_right 54 = .ok (.invokevirtual 222, 3) := by decide +kernel
theorem dX8_right_57 : decode cX8_right 57 = .ok (.aload_n 0, 1) := by decide +kernel
theorem dX8_right_58 : decode cX8_right 58 = .ok (.iload_n 1, 1) := by decide +kernel
theorem dX8_right_59 : decode cX8_right 59 = .ok (.iload 5, 2) := by decide +kernel
theorem dX8_right_61 : decode cX8_right 61 = .ok (.ifCond .ne 10, 3) := by decide +kernel
theorem dX8_right_64 : decode cX8_right 64 = .ok (.iload 7, 2) := by decide +kernel
theorem dX8_right_66 : decode cX8_right 66 = .ok (.iconst 1, 1) := by decide +kernel
theorem dX8_right_67 : decode cX8_right 67 = .ok (.isub, 1) := by decide +kernel
theorem dX8_right_68 : decode cX8_right 68 = .ok (.goto 4, 3) := by decide +kernel
theorem dX8_right_71 : decode cX8_right 71 = .ok (.iconst (-1), 1) := by decide +kernel
theorem dX8_right_72 : decode cX8_right 72 = .ok (.iload 6, 2) := by decide +kernel
theorem dX8_right_74 : decode cX8_right 74 = .ok (.invokevirtual 225, 3) := by decide +kernel
theorem dX8_right_77 : decode cX8_right 77 = .ok (.ifCond .eq 72, 3) := by decide +kernel
theorem dX8_right_80 : decode cX8_right 80 = .ok (.aload_n 0, 1) := by decide +kernel
theorem dX8_right_81 : decode cX8_right 81 = .ok (.iload_n 2, 1) := by decide +kernel
theorem dX8_right_82 : decode cX8_right 82 = .ok (.iload 5, 2) := by decide +kernel
theorem dX8_right_84 : decode cX8_right 84 = .ok (.iconst 1, 1) := by decide +kernel
theorem dX8_right_85 : decode cX8_right 85 = .ok (.if_icmp .ne 10, 3) := by decide +kernel
theorem dX8_right_88 : decode cX8_right 88 = .ok (.iload 7, 2) := by decide +kernel
theorem dX8_right_90 : decode cX8_right 90 = .ok (.iconst 1, 1) := by decide +kernel
theorem dX8_right_91 : decode cX8_right 91 = .ok (.isub, 1) := by decide +kernel
theorem dX8_right_92 : decode cX8_right 92 = .ok (.goto 4, 3) := by decide +kernel
theorem dX8_right_95 : decode cX8_right 95 = .ok (.iconst (-1), 1) := by decide +kernel
theorem dX8_right_96 : decode cX8_right 96 = .ok (.iload 6, 2) := by decide +kernel
theorem dX8_right_98 : decode cX8_right 98 = .ok (.invokevirtual 225, 3) := by decide +kernel
theorem dX8_right_101 : decode cX8_right 101 = .ok (.ifCond .eq 48, 3) := by decide +kernel
theorem dX8_right_104 : decode cX8_right 104 = .ok (.iload_n 3, 1) := by decide +kernel
theorem dX8_right_105 : decode cX8_right 105 = .ok (.iconst (-1), 1) := by decide +kernel
theorem dX8_right_106 : decode cX8_right 106 = .ok (.if_icmp .eq 27, 3) := by decide +kernel
theorem dX8_right_109 : decode cX8_right 109 = .ok (.aload_n 0, 1) := by decide +kernel
theorem dX8_right_110 : decode cX8_right 110 = .ok (.iload_n 3, 1) := by decide +kernel
theorem dX8_right_111 : decode cX8_right 111 = .ok (.iload 5, 2) := by decide +kernel
theorem dX8_right_113 : decode cX8_right 113 = .ok (.iconst 2, 1) := by decide +kernel
theorem dX8_right_114 : decode cX8_right 114 = .ok (.if_icmp .ne 10, 3) := by decide +kernel
theorem dX8_right_117 : decode cX8_right 117 = .ok (.iload 7, 2) := by decide +kernel
theorem dX8_right_119 : decode cX8_right 119 = .ok (.iconst 1, 1) := by decide +kernel
theorem dX8_right_120 : decode cX8_right 120 = .ok (.isub, 1) := by decide +kernel
theorem dX8_right_121 : decode cX8_right 121 = .ok (.goto 4, 3) := by decide +kernel
theorem dX8_right_124 : decode cX8_right 124 = .ok (.iconst (-1), 1) := by decide +kernel
theorem dX8_right_125 : decode cX8_right 125 = .ok (.iload 6, 2) := by decide +kernel
theorem dX8_right_127 : decode cX8_right 127 = .ok (.invokevirtual 225, 3) := by decide +kernel
theorem dX8_right_130 : decode cX8_right 130 = .ok (.ifCond .eq 19, 3) := by decide +kernel
theorem dX8_right_133 : decode cX8_right 133 = .ok (.aload_n 0, 1) := by decide +kernel
theorem dX8_right_134 : decode cX8_right 134 = .ok (.iload 4, 2) := by decide +kernel
theorem dX8_right_136 : decode cX8_right 136 = .ok (.iconst 1, 1) := by decide +kernel
theorem dX8_right_137 : decode cX8_right 137 = .ok (.iload 6, 2) := by decide +kernel
theorem dX8_right_139 : decode cX8_right 139 = .ok (.invokevirtual 225, 3) := by decide +kernel
theorem dX8_right_142 : decode cX8_right 142 = .ok (.ifCond .eq 7, 3) := by decide +kernel
theorem dX8_right_145 : decode cX8_right 145 = .ok (.iconst 1, 1) := by decide +kernel
theorem dX8_right_146 : decode cX8_right 146 = .ok (.goto 4, 3) := by decide +kernel
theorem dX8_right_149 : decode cX8_right 149 = .ok (.iconst 0, 1) := by decide +kernel
theorem dX8_right_150 : decode cX8_right 150 = .ok (.istore 8, 2) := by decide +kernel
theorem dX8_right_152 : decode cX8_right 152 = .ok (.iload 8, 2) := by decide +kernel
theorem dX8_right_154 : decode cX8_right 154 = .ok (.ifCond .ne 10, 3) := by decide +kernel
theorem dX8_right_157 : decode cX8_right 157 = .ok (.aload_n 0, 1) := by decide +kernel
theorem dX8_right_158 : decode cX8_right 158 = .ok (.bipush 6, 2) := by decide +kernel
theorem dX8_right_160 : decode cX8_right 160 = .ok (.invokevirtual 104, 3) := by decide +kernel
theorem dX8_right_163 : decode cX8_right 163 = .ok (.ireturn, 1) := by decide +kernel
theorem dX8_right_164 : decode cX8_right 164 = .ok (.aload_n 0, 1) := by decide +kernel
theorem dX8_right_165 : decode cX8_right 165 = .ok (.getfield 64, 3) := by decide +kernel
theorem dX8_right_168 : decode cX8_right 168 = .ok (.iload 7, 2) := by decide +kernel
theorem dX8_right_170 : decode cX8_right 170 = .ok (.invokevirtual 229, 3) := by decide +kernel
theorem dX8_right_173 : decode cX8_right 173 = .ok (.aload_n 0, 1) := by decide +kernel
theorem dX8_right_174 : decode cX8_right 174 = .ok (.invokevirtual 233, 3) := by decide +kernel
theorem dX8_right_177 : decode cX8_right 177 = .ok (.ireturn, 1) := by decide +kernel
theorem dX8_done_0 : decode cX8_done 0 = .ok (.aload_n 0, 1) := by decide +kernel
theorem dX8_done_1 : decode cX8_done 1 = .ok (.iconst 0, 1) := by decide +kernel
theorem dX8_done_2 : decode cX8_done 2 = .ok (.putfield 35, 3) := by decide +kernel
theorem dX8_done_5 : decode cX8_done 5 = .ok (.iconst 1, 1) := by decide +kernel
theorem dX8_done_6 : decode cX8_done 6 = .ok (.ireturn, 1) := by decide +kernel
theorem dX8_refuse_0 : decode cX8_refuse 0 = .ok (.aload_n 0, 1) := by decide +kernel
theorem dX8_refuse_1 : decode cX8_refuse 1 = .ok (.iload_n 1, 1) := by decide +kernel
theorem dX8_refuse_2 : decode cX8_refuse 2 = .ok (.putfield 35, 3) := by decide +kernel
theorem dX8_refuse_5 : decode cX8_refuse 5 = .ok (.iconst 0, 1) := by decide +kernel
theorem dX8_refuse_6 : decode cX8_refuse 6 = .ok (.ireturn, 1) := by decide +kernel
theorem dX8_give_0 : decode cX8_give 0 = .ok (.aload_n 0, 1) := by decide +kernel
theorem dX8_give_1 : decode cX8_give 1 = .ok (.iconst 0, 1) := by decide +kernel
theorem dX8_give_2 : decode cX8_give 2 = .ok (.putfield 35, 3) := by decide +kernel
theorem dX8_give_5 : decode cX8_give 5 = .ok (.iload_n 1, 1) := by decide +kernel
theorem dX8_give_6 : decode cX8_give 6 = .ok (.ireturn, 1) := by decide +kernel
theorem dX8_giveNone_0 : decode cX8_giveNone 0 = .ok (.aload_n 0, 1) := by decide +kernel
theorem dX8_giveNone_1 : decode cX8_giveNone 1 = .ok (.iload_n 1, 1) := by decide +kernel
theorem dX8_giveNone_2 : decode cX8_giveNone 2 = .ok (.putfield 35, 3) := by decide +kernel
theorem dX8_giveNone_5 : decode cX8_giveNone 5 = .ok (.iconst (-1), 1) := by decide +kernel
theorem dX8_giveNone_6 : decode cX8_giveNone 6 = .ok (.ireturn, 1) := by decide +kernel
theorem dX8_tell_0 : decode cX8_tell 0 = .ok (.aload_n 0, 1) := by decide +kernel
theorem dX8_tell_1 : decode cX8_tell 1 = .ok (.getfield 64, 3) := by decide +kernel
theorem dX8_tell_4 : decode cX8_tell 4 = .ok (.invokevirtual 222, 3) := by decide +kernel
theorem dX8_tell_7 : decode cX8_tell 7 = .ok (.aload_n 0, 1) := by decide +kernel
theorem dX8_tell_8 : decode cX8_tell 8 = .ok (.getfield 64, 3) := by decide +kernel
theorem dX8_tell_11 : decode cX8_tell 11 = .ok (.aload_n 0, 1) := by decide +kernel
theorem dX8_tell_12 : decode cX8_tell 12 = .ok (.getfield 25, 3) := by decide +kernel
theorem dX8_tell_15 : decode cX8_tell 15 = .ok (.aload_n 0, 1) := by decide +kernel
theorem dX8_tell_16 : decode cX8_tell 16 = .ok (.getfield 48, 3) := by decide +kernel
theorem dX8_tell_19 : decode cX8_tell 19 = .ok (.getfield 236, 3) := by decide +kernel
theorem dX8_tell_22 : decode cX8_tell 22 = .ok (.iconst 1, 1) := by decide +kernel
theorem dX8_tell_23 : decode cX8_tell 23 = .ok (.invokevirtual 239, 3) := by decide +kernel
theorem dX8_tell_26 : decode cX8_tell 26 = .ok (.aload_n 0, 1) := by decide +kernel
theorem dX8_tell_27 : decode cX8_tell 27 = .ok (.getfield 64, 3) := by decide +kernel
theorem dX8_tell_30 : decode cX8_tell 30 = .ok (.iload_n 1, 1) := by decide +kernel
theorem dX8_tell_31 : decode cX8_tell 31 = .ok (.invokevirtual 229, 3) := by decide +kernel
theorem dX8_tell_34 : decode cX8_tell 34 = .ok (.aload_n 0, 1) := by decide +kernel
theorem dX8_tell_35 : decode cX8_tell 35 = .ok (.invokevirtual 233, 3) := by decide +kernel
theorem dX8_tell_38 : decode cX8_tell 38 = .ok (.ireturn, 1) := by decide +kernel
theorem dX8_tellAnswer_0 : decode cX8_tellAnswer 0 = .ok (.aload_n 0, 1) := by decide +kernel
theorem dX8_tellAnswer_1 : decode cX8_tellAnswer 1 = .ok (.getfield 64, 3) := by decide +kernel
theorem dX8_tellAnswer_4 : decode cX8_tellAnswer 4 = .ok (.invokevirtual 242, 3) := by decide +kernel
theorem dX8_tellAnswer_7 : decode cX8_tellAnswer 7 = .ok (.aload_n 0, 1) := by decide +kernel
theorem dX8_tellAnswer_8 : decode cX8_tellAnswer 8 = .ok (.getfield 18, 3) := by decide +kernel
theorem dX8_tellAnswer_11 : decode cX8_tellAnswer 11 = .ok (.aload_n 0, 1) := by decide +kernel
theorem dX8_tellAnswer_12 : decode cX8_tellAnswer 12 = .ok (.getfield 64, 3) := by decide +kernel
theorem dX8_tellAnswer_15 : decode cX8_tellAnswer 15 = .ok (.invokevirtual 245, 3) := by decide +kernel
theorem dX8_tellAnswer_18 : decode cX8_tellAnswer 18 = .ok (.aload_n 0, 1) := by decide +kernel
theorem dX8_tellAnswer_19 : decode cX8_tellAnswer 19 = .ok (.aload_n 0, 1) := by decide +kernel
theorem dX8_tellAnswer_20 : decode cX8_tellAnswer 20 = .ok (.getfield 18, 3) := by decide +kernel
theorem dX8_tellAnswer_23 : decode cX8_tellAnswer 23 = .ok (.invokevirtual 249, 3) := by decide +kernel
theorem dX8_tellAnswer_26 : decode cX8_tellAnswer 26 = .ok (.invokevirtual 114, 3) := by decide +kernel
theorem dX8_tellAnswer_29 : decode cX8_tellAnswer 29 = .ok (.ireturn, 1) := by decide +kernel
theorem dX8_addForetold_0 : decode cX8_addForetold 0 = .ok (.aload_n 0, 1) := by decide +kernel
theorem dX8_addForetold_1 : decode cX8_addForetold 1 = .ok (.iload_n 1, 1) := by decide +kernel
theorem dX8_addForetold_2 : decode cX8_addForetold 2 = .ok (.invokevirtual 72, 3) := by decide +kernel
theorem dX8_addForetold_5 : decode cX8_addForetold 5 = .ok (.astore 4, 2) := by decide +kernel
theorem dX8_addForetold_7 : decode cX8_addForetold 7 = .ok (.aload 4, 2) := by decide +kernel
theorem dX8_addForetold_9 : decode cX8_addForetold 9 = .ok (.ifnull 16, 3) := by decide +kernel
theorem dX8_addForetold_12 : decode cX8_addForetold 12 = .ok (.aload_n 0, 1) := by decide +kernel
theorem dX8_addForetold_13 : decode cX8_addForetold 13 = .ok (.getfield 48, 3) := by decide +kernel
theorem dX8_addForetold_16 : decode cX8_addForetold 16 = .ok (.aload 4, 2) := by decide +kernel
theorem dX8_addForetold_18 : decode cX8_addForetold 18 = .ok (.iconst (-1), 1) := by decide +kernel
theorem dX8_addForetold_19 : decode cX8_addForetold 19 = .ok (.invokevirtual 153, 3) := by decide +kernel
theorem dX8_addForetold_22 : decode cX8_addForetold 22 = .ok (.ifCond .ne 5, 3) := by decide +kernel
theorem dX8_addForetold_25 : decode cX8_addForetold 25 = .ok (.iconst 0, 1) := by decide +kernel
theorem dX8_addForetold_26 : decode cX8_addForetold 26 = .ok (.ireturn, 1) := by decide +kernel
theorem dX8_addForetold_27 : decode cX8_addForetold 27 = .ok (.aload_n 0, 1) := by decide +kernel
theorem dX8_addForetold_28 : decode cX8_addForetold 28 = .ok (.getfield 48, 3) := by decide +kernel
theorem dX8_addForetold_31 : decode cX8_addForetold 31 = .ok (.iload_n 3, 1) := by decide +kernel
theorem dX8_addForetold_32 : decode cX8_addForetold 32 = .ok (.aload_n 0, 1) := by decide +kernel
theorem dX8_addForetold_33 : decode cX8_addForetold 33 = .ok (.getfield 25, 3) := by decide +kernel
theorem dX8_addForetold_36 : decode cX8_addForetold 36 = .ok (.invokevirtual 198, 3) := by decide +kernel
theorem dX8_addForetold_39 : decode cX8_addForetold 39 = .ok (.aload_n 0, 1) := by decide +kernel
theorem dX8_addForetold_40 : decode cX8_addForetold 40 = .ok (.getfield 64, 3) := by decide +kernel
theorem dX8_addForetold_43 : decode cX8_addForetold 43 = .ok (.aload_n 0, 1) := by decide +kernel
theorem dX8_addForetold_44 : decode cX8_addForetold 44 = .ok (.getfield 25, 3) := by decide +kernel
theorem dX8_addForetold_47 : decode cX8_addForetold 47 = .ok (.aload_n 0, 1) := by decide +kernel
theorem dX8_addForetold_48 : decode cX8_addForetold 48 = .ok (.getfield 48, 3) := by decide +kernel
theorem dX8_addForetold_51 : decode cX8_addForetold 51 = .ok (.getfield 236, 3) := by decide +kernel
theorem dX8_addForetold_54 : decode cX8_addForetold 54 = .ok (.iload_n 2, 1) := by decide +kernel
theorem dX8_addForetold_55 : decode cX8_addForetold 55 = .ok (.invokevirtual 239, 3) := by decide +kernel
theorem dX8_addForetold_58 : decode cX8_addForetold 58 = .ok (.iconst 1, 1) := by decide +kernel
theorem dX8_addForetold_59 : decode cX8_addForetold 59 = .ok (.ireturn, 1) := by decide +kernel
theorem dX8_cheapestStep_0 : decode cX8_cheapestStep 0 = .ok (.iconst (-1), 1) := by decide +kernel
theorem dX8_cheapestStep_1 : decode cX8_cheapestStep 1 = .ok (.istore_n 2, 1) := by decide +kernel
theorem dX8_cheapestStep_2 : decode cX8_cheapestStep 2 = .ok (.iconst 1, 1) := by decide +kernel
theorem dX8_cheapestStep_3 : decode cX8_cheapestStep 3 = .ok (.istore_n 3, 1) := by decide +kernel
theorem dX8_cheapestStep_4 : decode cX8_cheapestStep 4 = .ok (.iload_n 3, 1) := by decide +kernel
theorem dX8_cheapestStep_5 : decode cX8_cheapestStep 5 = .ok (.bipush 40, 2) := by decide +kernel
theorem dX8_cheapestStep_7 : decode cX8_cheapestStep 7 = .ok (.if_icmp .ge 108, 3) := by decide +kernel
theorem dX8_cheapestStep_10 : decode cX8_cheapestStep 10 = .ok (.aload_n 1, 1) := by decide +kernel
theorem dX8_cheapestStep_11 : decode cX8_cheapestStep 11 = .ok (.iload_n 3, 1) := by decide +kernel
theorem dX8_cheapestStep_12 : decode cX8_cheapestStep 12 = .ok (.iconst 1, 1) := by decide +kernel
theorem dX8_cheapestStep_13 : decode cX8_cheapestStep 13 = .ok (.isub, 1) := by decide +kernel
theorem dX8_cheapestStep_14 : decode cX8_cheapestStep 14 = .ok (.invokevirtual 215, 3) := by decide +kernel
theorem dX8_cheapestStep_17 : decode cX8_cheapestStep 17 = .ok (.ifCond .eq 92, 3) := by decide +kernel
theorem dX8_cheapestStep_20 : decode cX8_cheapestStep 20 = .ok (.aload_n 1, 1) := by decide +kernel
theorem dX8_cheapestStep_21 : decode cX8_cheapestStep 21 = .ok (.getfield 127, 3) := by decide +kernel
theorem dX8_cheapestStep_24 : decode cX8_cheapestStep 24 = .ok (.iload_n 3, 1) := by decide +kernel
theorem dX8_cheapestStep_25 : decode cX8_cheapestStep 25 = .ok (.invokevirtual 140, 3) := by decide +kernel
theorem dX8_cheapestStep_28 : decode cX8_cheapestStep 28 = .ok (.ifCond .ne 6, 3) := by decide +kernel
theorem dX8_cheapestStep_31 : decode cX8_cheapestStep 31 = .ok (.goto 78, 3) := by decide +kernel
theorem dX8_cheapestStep_34 : decode cX8_cheapestStep 34 = .ok (.aload_n 0, 1) := by decide +kernel
theorem dX8_cheapestStep_35 : decode cX8_cheapestStep 35 = .ok (.getfield 48, 3) := by decide +kernel
theorem dX8_cheapestStep_38 : decode cX8_cheapestStep 38 = .ok (.aload_n 1, 1) := by decide +kernel
theorem dX8_cheapestStep_39 : decode cX8_cheapestStep 39 = .ok (.iconst (-1), 1) := by decide +kernel
theorem dX8_cheapestStep_40 : decode cX8_cheapestStep 40 = .ok (.invokevirtual 252, 3) := by decide +kernel
theorem dX8_cheapestStep_43 : decode cX8_cheapestStep 43 = .ok (.istore 4, 2) := by decide +kernel
theorem dX8_cheapestStep_45 : decode cX8_cheapestStep 45 = .ok (.iload 4, 2) := by decide +kernel
theorem dX8_cheapestStep_47 : decode cX8_cheapestStep 47 = .ok (.ifCond .eq 53, 3) := by decide +kernel
theorem dX8_cheapestStep_50 : decode cX8_cheapestStep 50 = .ok (.iload_n 2, 1) := by decide +kernel
theorem dX8_cheapestStep_51 : decode cX8_cheapestStep 51 = .ok (.iconst (-1), 1) := by decide +kernel
theorem dX8_cheapestStep_52 : decode cX8_cheapestStep 52 = .ok (.if_icmp .eq 21, 3) := by decide +kernel
theorem dX8_cheapestStep_55 : decode cX8_cheapestStep 55 = .ok (.aload_n 0, 1) := by decide +kernel
theorem dX8_cheapestStep_56 : decode cX8_cheapestStep 56 = .ok (.getfield 48, 3) := by decide +kernel
theorem dX8_cheapestStep_59 : decode cX8_cheapestStep 59 = .ok (.aload_n 0, 1) := by decide +kernel
theorem dX8_cheapestStep_60 : decode cX8_cheapestStep 60 = .ok (.getfield 29, 3) := by decide +kernel
theorem dX8_cheapestStep_63 : decode cX8_cheapestStep 63 = .ok (.aload_n 0, 1) := by decide +kernel
theorem dX8_cheapestStep_64 : decode cX8_cheapestStep 64 = .ok (.getfield 32, 3) := by decide +kernel
theorem dX8_cheapestStep_67 : decode cX8_cheapestStep 67 = .ok (.invokevirtual 255, 3) := by decide +kernel
theorem dX8_cheapestStep_70 : decode cX8_cheapestStep 70 = .ok (.ifCond .eq 30, 3) := by decide +kernel
theorem dX8_cheapestStep_73 : decode cX8_cheapestStep 73 = .ok (.iload_n 3, 1) := by decide +kernel
theorem dX8_cheapestStep_74 : decode cX8_cheapestStep 74 = .ok (.istore_n 2, 1) := by decide +kernel
theorem dX8_cheapestStep_75 : decode cX8_cheapestStep 75 = .ok (.aload_n 0, 1) := by decide +kernel
theorem dX8_cheapestStep_76 : decode cX8_cheapestStep 76 = .ok (.getfield 48, 3) := by decide +kernel
theorem dX8_cheapestStep_79 : decode cX8_cheapestStep 79 = .ok (.aload_n 0, 1) := by decide +kernel
theorem dX8_cheapestStep_80 : decode cX8_cheapestStep 80 = .ok (.getfield 29, 3) := by decide +kernel
theorem dX8_cheapestStep_83 : decode cX8_cheapestStep 83 = .ok (.invokevirtual 170, 3) := by decide +kernel
theorem dX8_cheapestStep_86 : decode cX8_cheapestStep 86 = .ok (.aload_n 0, 1) := by decide +kernel
theorem dX8_cheapestStep_87 : decode cX8_cheapestStep 87 = .ok (.getfield 32, 3) := by decide +kernel
theorem dX8_cheapestStep_90 : decode cX8_cheapestStep 90 = .ok (.aload_n 0, 1) := by decide +kernel
theorem dX8_cheapestStep_91 : decode cX8_cheapestStep 91 = .ok (.getfield 48, 3) := by decide +kernel
theorem dX8_cheapestStep_94 : decode cX8_cheapestStep 94 = .ok (.getfield 236, 3) := by decide +kernel
theorem dX8_cheapestStep_97 : decode cX8_cheapestStep 97 = .ok (.invokevirtual 259, 3) := by decide +kernel
theorem dX8_cheapestStep_100 : decode cX8_cheapestStep 100 = .ok (.aload_n 1, 1) := by decide +kernel
theorem dX8_cheapestStep_101 : decode cX8_cheapestStep 101 = .ok (.getfield 127, 3) := by decide +kernel
theorem dX8_cheapestStep_104 : decode cX8_cheapestStep 104 = .ok (.iload_n 3, 1) := by decide +kernel
theorem dX8_cheapestStep_105 : decode cX8_cheapestStep 105 = .ok (.invokevirtual 99, 3) := by decide +kernel
theorem dX8_cheapestStep_108 : decode cX8_cheapestStep 108 = .ok (.pop, 1) := by decide +kernel
theorem dX8_cheapestStep_109 : decode cX8_cheapestStep 109 = .ok (.iinc 3 1, 3) := by decide +kernel
theorem dX8_cheapestStep_112 : decode cX8_cheapestStep 112 = .ok (.goto (-108), 3) := by decide +kernel
theorem dX8_cheapestStep_115 : decode cX8_cheapestStep 115 = .ok (.iload_n 2, 1) := by decide +kernel
theorem dX8_cheapestStep_116 : decode cX8_cheapestStep 116 = .ok (.ireturn, 1) := by decide +kernel
theorem dX8_rowOf_0 : decode cX8_rowOf 0 = .ok (.iload_n 1, 1) := by decide +kernel
theorem dX8_rowOf_1 : decode cX8_rowOf 1 = .ok (.ifCond .lt 17, 3) := by decide +kernel
theorem dX8_rowOf_4 : decode cX8_rowOf 4 = .ok (.iload_n 1, 1) := by decide +kernel
theorem dX8_rowOf_5 : decode cX8_rowOf 5 = .ok (.iconst 4, 1) := by decide +kernel
theorem dX8_rowOf_6 : decode cX8_rowOf 6 = .ok (.if_icmp .ge 12, 3) := by decide +kernel
theorem dX8_rowOf_9 : decode cX8_rowOf 9 = .ok (.aload_n 0, 1) := by decide +kernel
theorem dX8_rowOf_10 : decode cX8_rowOf 10 = .ok (.getfield 11, 3) := by decide +kernel
theorem dX8_rowOf_13 : decode cX8_rowOf 13 = .ok (.iload_n 1, 1) := by decide +kernel
theorem dX8_rowOf_14 : decode cX8_rowOf 14 = .ok (.aaload, 1) := by decide +kernel
theorem dX8_rowOf_15 : decode cX8_rowOf 15 = .ok (.goto 4, 3) := by decide +kernel
theorem dX8_rowOf_18 : decode cX8_rowOf 18 = .ok (.aconst_null, 1) := by decide +kernel
theorem dX8_rowOf_19 : decode cX8_rowOf 19 = .ok (.areturn, 1) := by decide +kernel
theorem dX8_isTick_0 : decode cX8_isTick 0 = .ok (.iload_n 0, 1) := by decide +kernel
theorem dX8_isTick_1 : decode cX8_isTick 1 = .ok (.ifCond .lt 13, 3) := by decide +kernel
theorem dX8_isTick_4 : decode cX8_isTick 4 = .ok (.iload_n 0, 1) := by decide +kernel
theorem dX8_isTick_5 : decode cX8_isTick 5 = .ok (.bipush 40, 2) := by decide +kernel
theorem dX8_isTick_7 : decode cX8_isTick 7 = .ok (.if_icmp .ge 7, 3) := by decide +kernel
theorem dX8_isTick_10 : decode cX8_isTick 10 = .ok (.iconst 1, 1) := by decide +kernel
theorem dX8_isTick_11 : decode cX8_isTick 11 = .ok (.goto 4, 3) := by decide +kernel
theorem dX8_isTick_14 : decode cX8_isTick 14 = .ok (.iconst 0, 1) := by decide +kernel
theorem dX8_isTick_15 : decode cX8_isTick 15 = .ok (.ireturn, 1) := by decide +kernel
theorem dX8_isFarTick_0 : decode cX8_isFarTick 0 = .ok (.iload_n 0, 1) := by decide +kernel
theorem dX8_isFarTick_1 : decode cX8_isFarTick 1 = .ok (.ifCond .lt 13, 3) := by decide +kernel
theorem dX8_isFarTick_4 : decode cX8_isFarTick 4 = .ok (.iload_n 0, 1) := by decide +kernel
theorem dX8_isFarTick_5 : decode cX8_isFarTick 5 = .ok (.bipush 80, 2) := by decide +kernel
theorem dX8_isFarTick_7 : decode cX8_isFarTick 7 = .ok (.if_icmp .ge 7, 3) := by decide +kernel
theorem dX8_isFarTick_10 : decode cX8_isFarTick 10 = .ok (.iconst 1, 1) := by decide +kernel
theorem dX8_isFarTick_11 : decode cX8_isFarTick 11 = .ok (.goto 4, 3) := by decide +kernel
theorem dX8_isFarTick_14 : decode cX8_isFarTick 14 = .ok (.iconst 0, 1) := by decide +kernel
theorem dX8_isFarTick_15 : decode cX8_isFarTick 15 = .ok (.ireturn, 1) := by decide +kernel
theorem dX8_isNumber_0 : decode cX8_isNumber 0 = .ok (.lload_n 0, 1) := by decide +kernel
theorem dX8_isNumber_1 : decode cX8_isNumber 1 = .ok (.ldc2_w 262, 3) := by decide +kernel
theorem dX8_isNumber_4 : decode cX8_isNumber 4 = .ok (.lcmp, 1) := by decide +kernel
theorem dX8_isNumber_5 : decode cX8_isNumber 5 = .ok (.ifCond .lt 15, 3) := by decide +kernel
theorem dX8_isNumber_8 : decode cX8_isNumber 8 = .ok (.lload_n 0, 1) := by decide +kernel
theorem dX8_isNumber_9 : decode cX8_isNumber 9 = .ok (.ldc2_w 264, 3) := by decide +kernel
theorem dX8_isNumber_12 : decode cX8_isNumber 12 = .ok (.lcmp, 1) := by decide +kernel
theorem dX8_isNumber_13 : decode cX8_isNumber 13 = .ok (.ifCond .gt 7, 3) := by decide +kernel
theorem dX8_isNumber_16 : decode cX8_isNumber 16 = .ok (.iconst 1, 1) := by decide +kernel
theorem dX8_isNumber_17 : decode cX8_isNumber 17 = .ok (.goto 4, 3) := by decide +kernel
theorem dX8_isNumber_20 : decode cX8_isNumber 20 = .ok (.iconst 0, 1) := by decide +kernel
theorem dX8_isNumber_21 : decode cX8_isNumber 21 = .ok (.ireturn, 1) := by decide +kernel
theorem dX8_isShare_0 : decode cX8_isShare 0 = .ok (.iload_n 0, 1) := by decide +kernel
theorem dX8_isShare_1 : decode cX8_isShare 1 = .ok (.iconst 1, 1) := by decide +kernel
theorem dX8_isShare_2 : decode cX8_isShare 2 = .ok (.if_icmp .lt 14, 3) := by decide +kernel
theorem dX8_isShare_5 : decode cX8_isShare 5 = .ok (.iload_n 0, 1) := by decide +kernel
theorem dX8_isShare_6 : decode cX8_isShare 6 = .ok (.sipush 1000, 3) := by decide +kernel
theorem dX8_isShare_9 : decode cX8_isShare 9 = .ok (.if_icmp .gt 7, 3) := by decide +kernel
theorem dX8_isShare_12 : decode cX8_isShare 12 = .ok (.iconst 1, 1) := by decide +kernel
theorem dX8_isShare_13 : decode cX8_isShare 13 = .ok (.goto 4, 3) := by decide +kernel
theorem dX8_isShare_16 : decode cX8_isShare 16 = .ok (.iconst 0, 1) := by decide +kernel
theorem dX8_isShare_17 : decode cX8_isShare 17 = .ok (.ireturn, 1) := by decide +kernel
theorem dX8_areFourRows_0 : decode cX8_areFourRows 0 = .ok (.aload_n 0, 1) := by decide +kernel
theorem dX8_areFourRows_1 : decode cX8_areFourRows 1 = .ok (.iload_n 1, 1) := by decide +kernel
theorem dX8_areFourRows_2 : decode cX8_areFourRows 2 = .ok (.invokevirtual 72, 3) := by decide +kernel
theorem dX8_areFourRows_5 : decode cX8_areFourRows 5 = .ok (.ifnull 20, 3) := by decide +kernel
theorem dX8_areFourRows_8 : decode cX8_areFourRows 8 = .ok (.aload_n 0, 1) := by decide +kernel
theorem dX8_areFourRows_9 : decode cX8_areFourRows 9 = .ok (.iload_n 2, 1) := by decide +kernel
theorem dX8_areFourRows_10 : decode cX8_areFourRows 10 = .ok (.invokevirtual 72, 3) := by decide +kernel
theorem dX8_areFourRows_13 : decode cX8_areFourRows 13 = .ok (.ifnull 12, 3) := by decide +kernel
theorem dX8_areFourRows_16 : decode cX8_areFourRows 16 = .ok (.aload_n 0, 1) := by decide +kernel
theorem dX8_areFourRows_17 : decode cX8_areFourRows 17 = .ok (.iload 4, 2) := by decide +kernel
theorem dX8_areFourRows_19 : decode cX8_areFourRows 19 = .ok (.invokevirtual 72, 3) := by decide +kernel
theorem dX8_areFourRows_22 : decode cX8_areFourRows 22 = .ok (.ifnonnull 5, 3) := by decide +kernel
theorem dX8_areFourRows_25 : decode cX8_areFourRows 25 = .ok (.iconst 0, 1) := by decide +kernel
theorem dX8_areFourRows_26 : decode cX8_areFourRows 26 = .ok (.ireturn, 1) := by decide +kernel
theorem dX8_areFourRows_27 : decode cX8_areFourRows 27 = .ok (.iload_n 3, 1) := by decide +kernel
theorem dX8_areFourRows_28 : decode cX8_areFourRows 28 = .ok (.iconst (-1), 1) := by decide +kernel
theorem dX8_areFourRows_29 : decode cX8_areFourRows 29 = .ok (.if_icmp .eq 13, 3) := by decide +kernel
theorem dX8_areFourRows_32 : decode cX8_areFourRows 32 = .ok (.aload_n 0, 1) := by decide +kernel
theorem dX8_areFourRows_33 : decode cX8_areFourRows 33 = .ok (.iload_n 3, 1) := by decide +kernel
theorem dX8_areFourRows_34 : decode cX8_areFourRows 34 = .ok (.invokevirtual 72, 3) := by decide +kernel
theorem dX8_areFourRows_37 : decode cX8_areFourRows 37 = .ok (.ifnonnull 5, 3) := by decide +kernel
theorem dX8_areFourRows_40 : decode cX8_areFourRows 40 = .ok (.iconst 0, 1) := by decide +kernel
theorem dX8_areFourRows_41 : decode cX8_areFourRows 41 = .ok (.ireturn, 1) := by decide +kernel
theorem dX8_areFourRows_42 : decode cX8_areFourRows 42 = .ok (.iload_n 1, 1) := by decide +kernel
theorem dX8_areFourRows_43 : decode cX8_areFourRows 43 = .ok (.iload_n 2, 1) := by decide +kernel
theorem dX8_areFourRows_44 : decode cX8_areFourRows 44 = .ok (.if_icmp .eq 35, 3) := by decide +kernel
theorem dX8_areFourRows_47 : decode cX8_areFourRows 47 = .ok (.iload_n 1, 1) := by decide +kernel
theorem dX8_areFourRows_48 : decode cX8_areFourRows 48 = .ok (.iload_n 3, 1) := by decide +kernel
theorem dX8_areFourRows_49 : decode cX8_areFourRows 49 = .ok (.if_icmp .eq 30, 3) := by decide +kernel
theorem dX8_areFourRows_52 : decode cX8_areFourRows 52 = .ok (.iload_n 1, 1) := by decide +kernel
theorem dX8_areFourRows_53 : decode cX8_areFourRows 53 = .ok (.iload 4, 2) := by decide +kernel
theorem dX8_areFourRows_55 : decode cX8_areFourRows 55 = .ok (.if_icmp .eq 24, 3) := by decide +kernel
theorem dX8_areFourRows_58 : decode cX8_areFourRows 58 = .ok (.iload_n 2, 1) := by decide +kernel
theorem dX8_areFourRows_59 : decode cX8_areFourRows 59 = .ok (.iload_n 3, 1) := by decide +kernel
theorem dX8_areFourRows_60 : decode cX8_areFourRows 60 = .ok (.if_icmp .eq 19, 3) := by decide +kernel
theorem dX8_areFourRows_63 : decode cX8_areFourRows 63 = .ok (.iload_n 2, 1) := by decide +kernel
theorem dX8_areFourRows_64 : decode cX8_areFourRows 64 = .ok (.iload 4, 2) := by decide +kernel
theorem dX8_areFourRows_66 : decode cX8_areFourRows 66 = .ok (.if_icmp .eq 13, 3) := by decide +kernel
theorem dX8_areFourRows_69 : decode cX8_areFourRows 69 = .ok (.iload_n 3, 1) := by decide +kernel
theorem dX8_areFourRows_70 : decode cX8_areFourRows 70 = .ok (.iload 4, 2) := by decide +kernel
theorem dX8_areFourRows_72 : decode cX8_areFourRows 72 = .ok (.if_icmp .eq 7, 3) := by decide +kernel
theorem dX8_areFourRows_75 : decode cX8_areFourRows 75 = .ok (.iconst 1, 1) := by decide +kernel
theorem dX8_areFourRows_76 : decode cX8_areFourRows 76 = .ok (.goto 4, 3) := by decide +kernel
theorem dX8_areFourRows_79 : decode cX8_areFourRows 79 = .ok (.iconst 0, 1) := by decide +kernel
theorem dX8_areFourRows_80 : decode cX8_areFourRows 80 = .ok (.ireturn, 1) := by decide +kernel
theorem dX9_init_0 : decode cX9_init 0 = .ok (.aload_n 0, 1) := by decide +kernel
theorem dX9_init_1 : decode cX9_init 1 = .ok (.invokespecial 1, 3) := by decide +kernel
theorem dX9_init_4 : decode cX9_init 4 = .ok (.aload_n 0, 1) := by decide +kernel
theorem dX9_init_5 : decode cX9_init 5 = .ok (.ldc 7, 2) := by decide +kernel
theorem dX9_init_7 : decode cX9_init 7 = .ok (.newarray .int, 2) := by decide +kernel
theorem dX9_init_9 : decode cX9_init 9 = .ok (.putfield 8, 3) := by decide +kernel
theorem dX9_init_12 : decode cX9_init 12 = .ok (.aload_n 0, 1) := by decide +kernel
theorem dX9_init_13 : decode cX9_init 13 = .ok (.sipush 600, 3) := by decide +kernel
theorem dX9_init_16 : decode cX9_init 16 = .ok (.newarray .int, 2) := by decide +kernel
theorem dX9_init_18 : decode cX9_init 18 = .ok (.putfield 14, 3) := by decide +kernel
theorem dX9_init_21 : decode cX9_init 21 = .ok (.aload_n 0, 1) := by decide +kernel
theorem dX9_init_22 : decode cX9_init 22 = .ok (.sipush 600, 3) := by decide +kernel
theorem dX9_init_25 : decode cX9_init 25 = .ok (.newarray .int, 2) := by decide +kernel
theorem dX9_init_27 : decode cX9_init 27 = .ok (.putfield 17, 3) := by decide +kernel
theorem dX9_init_30 : decode cX9_init 30 = .ok (.aload_n 0, 1) := by decide +kernel
theorem dX9_init_31 : decode cX9_init 31 = .ok (.sipush 600, 3) := by decide +kernel
theorem dX9_init_34 : decode cX9_init 34 = .ok (.newarray .int, 2) := by decide +kernel
theorem dX9_init_36 : decode cX9_init 36 = .ok (.putfield 20, 3) := by decide +kernel
theorem dX9_init_39 : decode cX9_init 39 = .ok (.aload_n 0, 1) := by decide +kernel
theorem dX9_init_40 : decode cX9_init 40 = .ok (.sipush 1500, 3) := by decide +kernel
theorem dX9_init_43 : decode cX9_init 43 = .ok (.newarray .int, 2) := by decide +kernel
theorem dX9_init_45 : decode cX9_init 45 = .ok (.putfield 23, 3) := by decide +kernel
theorem dX9_init_48 : decode cX9_init 48 = .ok (.aload_n 0, 1) := by decide +kernel
theorem dX9_init_49 : decode cX9_init 49 = .ok (.sipush 160, 3) := by decide +kernel
theorem dX9_init_52 : decode cX9_init 52 = .ok (.newarray .int, 2) := by decide +kernel
theorem dX9_init_54 : decode cX9_init 54 = .ok (.putfield 26, 3) := by decide +kernel
theorem dX9_init_57 : decode cX9_init 57 = .ok (.aload_n 0, 1) := by decide +kernel
theorem dX9_init_58 : decode cX9_init 58 = .ok (.iconst 4, 1) := by decide +kernel
theorem dX9_init_59 : decode cX9_init 59 = .ok (.newarray .int, 2) := by decide +kernel
theorem dX9_init_61 : decode cX9_init 61 = .ok (.putfield 29, 3) := by decide +kernel
theorem dX9_init_64 : decode cX9_init 64 = .ok (.aload_n 0, 1) := by decide +kernel
theorem dX9_init_65 : decode cX9_init 65 = .ok (.iconst 4, 1) := by decide +kernel
theorem dX9_init_66 : decode cX9_init 66 = .ok (.newarray .int, 2) := by decide +kernel
theorem dX9_init_68 : decode cX9_init 68 = .ok (.putfield 32, 3) := by decide +kernel
theorem dX9_init_71 : decode cX9_init 71 = .ok (.aload_n 0, 1) := by decide +kernel
theorem dX9_init_72 : decode cX9_init 72 = .ok (.bipush 12, 2) := by decide +kernel
theorem dX9_init_74 : decode cX9_init 74 = .ok (.newarray .int, 2) := by decide +kernel
theorem dX9_init_76 : decode cX9_init 76 = .ok (.putfield 35, 3) := by decide +kernel
theorem dX9_init_79 : decode cX9_init 79 = .ok (.aload_n 0, 1) := by decide +kernel
theorem dX9_init_80 : decode cX9_init 80 = .ok (.iconst 4, 1) := by decide +kernel
theorem dX9_init_81 : decode cX9_init 81 = .ok (.newarray .int, 2) := by decide +kernel
theorem dX9_init_83 : decode cX9_init 83 = .ok (.putfield 38, 3) := by decide +kernel
theorem dX9_init_86 : decode cX9_init 86 = .ok (.aload_n 0, 1) := by decide +kernel
theorem dX9_init_87 : decode cX9_init 87 = .ok (.sipush 160, 3) := by decide +kernel
theorem dX9_init_90 : decode cX9_init 90 = .ok (.newarray .boolean, 2) := by decide +kernel
theorem dX9_init_92 : decode cX9_init 92 = .ok (.putfield 41, 3) := by decide +kernel
theorem dX9_init_95 : decode cX9_init 95 = .ok (.aload_n 0, 1) := by decide +kernel
theorem dX9_init_96 : decode cX9_init 96 = .ok (.sipush 160, 3) := by decide +kernel
theorem dX9_init_99 : decode cX9_init 99 = .ok (.newarray .boolean, 2) := by decide +kernel
theorem dX9_init_101 : decode cX9_init 101 = .ok (.putfield 45, 3) := by decide +kernel
theorem dX9_init_104 : decode cX9_init 104 = .ok (.aload_n 0, 1) := by decide +kernel
theorem dX9_init_105 : decode cX9_init 105 = .ok (.iconst 4, 1) := by decide +kernel
theorem dX9_init_106 : decode cX9_init 106 = .ok (.newarray .boolean, 2) := by decide +kernel
theorem dX9_init_108 : decode cX9_init 108 = .ok (.putfield 48, 3) := by decide +kernel
theorem dX9_init_111 : decode cX9_init 111 = .ok (.aload_n 0, 1) := by decide +kernel
theorem dX9_init_112 : decode cX9_init 112 = .ok (.sipush 320, 3) := by decide +kernel
theorem dX9_init_115 : decode cX9_init 115 = .ok (.newarray .boolean, 2) := by decide +kernel
theorem dX9_init_117 : decode cX9_init 117 = .ok (.putfield 51, 3) := by decide +kernel
theorem dX9_init_120 : decode cX9_init 120 = .ok (.aload_n 0, 1) := by decide +kernel
theorem dX9_init_121 : decode cX9_init 121 = .ok (.bipush 19, 2) := by decide +kernel
theorem dX9_init_123 : decode cX9_init 123 = .ok (.newarray .int, 2) := by decide +kernel
theorem dX9_init_125 : decode cX9_init 125 = .ok (.putfield 54, 3) := by decide +kernel
theorem dX9_init_128 : decode cX9_init 128 = .ok (.aload_n 0, 1) := by decide +kernel
theorem dX9_init_129 : decode cX9_init 129 = .ok (.bipush 19, 2) := by decide +kernel
theorem dX9_init_131 : decode cX9_init 131 = .ok (.newarray .int, 2) := by decide +kernel
theorem dX9_init_133 : decode cX9_init 133 = .ok (.putfield 57, 3) := by decide +kernel
theorem dX9_init_136 : decode cX9_init 136 = .ok (.aload_n 0, 1) := by decide +kernel
theorem dX9_init_137 : decode cX9_init 137 = .ok (.sipush 361, 3) := by decide +kernel
theorem dX9_init_140 : decode cX9_init 140 = .ok (.newarray .long, 2) := by decide +kernel
theorem dX9_init_142 : decode cX9_init 142 = .ok (.putfield 60, 3) := by decide +kernel
theorem dX9_init_145 : decode cX9_init 145 = .ok (.aload_n 0, 1) := by decide +kernel
theorem dX9_init_146 : decode cX9_init 146 = .ok (.bipush 19, 2) := by decide +kernel
theorem dX9_init_148 : decode cX9_init 148 = .ok (.newarray .long, 2) := by decide +kernel
theorem dX9_init_150 : decode cX9_init 150 = .ok (.putfield 64, 3) := by decide +kernel
theorem dX9_init_153 : decode cX9_init 153 = .ok (.aload_n 0, 1) := by decide +kernel
theorem dX9_init_154 : decode cX9_init 154 = .ok (.sipush 380, 3) := by decide +kernel
theorem dX9_init_157 : decode cX9_init 157 = .ok (.newarray .int, 2) := by decide +kernel
theorem dX9_init_159 : decode cX9_init 159 = .ok (.putfield 67, 3) := by decide +kernel
theorem dX9_init_162 : decode cX9_init 162 = .ok (.aload_n 0, 1) := by decide +kernel
theorem dX9_init_163 : decode cX9_init 163 = .ok (.sipush 1800, 3) := by decide +kernel
theorem dX9_init_166 : decode cX9_init 166 = .ok (.newarray .int, 2) := by decide +kernel
theorem dX9_init_168 : decode cX9_init 168 = .ok (.putfield 70, 3) := by decide +kernel
theorem dX9_init_171 : decode cX9_init 171 = .ok (.aload_n 0, 1) := by decide +kernel
theorem dX9_init_172 : decode cX9_init 172 = .ok (.bipush 40, 2) := by decide +kernel
theorem dX9_init_174 : decode cX9_init 174 = .ok (.newarray .boolean, 2) := by decide +kernel
theorem dX9_init_176 : decode cX9_init 176 = .ok (.putfield 73, 3) := by decide +kernel
theorem dX9_init_179 : decode cX9_init 179 = .ok (.aload_n 0, 1) := by decide +kernel
theorem dX9_init_180 : decode cX9_init 180 = .ok (.bipush 40, 2) := by decide +kernel
theorem dX9_init_182 : decode cX9_init 182 = .ok (.newarray .boolean, 2) := by decide +kernel
theorem dX9_init_184 : decode cX9_init 184 = .ok (.putfield 76, 3) := by decide +kernel
theorem dX9_init_187 : decode cX9_init 187 = .ok (.aload_n 0, 1) := by decide +kernel
theorem dX9_init_188 : decode cX9_init 188 = .ok (.bipush 40, 2) := by decide +kernel
theorem dX9_init_190 : decode cX9_init 190 = .ok (.newarray .int, 2) := by decide +kernel
theorem dX9_init_192 : decode cX9_init 192 = .ok (.putfield 79, 3) := by decide +kernel
theorem dX9_init_195 : decode cX9_init 195 = .ok (.return_, 1) := by decide +kernel
theorem dX9_status_0 : decode cX9_status 0 = .ok (.aload_n 0, 1) := by decide +kernel
theorem dX9_status_1 : decode cX9_status 1 = .ok (.getfield 82, 3) := by decide +kernel
theorem dX9_status_4 : decode cX9_status 4 = .ok (.ireturn, 1) := by decide +kernel
theorem dX9_is_0 : decode cX9_is 0 = .ok (.aload_n 0, 1) := by decide +kernel
theorem dX9_is_1 : decode cX9_is 1 = .ok (.iload_n 1, 1) := by decide +kernel
theorem dX9_is_2 : decode cX9_is 2 = .ok (.putfield 82, 3) := by decide +kernel
theorem dX9_is_5 : decode cX9_is 5 = .ok (.iload_n 1, 1) := by decide +kernel
theorem dX9_is_6 : decode cX9_is 6 = .ok (.ifCond .ne 7, 3) := by decide +kernel
theorem dX9_is_9 : decode cX9_is 9 = .ok (.iconst 1, 1) := by decide +kernel
theorem dX9_is_10 : decode cX9_is 10 = .ok (.goto 4, 3) := by decide +kernel
theorem dX9_is_13 : decode cX9_is 13 = .ok (.iconst 0, 1) := by decide +kernel
theorem dX9_is_14 : decode cX9_is 14 = .ok (.ireturn, 1) := by decide +kernel
theorem dX9_refuse_0 : decode cX9_refuse 0 = .ok (.aload_n 0, 1) := by decide +kernel
theorem dX9_refuse_1 : decode cX9_refuse 1 = .ok (.iload_n 1, 1) := by decide +kernel
theorem dX9_refuse_2 : decode cX9_refuse 2 = .ok (.putfield 82, 3) := by decide +kernel
theorem dX9_refuse_5 : decode cX9_refuse 5 = .ok (.iconst (-1), 1) := by decide +kernel
theorem dX9_refuse_6 : decode cX9_refuse 6 = .ok (.ireturn, 1) := by decide +kernel
theorem dX9_size_0 : decode cX9_size 0 = .ok (.aload_n 0, 1) := by decide +kernel
theorem dX9_size_1 : decode cX9_size 1 = .ok (.getfield 8, 3) := by decide +kernel
theorem dX9_size_4 : decode cX9_size 4 = .ok (.iload_n 1, 1) := by decide +kernel
theorem dX9_size_5 : decode cX9_size 5 = .ok (.iaload, 1) := by decide +kernel
theorem dX9_size_6 : decode cX9_size 6 = .ok (.ifCond .ge 13, 3) := by decide +kernel
theorem dX9_size_9 : decode cX9_size 9 = .ok (.aload_n 0, 1) := by decide +kernel
theorem dX9_size_10 : decode cX9_size 10 = .ok (.getfield 8, 3) := by decide +kernel
theorem dX9_size_13 : decode cX9_size 13 = .ok (.iload_n 1, 1) := by decide +kernel
theorem dX9_size_14 : decode cX9_size 14 = .ok (.iaload, 1) := by decide +kernel
theorem dX9_size_15 : decode cX9_size 15 = .ok (.ineg, 1) := by decide +kernel
theorem dX9_size_16 : decode cX9_size 16 = .ok (.goto 9, 3) := by decide +kernel
theorem dX9_size_19 : decode cX9_size 19 = .ok (.aload_n 0, 1) := by decide +kernel
theorem dX9_size_20 : decode cX9_size 20 = .ok (.getfield 8, 3) := by decide +kernel
theorem dX9_size_23 : decode cX9_size 23 = .ok (.iload_n 1, 1) := by decide +kernel
theorem dX9_size_24 : decode cX9_size 24 = .ok (.iaload, 1) := by decide +kernel
theorem dX9_size_25 : decode cX9_size 25 = .ok (.ireturn, 1) := by decide +kernel
theorem dX9_sign_0 : decode cX9_sign 0 = .ok (.aload_n 0, 1) := by decide +kernel
theorem dX9_sign_1 : decode cX9_sign 1 = .ok (.getfield 8, 3) := by decide +kernel
theorem dX9_sign_4 : decode cX9_sign 4 = .ok (.iload_n 1, 1) := by decide +kernel
theorem dX9_sign_5 : decode cX9_sign 5 = .ok (.iaload, 1) := by decide +kernel
theorem dX9_sign_6 : decode cX9_sign 6 = .ok (.ifCond .le 7, 3) := by decide +kernel
theorem dX9_sign_9 : decode cX9_sign 9 = .ok (.iconst 1, 1) := by decide +kernel
theorem dX9_sign_10 : decode cX9_sign 10 = .ok (.goto 17, 3) := by decide +kernel
theorem dX9_sign_13 : decode cX9_sign 13 = .ok (.aload_n 0, 1) := by decide +kernel
theorem dX9_sign_14 : decode cX9_sign 14 = .ok (.getfield 8, 3) := by decide +kernel
theorem dX9_sign_17 : decode cX9_sign 17 = .ok (.iload_n 1, 1) := by decide +kernel
theorem dX9_sign_18 : decode cX9_sign 18 = .ok (.iaload, 1) := by decide +kernel
theorem dX9_sign_19 : decode cX9_sign 19 = .ok (.ifCond .ge 7, 3) := by decide +kernel
theorem dX9_sign_22 : decode cX9_sign 22 = .ok (.iconst (-1), 1) := by decide +kernel
theorem dX9_sign_23 : decode cX9_sign 23 = .ok (.goto 4, 3) := by decide +kernel
theorem dX9_sign_26 : decode cX9_sign 26 = .ok (.iconst 0, 1) := by decide +kernel
theorem dX9_sign_27 : decode cX9_sign 27 = .ok (.ireturn, 1) := by decide +kernel
theorem dX9_room_0 : decode cX9_room 0 = .ok (.aload_n 0, 1) := by decide +kernel
theorem dX9_room_1 : decode cX9_room 1 = .ok (.getfield 86, 3) := by decide +kernel
theorem dX9_room_4 : decode cX9_room 4 = .ok (.istore_n 2, 1) := by decide +kernel
theorem dX9_room_5 : decode cX9_room 5 = .ok (.aload_n 0, 1) := by decide +kernel
theorem dX9_room_6 : decode cX9_room 6 = .ok (.dup, 1) := by decide +kernel
theorem dX9_room_7 : decode cX9_room 7 = .ok (.getfield 86, 3) := by decide +kernel
theorem dX9_room_10 : decode cX9_room 10 = .ok (.iload_n 1, 1) := by decide +kernel
theorem dX9_room_11 : decode cX9_room 11 = .ok (.iconst 1, 1) := by decide +kernel
theorem dX9_room_12 : decode cX9_room 12 = .ok (.iadd, 1) := by decide +kernel
theorem dX9_room_13 : decode cX9_room 13 = .ok (.iadd, 1) := by decide +kernel
theorem dX9_room_14 : decode cX9_room 14 = .ok (.putfield 86, 3) := by decide +kernel
theorem dX9_room_17 : decode cX9_room 17 = .ok (.iload_n 2, 1) := by decide +kernel
theorem dX9_room_18 : decode cX9_room 18 = .ok (.ireturn, 1) := by decide +kernel
theorem dX9_done_0 : decode cX9_done 0 = .ok (.iload_n 2, 1) := by decide +kernel
theorem dX9_done_1 : decode cX9_done 1 = .ok (.istore 4, 2) := by decide +kernel
theorem dX9_done_3 : decode cX9_done 3 = .ok (.iload 4, 2) := by decide +kernel
theorem dX9_done_5 : decode cX9_done 5 = .ok (.ifCond .le 21, 3) := by decide +kernel
theorem dX9_done_8 : decode cX9_done 8 = .ok (.aload_n 0, 1) := by decide +kernel
theorem dX9_done_9 : decode cX9_done 9 = .ok (.getfield 8, 3) := by decide +kernel
theorem dX9_done_12 : decode cX9_done 12 = .ok (.iload_n 1, 1) := by decide +kernel
theorem dX9_done_13 : decode cX9_done 13 = .ok (.iload 4, 2) := by decide +kernel
theorem dX9_done_15 : decode cX9_done 15 = .ok (.iadd, 1) := by decide +kernel
theorem dX9_done_16 : decode cX9_done 16 = .ok (.iaload, 1) := by decide +kernel
theorem dX9_done_17 : decode cX9_done 17 = .ok (.ifCond .ne 9, 3) := by decide +kernel
theorem dX9_done_20 : decode cX9_done 20 = .ok (.iinc 4 (-1), 3) := by decide +kernel
theorem dX9_done_23 : decode cX9_done 23 = .ok (.goto (-20), 3) := by decide +kernel
theorem dX9_done_26 : decode cX9_done 26 = .ok (.aload_n 0, 1) := by decide +kernel
theorem dX9_done_27 : decode cX9_done 27 = .ok (.getfield 8, 3) := by decide +kernel
theorem dX9_done_30 : decode cX9_done 30 = .ok (.iload_n 1, 1) := by decide +kernel
theorem dX9_done_31 : decode cX9_done 31 = .ok (.iload_n 3, 1) := by decide +kernel
theorem dX9_done_32 : decode cX9_done 32 = .ok (.ifCond .eq 9, 3) := by decide +kernel
theorem dX9_done_35 : decode cX9_done 35 = .ok (.iload 4, 2) := by decide +kernel
theorem dX9_done_37 : decode cX9_done 37 = .ok (.ineg, 1) := by decide +kernel
theorem dX9_done_38 : decode cX9_done 38 = .ok (.goto 5, 3) := by decide +kernel
theorem dX9_done_41 : decode cX9_done 41 = .ok (.iload 4, 2) := by decide +kernel
theorem dX9_done_43 : decode cX9_done 43 = .ok (.iastore, 1) := by decide +kernel
theorem dX9_done_44 : decode cX9_done 44 = .ok (.aload_n 0, 1) := by decide +kernel
theorem dX9_done_45 : decode cX9_done 45 = .ok (.iload_n 1, 1) := by decide +kernel
theorem dX9_done_46 : decode cX9_done 46 = .ok (.iload 4, 2) := by decide +kernel
theorem dX9_done_48 : decode cX9_done 48 = .ok (.iadd, 1) := by decide +kernel
theorem dX9_done_49 : decode cX9_done 49 = .ok (.iconst 1, 1) := by decide +kernel
theorem dX9_done_50 : decode cX9_done 50 = .ok (.iadd, 1) := by decide +kernel
theorem dX9_done_51 : decode cX9_done 51 = .ok (.putfield 86, 3) := by decide +kernel
theorem dX9_done_54 : decode cX9_done 54 = .ok (.iload_n 1, 1) := by decide +kernel
theorem dX9_done_55 : decode cX9_done 55 = .ok (.ireturn, 1) := by decide +kernel
theorem dX9_whole_0 : decode cX9_whole 0 = .ok (.aload_n 0, 1) := by decide +kernel
theorem dX9_whole_1 : decode cX9_whole 1 = .ok (.iconst 3, 1) := by decide +kernel
theorem dX9_whole_2 : decode cX9_whole 2 = .ok (.invokevirtual 89, 3) := by decide +kernel
theorem dX9_whole_5 : decode cX9_whole 5 = .ok (.istore_n 3, 1) := by decide +kernel
theorem dX9_whole_6 : decode cX9_whole 6 = .ok (.lload_n 1, 1) := by decide +kernel
theorem dX9_whole_7 : decode cX9_whole 7 = .ok (.lconst 0, 1) := by decide +kernel
theorem dX9_whole_8 : decode cX9_whole 8 = .ok (.lcmp, 1) := by decide +kernel
theorem dX9_whole_9 : decode cX9_whole 9 = .ok (.ifCond .ge 8, 3) := by decide +kernel
theorem dX9_whole_12 : decode cX9_whole 12 = .ok (.lload_n 1, 1) := by decide +kernel
theorem dX9_whole_13 : decode cX9_whole 13 = .ok (.lneg, 1) := by decide +kernel
theorem dX9_whole_14 : decode cX9_whole 14 = .ok (.goto 4, 3) := by decide +kernel
theorem dX9_whole_17 : decode cX9_whole 17 = .ok (.lload_n 1, 1) := by decide +kernel
theorem dX9_whole_18 : decode cX9_whole 18 = .ok (.lstore 4, 2) := by decide +kernel
theorem dX9_whole_20 : decode cX9_whole 20 = .ok (.aload_n 0, 1) := by decide +kernel
theorem dX9_whole_21 : decode cX9_whole 21 = .ok (.getfield 8, 3) := by decide +kernel
theorem dX9_whole_24 : decode cX9_whole 24 = .ok (.iload_n 3, 1) := by decide +kernel
theorem dX9_whole_25 : decode cX9_whole 25 = .ok (.iconst 1, 1) := by decide +kernel
theorem dX9_whole_26 : decode cX9_whole 26 = .ok (.iadd, 1) := by decide +kernel
theorem dX9_whole_27 : decode cX9_whole 27 = .ok (.lload 4, 2) := by decide +kernel
theorem dX9_whole_29 : decode cX9_whole 29 = .ok (.ldc2_w 93, 3) := by decide +kernel
theorem dX9_whole_32 : decode cX9_whole 32 = .ok (.land, 1) := by decide +kernel
theorem dX9_whole_33 : decode cX9_whole 33 = .ok (.l2i, 1) := by decide +kernel
theorem dX9_whole_34 : decode cX9_whole 34 = .ok (.iastore, 1) := by decide +kernel
theorem dX9_whole_35 : decode cX9_whole 35 = .ok (.aload_n 0, 1) := by decide +kernel
theorem dX9_whole_36 : decode cX9_whole 36 = .ok (.getfield 8, 3) := by decide +kernel
theorem dX9_whole_39 : decode cX9_whole 39 = .ok (.iload_n 3, 1) := by decide +kernel
theorem dX9_whole_40 : decode cX9_whole 40 = .ok (.iconst 2, 1) := by decide +kernel
theorem dX9_whole_41 : decode cX9_whole 41 = .ok (.iadd, 1) := by decide +kernel
theorem dX9_whole_42 : decode cX9_whole 42 = .ok (.lload 4, 2) := by decide +kernel
theorem dX9_whole_44 : decode cX9_whole 44 = .ok (.bipush 30, 2) := by decide +kernel
theorem dX9_whole_46 : decode cX9_whole 46 = .ok (.lushr, 1) := by decide +kernel
theorem dX9_whole_47 : decode cX9_whole 47 = .ok (.ldc2_w 93, 3) := by decide +kernel
theorem dX9_whole_50 : decode cX9_whole 50 = .ok (.land, 1) := by decide +kernel
theorem dX9_whole_51 : decode cX9_whole 51 = .ok (.l2i, 1) := by decide +kernel
theorem dX9_whole_52 : decode cX9_whole 52 = .ok (.iastore, 1) := by decide +kernel
theorem dX9_whole_53 : decode cX9_whole 53 = .ok (.aload_n 0, 1) := by decide +kernel
theorem dX9_whole_54 : decode cX9_whole 54 = .ok (.getfield 8, 3) := by decide +kernel
theorem dX9_whole_57 : decode cX9_whole 57 = .ok (.iload_n 3, 1) := by decide +kernel
theorem dX9_whole_58 : decode cX9_whole 58 = .ok (.iconst 3, 1) := by decide +kernel
theorem dX9_whole_59 : decode cX9_whole 59 = .ok (.iadd, 1) := by decide +kernel
theorem dX9_whole_60 : decode cX9_whole 60 = .ok (.lload 4, 2) := by decide +kernel
theorem dX9_whole_62 : decode cX9_whole 62 = .ok (.bipush 60, 2) := by decide +kernel
theorem dX9_whole_64 : decode cX9_whole 64 = .ok (.lushr, 1) := by decide +kernel
theorem dX9_whole_65 : decode cX9_whole 65 = .ok (.l2i, 1) := by decide +kernel
theorem dX9_whole_66 : decode cX9_whole 66 = .ok (.iastore, 1) := by decide +kernel
theorem dX9_whole_67 : decode cX9_whole 67 = .ok (.aload_n 0, 1) := by decide +kernel
theorem dX9_whole_68 : decode cX9_whole 68 = .ok (.iload_n 3, 1) := by decide +kernel
theorem dX9_whole_69 : decode cX9_whole 69 = .ok (.iconst 3, 1) := by decide +kernel
theorem dX9_whole_70 : decode cX9_whole 70 = .ok (.lload_n 1, 1) := by decide +kernel
theorem dX9_whole_71 : decode cX9_whole 71 = .ok (.lconst 0, 1) := by decide +kernel
theorem dX9_whole_72 : decode cX9_whole 72 = .ok (.lcmp, 1) := by decide +kernel
theorem dX9_whole_73 : decode cX9_whole 73 = .ok (.ifCond .ge 7, 3) := by decide +kernel
theorem dX9_whole_76 : decode cX9_whole 76 = .ok (.iconst 1, 1) := by decide +kernel
theorem dX9_whole_77 : decode cX9_whole 77 = .ok (.goto 4, 3) := by decide +kernel
theorem dX9_whole_80 : decode cX9_whole 80 = .ok (.iconst 0, 1) := by decide +kernel
theorem dX9_whole_81 : decode cX9_whole 81 = .ok (.invokevirtual 95, 3) := by decide +kernel
theorem dX9_whole_84 : decode cX9_whole 84 = .ok (.ireturn, 1) := by decide +kernel
theorem dX9_copy_0 : decode cX9_copy 0 = .ok (.aload_n 0, 1) := by decide +kernel
theorem dX9_copy_1 : decode cX9_copy 1 = .ok (.iload_n 1, 1) := by decide +kernel
theorem dX9_copy_2 : decode cX9_copy 2 = .ok (.invokevirtual 99, 3) := by decide +kernel
theorem dX9_copy_5 : decode cX9_copy 5 = .ok (.istore_n 2, 1) := by decide +kernel
theorem dX9_copy_6 : decode cX9_copy 6 = .ok (.aload_n 0, 1) := by decide +kernel
theorem dX9_copy_7 : decode cX9_copy 7 = .ok (.iload_n 2, 1) := by decide +kernel
theorem dX9_copy_8 : decode cX9_copy 8 = .ok (.invokevirtual 89, 3) := by decide +kernel
theorem dX9_copy_11 : decode cX9_copy 11 = .ok (.istore_n 3, 1) := by decide +kernel
theorem dX9_copy_12 : decode cX9_copy 12 = .ok (.iconst 0, 1) := by decide +kernel
theorem dX9_copy_13 : decode cX9_copy 13 = .ok (.istore 4, 2) := by decide +kernel
theorem dX9_copy_15 : decode cX9_copy 15 = .ok (.iload 4, 2) := by decide +kernel
theorem dX9_copy_17 : decode cX9_copy 17 = .ok (.iload_n 2, 1) := by decide +kernel
theorem dX9_copy_18 : decode cX9_copy 18 = .ok (.if_icmp .gt 27, 3) := by decide +kernel
theorem dX9_copy_21 : decode cX9_copy 21 = .ok (.aload_n 0, 1) := by decide +kernel
theorem dX9_copy_22 : decode cX9_copy 22 = .ok (.getfield 8, 3) := by decide +kernel
theorem dX9_copy_25 : decode cX9_copy 25 = .ok (.iload_n 3, 1) := by decide +kernel
theorem dX9_copy_26 : decode cX9_copy 26 = .ok (.iload 4, 2) := by decide +kernel
theorem dX9_copy_28 : decode cX9_copy 28 = .ok (.iadd, 1) := by decide +kernel
theorem dX9_copy_29 : decode cX9_copy 29 = .ok (.aload_n 0, 1) := by decide +kernel
theorem dX9_copy_30 : decode cX9_copy 30 = .ok (.getfield 8, 3) := by decide +kernel
theorem dX9_copy_33 : decode cX9_copy 33 = .ok (.iload_n 1, 1) := by decide +kernel
theorem dX9_copy_34 : decode cX9_copy 34 = .ok (.iload 4, 2) := by decide +kernel
theorem dX9_copy_36 : decode cX9_copy 36 = .ok (.iadd, 1) := by decide +kernel
theorem dX9_copy_37 : decode cX9_copy 37 = .ok (.iaload, 1) := by decide +kernel
theorem dX9_copy_38 : decode cX9_copy 38 = .ok (.iastore, 1) := by decide +kernel
theorem dX9_copy_39 : decode cX9_copy 39 = .ok (.iinc 4 1, 3) := by decide +kernel
theorem dX9_copy_42 : decode cX9_copy 42 = .ok (.goto (-27), 3) := by decide +kernel
theorem dX9_copy_45 : decode cX9_copy 45 = .ok (.iload_n 3, 1) := by decide +kernel
theorem dX9_copy_46 : decode cX9_copy 46 = .ok (.ireturn, 1) := by decide +kernel
theorem dX9_turned_0 : decode cX9_turned 0 = .ok (.aload_n 0, 1) := by decide +kernel
theorem dX9_turned_1 : decode cX9_turned 1 = .ok (.iload_n 1, 1) := by decide +kernel
theorem dX9_turned_2 : decode cX9_turned 2 = .ok (.invokevirtual 102, 3) := by decide +kernel
theorem dX9_turned_5 : decode cX9_turned 5 = .ok (.istore_n 2, 1) := by decide +kernel
theorem dX9_turned_6 : decode cX9_turned 6 = .ok (.aload_n 0, 1) := by decide +kernel
theorem dX9_turned_7 : decode cX9_turned 7 = .ok (.getfield 8, 3) := by decide +kernel
theorem dX9_turned_10 : decode cX9_turned 10 = .ok (.iload_n 2, 1) := by decide +kernel
theorem dX9_turned_11 : decode cX9_turned 11 = .ok (.aload_n 0, 1) := by decide +kernel
theorem dX9_turned_12 : decode cX9_turned 12 = .ok (.getfield 8, 3) := by decide +kernel
theorem dX9_turned_15 : decode cX9_turned 15 = .ok (.iload_n 2, 1) := by decide +kernel
theorem dX9_turned_16 : decode cX9_turned 16 = .ok (.iaload, 1) := by decide +kernel
theorem dX9_turned_17 : decode cX9_turned 17 = .ok (.ineg, 1) := by decide +kernel
theorem dX9_turned_18 : decode cX9_turned 18 = .ok (.iastore, 1) := by decide +kernel
theorem dX9_turned_19 : decode cX9_turned 19 = .ok (.iload_n 2, 1) := by decide +kernel
theorem dX9_turned_20 : decode cX9_turned 20 = .ok (.ireturn, 1) := by decide +kernel
theorem dX9_compareSizes_0 : decode cX9_compareSizes 0 = .ok (.aload_n 0, 1) := by decide +kernel
theorem dX9_compareSizes_1 : decode cX9_compareSizes 1 = .ok (.iload_n 1, 1) := by decide +kernel
theorem dX9_compareSizes_2 : decode cX9_compareSizes 2 = .ok (.invokevirtual 99, 3) := by decide +kernel
theorem dX9_compareSizes_5 : decode cX9_compareSizes 5 = .ok (.istore_n 3, 1) := by decide +kernel
theorem dX9_compareSizes_6 : decode cX9_compareSizes 6 = .ok (.iload_n 3, 1) := by decide +kernel
theorem dX9_compareSizes_7 : decode cX9_compareSizes 7 = .ok (.aload_n 0, 1) := by decide +kernel
theorem dX9_compareSizes_8 : decode cX9_compareSizes 8 = .ok (.iload_n 2, 1) := by decide +kernel
theorem dX9_compareSizes_9 : decode cX9_compareSizes 9 = .ok (.invokevirtual 99, 3) := by decide +kernel
theorem dX9_compareSizes_12 : decode cX9_compareSizes 12 = .ok (.if_icmp .eq 18, 3) := by decide +kernel
theorem dX9_compareSizes_15 : decode cX9_compareSizes 15 = .ok (.iload_n 3, 1) := by decide +kernel
theorem dX9_compareSizes_16 : decode cX9_compareSizes 16 = .ok (.aload_n 0, 1) := by decide +kernel
theorem dX9_compareSizes_17 : decode cX9_compareSizes 17 = .ok (.iload_n 2, 1) := by decide +kernel
theorem dX9_compareSizes_18 : decode cX9_compareSizes 18 = .ok (.invokevirtual 99, 3) := by decide +kernel
theorem dX9_compareSizes_21 : decode cX9_compareSizes 21 = .ok (.if_icmp .le 7, 3) := by decide +kernel
theorem dX9_compareSizes_24 : decode cX9_compareSizes 24 = .ok (.iconst 1, 1) := by decide +kernel
theorem dX9_compareSizes_25 : decode cX9_compareSizes 25 = .ok (.goto 4, 3) := by decide +kernel
theorem dX9_compareSizes_28 : decode cX9_compareSizes 28 = .ok (.iconst (-1), 1) := by decide +kernel
theorem dX9_compareSizes_29 : decode cX9_compareSizes 29 = .ok (.ireturn, 1) := by decide +kernel
theorem dX9_compareSizes_30 : decode cX9_compareSizes 30 = .ok (.iload_n 3, 1) := by decide +kernel
theorem dX9_compareSizes_31 : decode cX9_compareSizes 31 = .ok (.istore 4, 2) := by decide +kernel
theorem dX9_compareSizes_33 : decode cX9_compareSizes 33 = .ok (.iload 4, 2) := by decide +kernel
theorem dX9_compareSizes_35 : decode cX9_compareSizes 35 = .ok (.ifCond .le 57, 3) := by decide +kernel
theorem dX9_compareSizes_38 : decode cX9_compareSizes 38 = .ok (.aload_n 0, 1) := by decide +kernel
theorem dX9_compareSizes_39 : decode cX9_compareSizes 39 = .ok (.getfield 8, 3) := by decide +kernel
theorem dX9_compareSizes_42 : decode cX9_compareSizes 42 = .ok (.iload_n 1, 1) := by decide +kernel
theorem dX9_compareSizes_43 : decode cX9_compareSizes 43 = .ok (.iload 4, 2) := by decide +kernel
theorem dX9_compareSizes_45 : decode cX9_compareSizes 45 = .ok (.iadd, 1) := by decide +kernel
theorem dX9_compareSizes_46 : decode cX9_compareSizes 46 = .ok (.iaload, 1) := by decide +kernel
theorem dX9_compareSizes_47 : decode cX9_compareSizes 47 = .ok (.aload_n 0, 1) := by decide +kernel
theorem dX9_compareSizes_48 : decode cX9_compareSizes 48 = .ok (.getfield 8, 3) := by decide +kernel
theorem dX9_compareSizes_51 : decode cX9_compareSizes 51 = .ok (.iload_n 2, 1) := by decide +kernel
theorem dX9_compareSizes_52 : decode cX9_compareSizes 52 = .ok (.iload 4, 2) := by decide +kernel
theorem dX9_compareSizes_54 : decode cX9_compareSizes 54 = .ok (.iadd, 1) := by decide +kernel
theorem dX9_compareSizes_55 : decode cX9_compareSizes 55 = .ok (.iaload, 1) := by decide +kernel
theorem dX9_compareSizes_56 : decode cX9_compareSizes 56 = .ok (.if_icmp .eq 30, 3) := by decide +kernel
theorem dX9_compareSizes_59 : decode cX9_compareSizes 59 = .ok (.aload_n 0, 1) := by decide +kernel
theorem dX9_compareSizes_60 : decode cX9_compareSizes 60 = .ok (.getfield 8, 3) := by decide +kernel
theorem dX9_compareSizes_63 : decode cX9_compareSizes 63 = .ok (.iload_n 1, 1) := by decide +kernel
theorem dX9_compareSizes_64 : decode cX9_compareSizes 64 = .ok (.iload 4, 2) := by decide +kernel
theorem dX9_compareSizes_66 : decode cX9_compareSizes 66 = .ok (.iadd, 1) := by decide +kernel
theorem dX9_compareSizes_67 : decode cX9_compareSizes 67 = .ok (.iaload, 1) := by decide +kernel
theorem dX9_compareSizes_68 : decode cX9_compareSizes 68 = .ok (.aload_n 0, 1) := by decide +kernel
theorem dX9_compareSizes_69 : decode cX9_compareSizes 69 = .ok (.getfield 8, 3) := by decide +kernel
theorem dX9_compareSizes_72 : decode cX9_compareSizes 72 = .ok (.iload_n 2, 1) := by decide +kernel
theorem dX9_compareSizes_73 : decode cX9_compareSizes 73 = .ok (.iload 4, 2) := by decide +kernel
theorem dX9_compareSizes_75 : decode cX9_compareSizes 75 = .ok (.iadd, 1) := by decide +kernel
theorem dX9_compareSizes_76 : decode cX9_compareSizes 76 = .ok (.iaload, 1) := by decide +kernel
theorem dX9_compareSizes_77 : decode cX9_compareSizes 77 = .ok (.if_icmp .le 7, 3) := by decide +kernel
theorem dX9_compareSizes_80 : decode cX9_compareSizes 80 = .ok (.iconst 1, 1) := by decide +kernel
theorem dX9_compareSizes_81 : decode cX9_compareSizes 81 = .ok (.goto 4, 3) := by decide +kernel
theorem dX9_compareSizes_84 : decode cX9_compareSizes 84 = .ok (.iconst (-1), 1) := by decide +kernel
theorem dX9_compareSizes_85 : decode cX9_compareSizes 85 = .ok (.ireturn, 1) := by decide +kernel
theorem dX9_compareSizes_86 : decode cX9_compareSizes 86 = .ok (.iinc 4 (-1), 3) := by decide +kernel
theorem dX9_compareSizes_89 : decode cX9_compareSizes 89 = .ok (.goto (-56), 3) := by decide +kernel
theorem dX9_compareSizes_92 : decode cX9_compareSizes 92 = .ok (.iconst 0, 1) := by decide +kernel
theorem dX9_compareSizes_93 : decode cX9_compareSizes 93 = .ok (.ireturn, 1) := by decide +kernel
theorem dX9_sum_0 : decode cX9_sum 0 = .ok (.aload_n 0, 1) := by decide +kernel
theorem dX9_sum_1 : decode cX9_sum 1 = .ok (.iload_n 1, 1) := by decide +kernel
theorem dX9_sum_2 : decode cX9_sum 2 = .ok (.invokevirtual 105, 3) := by decide +kernel
theorem dX9_sum_5 : decode cX9_sum 5 = .ok (.ifCond .ne 9, 3) := by decide +kernel
theorem dX9_sum_8 : decode cX9_sum 8 = .ok (.aload_n 0, 1) := by decide +kernel
theorem dX9_sum_9 : decode cX9_sum 9 = .ok (.iload_n 2, 1) := by decide +kernel
theorem dX9_sum_10 : decode cX9_sum 10 = .ok (.invokevirtual 102, 3) := by decide +kernel
theorem dX9_sum_13 : decode cX9_sum 13 = .ok (.ireturn, 1) := by decide +kernel
theorem dX9_sum_14 : decode cX9_sum 14 = .ok (.aload_n 0, 1) := by decide +kernel
theorem dX9_sum_15 : decode cX9_sum 15 = .ok (.iload_n 2, 1) := by decide +kernel
theorem dX9_sum_16 : decode cX9_sum 16 = .ok (.invokevirtual 105, 3) := by decide +kernel
theorem dX9_sum_19 : decode cX9_sum 19 = .ok (.ifCond .ne 9, 3) := by decide +kernel
theorem dX9_sum_22 : decode cX9_sum 22 = .ok (.aload_n 0, 1) := by decide +kernel
theorem dX9_sum_23 : decode cX9_sum 23 = .ok (.iload_n 1, 1) := by decide +kernel
theorem dX9_sum_24 : decode cX9_sum 24 = .ok (.invokevirtual 102, 3) := by decide +kernel
theorem dX9_sum_27 : decode cX9_sum 27 = .ok (.ireturn, 1) := by decide +kernel
theorem dX9_sum_28 : decode cX9_sum 28 = .ok (.aload_n 0, 1) := by decide +kernel
theorem dX9_sum_29 : decode cX9_sum 29 = .ok (.iload_n 1, 1) := by decide +kernel
theorem dX9_sum_30 : decode cX9_sum 30 = .ok (.invokevirtual 105, 3) := by decide +kernel
theorem dX9_sum_33 : decode cX9_sum 33 = .ok (.aload_n 0, 1) := by decide +kernel
theorem dX9_sum_34 : decode cX9_sum 34 = .ok (.iload_n 2, 1) := by decide +kernel
theorem dX9_sum_35 : decode cX9_sum 35 = .ok (.invokevirtual 105, 3) := by decide +kernel
theorem dX9_sum_38 : decode cX9_sum 38 = .ok (.if_icmp .ne 139, 3) := by decide +kernel
theorem dX9_sum_41 : decode cX9_sum 41 = .ok (.aload_n 0, 1) := by decide +kernel
theorem dX9_sum_42 : decode cX9_sum 42 = .ok (.iload_n 1, 1) := by decide +kernel
theorem dX9_sum_43 : decode cX9_sum 43 = .ok (.invokevirtual 99, 3) := by decide +kernel
theorem dX9_sum_46 : decode cX9_sum 46 = .ok (.aload_n 0, 1) := by decide +kernel
theorem dX9_sum_47 : decode cX9_sum 47 = .ok (.iload_n 2, 1) := by decide +kernel
theorem dX9_sum_48 : decode cX9_sum 48 = .ok (.invokevirtual 99, 3) := by decide +kernel
theorem dX9_sum_51 : decode cX9_sum 51 = .ok (.invokestatic 108, 3) := by decide +kernel
theorem dX9_sum_54 : decode cX9_sum 54 = .ok (.iconst 1, 1) := by decide +kernel
theorem dX9_sum_55 : decode cX9_sum 55 = .ok (.iadd, 1) := by decide +kernel
theorem dX9_sum_56 : decode cX9_sum 56 = .ok (.istore_n 3, 1) := by decide +kernel
theorem dX9_sum_57 : decode cX9_sum 57 = .ok (.aload_n 0, 1) := by decide +kernel
theorem dX9_sum_58 : decode cX9_sum 58 = .ok (.iload_n 3, 1) := by decide +kernel
theorem dX9_sum_59 : decode cX9_sum 59 = .ok (.invokevirtual 89, 3) := by decide +kernel
theorem dX9_sum_62 : decode cX9_sum 62 = .ok (.istore 4, 2) := by decide +kernel
theorem dX9_sum_64 : decode cX9_sum 64 = .ok (.iconst 0, 1) := by decide +kernel
theorem dX9_sum_65 : decode cX9_sum 65 = .ok (.istore 5, 2) := by decide +kernel
theorem dX9_sum_67 : decode cX9_sum 67 = .ok (.iconst 1, 1) := by decide +kernel
theorem dX9_sum_68 : decode cX9_sum 68 = .ok (.istore 6, 2) := by decide +kernel
theorem dX9_sum_70 : decode cX9_sum 70 = .ok (.iload 6, 2) := by decide +kernel
theorem dX9_sum_72 : decode cX9_sum 72 = .ok (.iload_n 3, 1) := by decide +kernel
theorem dX9_sum_73 : decode cX9_sum 73 = .ok (.if_icmp .gt 83, 3) := by decide +kernel
theorem dX9_sum_76 : decode cX9_sum 76 = .ok (.iload 5, 2) := by decide +kernel
theorem dX9_sum_78 : decode cX9_sum 78 = .ok (.iload 6, 2) := by decide +kernel
theorem dX9_sum_80 : decode cX9_sum 80 = .ok (.aload_n 0, 1) := by decide +kernel
theorem dX9_sum_81 : decode cX9_sum 81 = .ok (.iload_n 1, 1) := by decide +kernel
theorem dX9_sum_82 : decode cX9_sum 82 = .ok (.invokevirtual 99, 3) := by decide +kernel
theorem dX9_sum_85 : decode cX9_sum 85 = .ok (.if_icmp .gt 15, 3) := by decide +kernel
theorem dX9_sum_88 : decode cX9_sum 88 = .ok (.aload_n 0, 1) := by decide +kernel
theorem dX9_sum_89 : decode cX9_sum 89 = .ok (.getfield 8, 3) := by decide +kernel
theorem dX9_sum_92 : decode cX9_sum 92 = .ok (.iload_n 1, 1) := by decide +kernel
theorem dX9_sum_93 : decode cX9_sum 93 = .ok (.iload 6, 2) := by decide +kernel
theorem dX9_sum_95 : decode cX9_sum 95 = .ok (.iadd, 1) := by decide +kernel
theorem dX9_sum_96 : decode cX9_sum 96 = .ok (.iaload, 1) := by decide +kernel
theorem dX9_sum_97 : decode cX9_sum 97 = .ok (.goto 4, 3) := by decide +kernel
theorem dX9_sum_100 : decode cX9_sum 100 = .ok (.iconst 0, 1) := by decide +kernel
theorem dX9_sum_101 : decode cX9_sum 101 = .ok (.iadd, 1) := by decide +kernel
theorem dX9_sum_102 : decode cX9_sum 102 = .ok (.iload 6, 2) := by decide +kernel
theorem dX9_sum_104 : decode cX9_sum 104 = .ok (.aload_n 0, 1) := by decide +kernel
theorem dX9_sum_105 : decode cX9_sum 105 = .ok (.iload_n 2, 1) := by decide +kernel
theorem dX9_sum_106 : decode cX9_sum 106 = .ok (.invokevirtual 99, 3) := by decide +kernel
theorem dX9_sum_109 : decode cX9_sum 109 = .ok (.if_icmp .gt 15, 3) := by decide +kernel
theorem dX9_sum_112 : decode cX9_sum 112 = .ok (.aload_n 0, 1) := by decide +kernel
theorem dX9_sum_113 : decode cX9_sum 113 = .ok (.getfield 8, 3) := by decide +kernel
theorem dX9_sum_116 : decode cX9_sum 116 = .ok (.iload_n 2, 1) := by decide +kernel
theorem dX9_sum_117 : decode cX9_sum 117 = .ok (.iload 6, 2) := by decide +kernel
theorem dX9_sum_119 : decode cX9_sum 119 = .ok (.iadd, 1) := by decide +kernel
theorem dX9_sum_120 : decode cX9_sum 120 = .ok (.iaload, 1) := by decide +kernel
theorem dX9_sum_121 : decode cX9_sum 121 = .ok (.goto 4, 3) := by decide +kernel
theorem dX9_sum_124 : decode cX9_sum 124 = .ok (.iconst 0, 1) := by decide +kernel
theorem dX9_sum_125 : decode cX9_sum 125 = .ok (.iadd, 1) := by decide +kernel
theorem dX9_sum_126 : decode cX9_sum 126 = .ok (.istore 7, 2) := by decide +kernel
theorem dX9_sum_128 : decode cX9_sum 128 = .ok (.aload_n 0, 1) := by decide +kernel
theorem dX9_sum_129 : decode cX9_sum 129 = .ok (.getfield 8, 3) := by decide +kernel
theorem dX9_sum_132 : decode cX9_sum 132 = .ok (.iload 4, 2) := by decide +kernel
theorem dX9_sum_134 : decode cX9_sum 134 = .ok (.iload 6, 2) := by decide +kernel
theorem dX9_sum_136 : decode cX9_sum 136 = .ok (.iadd, 1) := by decide +kernel
theorem dX9_sum_137 : decode cX9_sum 137 = .ok (.iload 7, 2) := by decide +kernel
theorem dX9_sum_139 : decode cX9_sum 139 = .ok (.ldc 114, 2) := by decide +kernel
theorem dX9_sum_141 : decode cX9_sum 141 = .ok (.iand, 1) := by decide +kernel
theorem dX9_sum_142 : decode cX9_sum 142 = .ok (.iastore, 1) := by decide +kernel
theorem dX9_sum_143 : decode cX9_sum 143 = .ok (.iload 7, 2) := by decide +kernel
theorem dX9_sum_145 : decode cX9_sum 145 = .ok (.bipush 30, 2) := by decide +kernel
theorem dX9_sum_147 : decode cX9_sum 147 = .ok (.iushr, 1) := by decide +kernel
theorem dX9_sum_148 : decode cX9_sum 148 = .ok (.istore 5, 2) := by decide +kernel
theorem dX9_sum_150 : decode cX9_sum 150 = .ok (.iinc 6 1, 3) := by decide +kernel
theorem dX9_sum_153 : decode cX9_sum 153 = .ok (.goto (-83), 3) := by decide +kernel
theorem dX9_sum_156 : decode cX9_sum 156 = .ok (.aload_n 0, 1) := by decide +kernel
theorem dX9_sum_157 : decode cX9_sum 157 = .ok (.iload 4, 2) := by decide +kernel
theorem dX9_sum_159 : decode cX9_sum 159 = .ok (.iload_n 3, 1) := by decide +kernel
theorem dX9_sum_160 : decode cX9_sum 160 = .ok (.aload_n 0, 1) := by decide +kernel
theorem dX9_sum_161 : decode cX9_sum 161 = .ok (.iload_n 1, 1) := by decide +kernel
theorem dX9_sum_162 : decode cX9_sum 162 = .ok (.invokevirtual 105, 3) := by decide +kernel
theorem dX9_sum_165 : decode cX9_sum 165 = .ok (.ifCond .ge 7, 3) := by decide +kernel
theorem dX9_sum_168 : decode cX9_sum 168 = .ok (.iconst 1, 1) := by decide +kernel
theorem dX9_sum_169 : decode cX9_sum 169 = .ok (.goto 4, 3) := by decide +kernel
theorem dX9_sum_172 : decode cX9_sum 172 = .ok (.iconst 0, 1) := by decide +kernel
theorem dX9_sum_173 : decode cX9_sum 173 = .ok (.invokevirtual 95, 3) := by decide +kernel
theorem dX9_sum_176 : decode cX9_sum 176 = .ok (.ireturn, 1) := by decide +kernel
theorem dX9_sum_177 : decode cX9_sum 177 = .ok (.aload_n 0, 1) := by decide +kernel
theorem dX9_sum_178 : decode cX9_sum 178 = .ok (.iload_n 1, 1) := by decide +kernel
theorem dX9_sum_179 : decode cX9_sum 179 = .ok (.iload_n 2, 1) := by decide +kernel
theorem dX9_sum_180 : decode cX9_sum 180 = .ok (.invokevirtual 115, 3) := by decide +kernel
theorem dX9_sum_183 : decode cX9_sum 183 = .ok (.istore_n 3, 1) := by decide +kernel
theorem dX9_sum_184 : decode cX9_sum 184 = .ok (.iload_n 3, 1) := by decide +kernel
theorem dX9_sum_185 : decode cX9_sum 185 = .ok (.ifCond .ne 9, 3) := by decide +kernel
theorem dX9_sum_188 : decode cX9_sum 188 = .ok (.aload_n 0, 1) := by decide +kernel
theorem dX9_sum_189 : decode cX9_sum 189 = .ok (.lconst 0, 1) := by decide +kernel
theorem dX9_sum_190 : decode cX9_sum 190 = .ok (.invokevirtual 118, 3) := by decide +kernel
theorem dX9_sum_193 : decode cX9_sum 193 = .ok (.ireturn, 1) := by decide +kernel
theorem dX9_sum_194 : decode cX9_sum 194 = .ok (.iload_n 3, 1) := by decide +kernel
theorem dX9_sum_195 : decode cX9_sum 195 = .ok (.ifCond .le 7, 3) := by decide +kernel
theorem dX9_sum_198 : decode cX9_sum 198 = .ok (.iload_n 1, 1) := by decide +kernel
theorem dX9_sum_199 : decode cX9_sum 199 = .ok (.goto 4, 3) := by decide +kernel
theorem dX9_sum_202 : decode cX9_sum 202 = .ok (.iload_n 2, 1) := by decide +kernel
theorem dX9_sum_203 : decode cX9_sum 203 = .ok (.istore 4, 2) := by decide +kernel
theorem dX9_sum_205 : decode cX9_sum 205 = .ok (.iload_n 3, 1) := by decide +kernel
theorem dX9_sum_206 : decode cX9_sum 206 = .ok (.ifCond .le 7, 3) := by decide +kernel
theorem dX9_sum_209 : decode cX9_sum 209 = .ok (.iload_n 2, 1) := by decide +kernel
theorem dX9_sum_210 : decode cX9_sum 210 = .ok (.goto 4, 3) := by decide +kernel
theorem dX9_sum_213 : decode cX9_sum 213 = .ok (.iload_n 1, 1) := by decide +kernel
theorem dX9_sum_214 : decode cX9_sum 214 = .ok (.istore 5, 2) := by decide +kernel
theorem dX9_sum_216 : decode cX9_sum 216 = .ok (.aload_n 0, 1) := by decide +kernel
theorem dX9_sum_217 : decode cX9_sum 217 = .ok (.iload 4, 2) := by decide +kernel
theorem dX9_sum_219 : decode cX9_sum 219 = .ok (.invokevirtual 99, 3) := by decide +kernel
theorem dX9_sum_222 : decode cX9_sum 222 = .ok (.istore 6, 2) := by decide +kernel
theorem dX9_sum_224 : decode cX9_sum 224 = .ok (.aload_n 0, 1) := by decide +kernel
theorem dX9_sum_225 : decode cX9_sum 225 = .ok (.iload 6, 2) := by decide +kernel
theorem dX9_sum_227 : decode cX9_sum 227 = .ok (.invokevirtual 89, 3) := by decide +kernel
theorem dX9_sum_230 : decode cX9_sum 230 = .ok (.istore 7, 2) := by decide +kernel
theorem dX9_sum_232 : decode cX9_sum 232 = .ok (.iconst 0, 1) := by decide +kernel
theorem dX9_sum_233 : decode cX9_sum 233 = .ok (.istore 8, 2) := by decide +kernel
theorem dX9_sum_235 : decode cX9_sum 235 = .ok (.iconst 1, 1) := by decide +kernel
theorem dX9_sum_236 : decode cX9_sum 236 = .ok (.istore 9, 2) := by decide +kernel
theorem dX9_sum_238 : decode cX9_sum 238 = .ok (.iload 9, 2) := by decide +kernel
theorem dX9_sum_240 : decode cX9_sum 240 = .ok (.iload 6, 2) := by decide +kernel
theorem dX9_sum_242 : decode cX9_sum 242 = .ok (.if_icmp .gt 77, 3) := by decide +kernel
theorem dX9_sum_245 : decode cX9_sum 245 = .ok (.aload_n 0, 1) := by decide +kernel
theorem dX9_sum_246 : decode cX9_sum 246 = .ok (.getfield 8, 3) := by decide +kernel
theorem dX9_sum_249 : decode cX9_sum 249 = .ok (.iload 4, 2) := by decide +kernel
theorem dX9_sum_251 : decode cX9_sum 251 = .ok (.iload 9, 2) := by decide +kernel
theorem dX9_sum_253 : decode cX9_sum 253 = .ok (.iadd, 1) := by decide +kernel
theorem dX9_sum_254 : decode cX9_sum 254 = .ok (.iaload, 1) := by decide +kernel
theorem dX9_sum_255 : decode cX9_sum 255 = .ok (.iload 8, 2) := by decide +kernel
theorem dX9_sum_257 : decode cX9_sum 257 = .ok (.isub, 1) := by decide +kernel
theorem dX9_sum_258 : decode cX9_sum 258 = .ok (.iload 9, 2) := by decide +kernel
theorem dX9_sum_260 : decode cX9_sum 260 = .ok (.aload_n 0, 1) := by decide +kernel
theorem dX9_sum_261 : decode cX9_sum 261 = .ok (.iload 5, 2) := by decide +kernel
theorem dX9_sum_263 : decode cX9_sum 263 = .ok (.invokevirtual 99, 3) := by decide +kernel
theorem dX9_sum_266 : decode cX9_sum 266 = .ok (.if_icmp .gt 16, 3) := by decide +kernel
theorem dX9_sum_269 : decode cX9_sum 269 = .ok (.aload_n 0, 1) := by decide +kernel
theorem dX9_sum_270 : decode cX9_sum 270 = .ok (.getfield 8, 3) := by decide +kernel
theorem dX9_sum_273 : decode cX9_sum 273 = .ok (.iload 5, 2) := by decide +kernel
theorem dX9_sum_275 : decode cX9_sum 275 = .ok (.iload 9, 2) := by decide +kernel
theorem dX9_sum_277 : decode cX9_sum 277 = .ok (.iadd, 1) := by decide +kernel
theorem dX9_sum_278 : decode cX9_sum 278 = .ok (.iaload, 1) := by decide +kernel
theorem dX9_sum_279 : decode cX9_sum 279 = .ok (.goto 4, 3) := by decide +kernel
theorem dX9_sum_282 : decode cX9_sum 282 = .ok (.iconst 0, 1) := by decide +kernel
theorem dX9_sum_283 : decode cX9_sum 283 = .ok (.isub, 1) := by decide +kernel
theorem dX9_sum_284 : decode cX9_sum 284 = .ok (.istore 10, 2) := by decide +kernel
theorem dX9_sum_286 : decode cX9_sum 286 = .ok (.iload 10, 2) := by decide +kernel
theorem dX9_sum_288 : decode cX9_sum 288 = .ok (.ifCond .ge 7, 3) := by decide +kernel
theorem dX9_sum_291 : decode cX9_sum 291 = .ok (.iconst 1, 1) := by decide +kernel
theorem dX9_sum_292 : decode cX9_sum 292 = .ok (.goto 4, 3) := by decide +kernel
theorem dX9_sum_295 : decode cX9_sum 295 = .ok (.iconst 0, 1) := by decide +kernel
theorem dX9_sum_296 : decode cX9_sum 296 = .ok (.istore 8, 2) := by decide +kernel
theorem dX9_sum_298 : decode cX9_sum 298 = .ok (.aload_n 0, 1) := by decide +kernel
theorem dX9_sum_299 : decode cX9_sum 299 = .ok (.getfield 8, 3) := by decide +kernel
theorem dX9_sum_302 : decode cX9_sum 302 = .ok (.iload 7, 2) := by decide +kernel
theorem dX9_sum_304 : decode cX9_sum 304 = .ok (.iload 9, 2) := by decide +kernel
theorem dX9_sum_306 : decode cX9_sum 306 = .ok (.iadd, 1) := by decide +kernel
theorem dX9_sum_307 : decode cX9_sum 307 = .ok (.iload 10, 2) := by decide +kernel
theorem dX9_sum_309 : decode cX9_sum 309 = .ok (.ldc 114, 2) := by decide +kernel
theorem dX9_sum_311 : decode cX9_sum 311 = .ok (.iand, 1) := by decide +kernel
theorem dX9_sum_312 : decode cX9_sum 312 = .ok (.iastore, 1) := by decide +kernel
theorem dX9_sum_313 : decode cX9_sum 313 = .ok (.iinc 9 1, 3) := by decide +kernel
theorem dX9_sum_316 : decode cX9_sum 316 = .ok (.goto (-78), 3) := by decide +kernel
theorem dX9_sum_319 : decode cX9_sum 319 = .ok (.aload_n 0, 1) := by decide +kernel
theorem dX9_sum_320 : decode cX9_sum 320 = .ok (.iload 7, 2) := by decide +kernel
theorem dX9_sum_322 : decode cX9_sum 322 = .ok (.iload 6, 2) := by decide +kernel
theorem dX9_sum_324 : decode cX9_sum 324 = .ok (.aload_n 0, 1) := by decide +kernel
theorem dX9_sum_325 : decode cX9_sum 325 = .ok (.iload 4, 2) := by decide +kernel
theorem dX9_sum_327 : decode cX9_sum 327 = .ok (.invokevirtual 105, 3) := by decide +kernel
theorem dX9_sum_330 : decode cX9_sum 330 = .ok (.ifCond .ge 7, 3) := by decide +kernel
theorem dX9_sum_333 : decode cX9_sum 333 = .ok (.iconst 1, 1) := by decide +kernel
theorem dX9_sum_334 : decode cX9_sum 334 = .ok (.goto 4, 3) := by decide +kernel
theorem dX9_sum_337 : decode cX9_sum 337 = .ok (.iconst 0, 1) := by decide +kernel
theorem dX9_sum_338 : decode cX9_sum 338 = .ok (.invokevirtual 95, 3) := by decide +kernel
theorem dX9_sum_341 : decode cX9_sum 341 = .ok (.ireturn, 1) := by decide +kernel
theorem dX9_less_0 : decode cX9_less 0 = .ok (.aload_n 0, 1) := by decide +kernel
theorem dX9_less_1 : decode cX9_less 1 = .ok (.iload_n 1, 1) := by decide +kernel
theorem dX9_less_2 : decode cX9_less 2 = .ok (.aload_n 0, 1) := by decide +kernel
theorem dX9_less_3 : decode cX9_less 3 = .ok (.iload_n 2, 1) := by decide +kernel
theorem dX9_less_4 : decode cX9_less 4 = .ok (.invokevirtual 122, 3) := by decide +kernel
theorem dX9_less_7 : decode cX9_less 7 = .ok (.invokevirtual 125, 3) := by decide +kernel
theorem dX9_less_10 : decode cX9_less 10 = .ok (.ireturn, 1) := by decide +kernel
theorem dX9_times_0 : decode cX9_times 0 = .ok (.aload_n 0, 1) := by decide +kernel
theorem dX9_times_1 : decode cX9_times 1 = .ok (.iload_n 1, 1) := by decide +kernel
theorem dX9_times_2 : decode cX9_times 2 = .ok (.invokevirtual 105, 3) := by decide +kernel
theorem dX9_times_5 : decode cX9_times 5 = .ok (.ifCond .eq 11, 3) := by decide +kernel
theorem dX9_times_8 : decode cX9_times 8 = .ok (.aload_n 0, 1) := by decide +kernel
theorem dX9_times_9 : decode cX9_times 9 = .ok (.iload_n 2, 1) := by decide +kernel
theorem dX9_times_10 : decode cX9_times 10 = .ok (.invokevirtual 105, 3) := by decide +kernel
theorem dX9_times_13 : decode cX9_times 13 = .ok (.ifCond .ne 9, 3) := by decide +kernel
theorem dX9_times_16 : decode cX9_times 16 = .ok (.aload_n 0, 1) := by decide +kernel
theorem dX9_times_17 : decode cX9_times 17 = .ok (.lconst 0, 1) := by decide +kernel
theorem dX9_times_18 : decode cX9_times 18 = .ok (.invokevirtual 118, 3) := by decide +kernel
theorem dX9_times_21 : decode cX9_times 21 = .ok (.ireturn, 1) := by decide +kernel
theorem dX9_times_22 : decode cX9_times 22 = .ok (.aload_n 0, 1) := by decide +kernel
theorem dX9_times_23 : decode cX9_times 23 = .ok (.iload_n 1, 1) := by decide +kernel
theorem dX9_times_24 : decode cX9_times 24 = .ok (.invokevirtual 99, 3) := by decide +kernel
theorem dX9_times_27 : decode cX9_times 27 = .ok (.istore_n 3, 1) := by decide +kernel
theorem dX9_times_28 : decode cX9_times 28 = .ok (.aload_n 0, 1) := by decide +kernel
theorem dX9_times_29 : decode cX9_times 29 = .ok (.iload_n 2, 1) := by decide +kernel
theorem dX9_times_30 : decode cX9_times 30 = .ok (.invokevirtual 99, 3) := by decide +kernel
theorem dX9_times_33 : decode cX9_times 33 = .ok (.istore 4, 2) := by decide +kernel
theorem dX9_times_35 : decode cX9_times 35 = .ok (.aload_n 0, 1) := by decide +kernel
theorem dX9_times_36 : decode cX9_times 36 = .ok (.iload_n 3, 1) := by decide +kernel
theorem dX9_times_37 : decode cX9_times 37 = .ok (.iload 4, 2) := by decide +kernel
theorem dX9_times_39 : decode cX9_times 39 = .ok (.iadd, 1) := by decide +kernel
theorem dX9_times_40 : decode cX9_times 40 = .ok (.invokevirtual 89, 3) := by decide +kernel
theorem dX9_times_43 : decode cX9_times 43 = .ok (.istore 5, 2) := by decide +kernel
theorem dX9_times_45 : decode cX9_times 45 = .ok (.iconst 1, 1) := by decide +kernel
theorem dX9_times_46 : decode cX9_times 46 = .ok (.istore 6, 2) := by decide +kernel
theorem dX9_times_48 : decode cX9_times 48 = .ok (.iload 6, 2) := by decide +kernel
theorem dX9_times_50 : decode cX9_times 50 = .ok (.iload_n 3, 1) := by decide +kernel
theorem dX9_times_51 : decode cX9_times 51 = .ok (.iload 4, 2) := by decide +kernel
theorem dX9_times_53 : decode cX9_times 53 = .ok (.iadd, 1) := by decide +kernel
theorem dX9_times_54 : decode cX9_times 54 = .ok (.if_icmp .gt 20, 3) := by decide +kernel
theorem dX9_times_57 : decode cX9_times 57 = .ok (.aload_n 0, 1) := by decide +kernel
theorem dX9_times_58 : decode cX9_times 58 = .ok (.getfield 8, 3) := by decide +kernel
theorem dX9_times_61 : decode cX9_times 61 = .ok (.iload 5, 2) := by decide +kernel
theorem dX9_times_63 : decode cX9_times 63 = .ok (.iload 6, 2) := by decide +kernel
theorem dX9_times_65 : decode cX9_times 65 = .ok (.iadd, 1) := by decide +kernel
theorem dX9_times_66 : decode cX9_times 66 = .ok (.iconst 0, 1) := by decide +kernel
theorem dX9_times_67 : decode cX9_times 67 = .ok (.iastore, 1) := by decide +kernel
theorem dX9_times_68 : decode cX9_times 68 = .ok (.iinc 6 1, 3) := by decide +kernel
theorem dX9_times_71 : decode cX9_times 71 = .ok (.goto (-23), 3) := by decide +kernel
theorem dX9_times_74 : decode cX9_times 74 = .ok (.iconst 1, 1) := by decide +kernel
theorem dX9_times_75 : decode cX9_times 75 = .ok (.istore 6, 2) := by decide +kernel
theorem dX9_times_77 : decode cX9_times 77 = .ok (.iload 6, 2) := by decide +kernel
theorem dX9_times_79 : decode cX9_times 79 = .ok (.iload_n 3, 1) := by decide +kernel
theorem dX9_times_80 : decode cX9_times 80 = .ok (.if_icmp .gt 120, 3) := by decide +kernel
theorem dX9_times_83 : decode cX9_times 83 = .ok (.lconst 0, 1) := by decide +kernel
theorem dX9_times_84 : decode cX9_times 84 = .ok (.lstore 7, 2) := by decide +kernel
theorem dX9_times_86 : decode cX9_times 86 = .ok (.aload_n 0, 1) := by decide +kernel
theorem dX9_times_87 : decode cX9_times 87 = .ok (.getfield 8, 3) := by decide +kernel
theorem dX9_times_90 : decode cX9_times 90 = .ok (.iload_n 1, 1) := by decide +kernel
theorem dX9_times_91 : decode cX9_times 91 = .ok (.iload 6, 2) := by decide +kernel
theorem dX9_times_93 : decode cX9_times 93 = .ok (.iadd, 1) := by decide +kernel
theorem dX9_times_94 : decode cX9_times 94 = .ok (.iaload, 1) := by decide +kernel
theorem dX9_times_95 : decode cX9_times 95 = .ok (.i2l, 1) := by decide +kernel
theorem dX9_times_96 : decode cX9_times 96 = .ok (.lstore 9, 2) := by decide +kernel
theorem dX9_times_98 : decode cX9_times 98 = .ok (.iconst 1, 1) := by decide +kernel
theorem dX9_times_99 : decode cX9_times 99 = .ok (.istore 11, 2) := by decide +kernel
theorem dX9_times_101 : decode cX9_times 101 = .ok (.iload 11, 2) := by decide +kernel
theorem dX9_times_103 : decode cX9_times 103 = .ok (.iload 4, 2) := by decide +kernel
theorem dX9_times_105 : decode cX9_times 105 = .ok (.if_icmp .gt 73, 3) := by decide +kernel
theorem dX9_times_108 : decode cX9_times 108 = .ok (.lload 7, 2) := by decide +kernel
theorem dX9_times_110 : decode cX9_times 110 = .ok (.lload 9, 2) := by decide +kernel
theorem dX9_times_112 : decode cX9_times 112 = .ok (.aload_n 0, 1) := by decide +kernel
theorem dX9_times_113 : decode cX9_times 113 = .ok (.getfield 8, 3) := by decide +kernel
theorem dX9_times_116 : decode cX9_times 116 = .ok (.iload_n 2, 1) := by decide +kernel
theorem dX9_times_117 : decode cX9_times 117 = .ok (.iload 11, 2) := by decide +kernel
theorem dX9_times_119 : decode cX9_times 119 = .ok (.iadd, 1) := by decide +kernel
theorem dX9_times_120 : decode cX9_times 120 = .ok (.iaload, 1) := by decide +kernel
theorem dX9_times_121 : decode cX9_times 121 = .ok (.i2l, 1) := by decide +kernel
theorem dX9_times_122 : decode cX9_times 122 = .ok (.lmul, 1) := by decide +kernel
theorem dX9_times_123 : decode cX9_times 123 = .ok (.aload_n 0, 1) := by decide +kernel
theorem dX9_times_124 : decode cX9_times 124 = .ok (.getfield 8, 3) := by decide +kernel
theorem dX9_times_127 : decode cX9_times 127 = .ok (.iload 5, 2) := by decide +kernel
theorem dX9_times_129 : decode cX9_times 129 = .ok (.iload 6, 2) := by decide +kernel
theorem dX9_times_131 : decode cX9_times 131 = .ok (.iadd, 1) := by decide +kernel
theorem dX9_times_132 : decode cX9_times 132 = .ok (.iload 11, 2) := by decide +kernel
theorem dX9_times_134 : decode cX9_times 134 = .ok (.iadd, 1) := by decide +kernel
theorem dX9_times_135 : decode cX9_times 135 = .ok (.iconst 1, 1) := by decide +kernel
theorem dX9_times_136 : decode cX9_times 136 = .ok (.isub, 1) := by decide +kernel
theorem dX9_times_137 : decode cX9_times 137 = .ok (.iaload, 1) := by decide +kernel
theorem dX9_times_138 : decode cX9_times 138 = .ok (.i2l, 1) := by decide +kernel
theorem dX9_times_139 : decode cX9_times 139 = .ok (.ladd, 1) := by decide +kernel
theorem dX9_times_140 : decode cX9_times 140 = .ok (.ladd, 1) := by decide +kernel
theorem dX9_times_141 : decode cX9_times 141 = .ok (.lstore 7, 2) := by decide +kernel
theorem dX9_times_143 : decode cX9_times 143 = .ok (.aload_n 0, 1) := by decide +kernel
theorem dX9_times_144 : decode cX9_times 144 = .ok (.getfield 8, 3) := by decide +kernel
theorem dX9_times_147 : decode cX9_times 147 = .ok (.iload 5, 2) := by decide +kernel
theorem dX9_times_149 : decode cX9_times 149 = .ok (.iload 6, 2) := by decide +kernel
theorem dX9_times_151 : decode cX9_times 151 = .ok (.iadd, 1) := by decide +kernel
theorem dX9_times_152 : decode cX9_times 152 = .ok (.iload 11, 2) := by decide +kernel
theorem dX9_times_154 : decode cX9_times 154 = .ok (.iadd, 1) := by decide +kernel
theorem dX9_times_155 : decode cX9_times 155 = .ok (.iconst 1, 1) := by decide +kernel
theorem dX9_times_156 : decode cX9_times 156 = .ok (.isub, 1) := by decide +kernel
theorem dX9_times_157 : decode cX9_times 157 = .ok (.lload 7, 2) := by decide +kernel
theorem dX9_times_159 : decode cX9_times 159 = .ok (.ldc2_w 93, 3) := by decide +kernel
theorem dX9_times_162 : decode cX9_times 162 = .ok (.land, 1) := by decide +kernel
theorem dX9_times_163 : decode cX9_times 163 = .ok (.l2i, 1) := by decide +kernel
theorem dX9_times_164 : decode cX9_times 164 = .ok (.iastore, 1) := by decide +kernel
theorem dX9_times_165 : decode cX9_times 165 = .ok (.lload 7, 2) := by decide +kernel
theorem dX9_times_167 : decode cX9_times 167 = .ok (.bipush 30, 2) := by decide +kernel
theorem dX9_times_169 : decode cX9_times 169 = .ok (.lushr, 1) := by decide +kernel
theorem dX9_times_170 : decode cX9_times 170 = .ok (.lstore 7, 2) := by decide +kernel
theorem dX9_times_172 : decode cX9_times 172 = .ok (.iinc 11 1, 3) := by decide +kernel
theorem dX9_times_175 : decode cX9_times 175 = .ok (.goto (-74), 3) := by decide +kernel
theorem dX9_times_178 : decode cX9_times 178 = .ok (.aload_n 0, 1) := by decide +kernel
theorem dX9_times_179 : decode cX9_times 179 = .ok (.getfield 8, 3) := by decide +kernel
theorem dX9_times_182 : decode cX9_times 182 = .ok (.iload 5, 2) := by decide +kernel
theorem dX9_times_184 : decode cX9_times 184 = .ok (.iload 6, 2) := by decide +kernel
theorem dX9_times_186 : decode cX9_times 186 = .ok (.iadd, 1) := by decide +kernel
theorem dX9_times_187 : decode cX9_times 187 = .ok (.iload 4, 2) := by decide +kernel
theorem dX9_times_189 : decode cX9_times 189 = .ok (.iadd, 1) := by decide +kernel
theorem dX9_times_190 : decode cX9_times 190 = .ok (.lload 7, 2) := by decide +kernel
theorem dX9_times_192 : decode cX9_times 192 = .ok (.l2i, 1) := by decide +kernel
theorem dX9_times_193 : decode cX9_times 193 = .ok (.iastore, 1) := by decide +kernel
theorem dX9_times_194 : decode cX9_times 194 = .ok (.iinc 6 1, 3) := by decide +kernel
theorem dX9_times_197 : decode cX9_times 197 = .ok (.goto (-120), 3) := by decide +kernel
theorem dX9_times_200 : decode cX9_times 200 = .ok (.aload_n 0, 1) := by decide +kernel
theorem dX9_times_201 : decode cX9_times 201 = .ok (.iload 5, 2) := by decide +kernel
theorem dX9_times_203 : decode cX9_times 203 = .ok (.iload_n 3, 1) := by decide +kernel
theorem dX9_times_204 : decode cX9_times 204 = .ok (.iload 4, 2) := by decide +kernel
theorem dX9_times_206 : decode cX9_times 206 = .ok (.iadd, 1) := by decide +kernel
theorem dX9_times_207 : decode cX9_times 207 = .ok (.aload_n 0, 1) := by decide +kernel
theorem dX9_times_208 : decode cX9_times 208 = .ok (.iload_n 1, 1) := by decide +kernel
theorem dX9_times_209 : decode cX9_times 209 = .ok (.invokevirtual 105, 3) := by decide +kernel
theorem dX9_times_212 : decode cX9_times 212 = .ok (.aload_n 0, 1) := by decide +kernel
theorem dX9_times_213 : decode cX9_times 213 = .ok (.iload_n 2, 1) := by decide +kernel
theorem dX9_times_214 : decode cX9_times 214 = .ok (.invokevirtual 105, 3) := by decide +kernel
theorem dX9_times_217 : decode cX9_times 217 = .ok (.if_icmp .eq 7, 3) := by decide +kernel
theorem dX9_times_220 : decode cX9_times 220 = .ok (.iconst 1, 1) := by decide +kernel
theorem dX9_times_221 : decode cX9_times 221 = .ok (.goto 4, 3) := by decide +kernel
theorem dX9_times_224 : decode cX9_times 224 = .ok (.iconst 0, 1) := by decide +kernel
theorem dX9_times_225 : decode cX9_times 225 = .ok (.invokevirtual 95, 3) := by decide +kernel
theorem dX9_times_228 : decode cX9_times 228 = .ok (.ireturn, 1) := by decide +kernel
theorem dX9_divide_0 : decode cX9_divide 0 = .ok (.aload_n 0, 1) := by decide +kernel
theorem dX9_divide_1 : decode cX9_divide 1 = .ok (.iload_n 1, 1) := by decide +kernel
theorem dX9_divide_2 : decode cX9_divide 2 = .ok (.invokevirtual 99, 3) := by decide +kernel
theorem dX9_divide_5 : decode cX9_divide 5 = .ok (.istore_n 3, 1) := by decide +kernel
theorem dX9_divide_6 : decode cX9_divide 6 = .ok (.aload_n 0, 1) := by decide +kernel
theorem dX9_divide_7 : decode cX9_divide 7 = .ok (.iload_n 2, 1) := by decide +kernel
theorem dX9_divide_8 : decode cX9_divide 8 = .ok (.invokevirtual 99, 3) := by decide +kernel
theorem dX9_divide_11 : decode cX9_divide 11 = .ok (.istore 4, 2) := by decide +kernel
theorem dX9_divide_13 : decode cX9_divide 13 = .ok (.iconst 0, 1) := by decide +kernel
theorem dX9_divide_14 : decode cX9_divide 14 = .ok (.istore 5, 2) := by decide +kernel
theorem dX9_divide_16 : decode cX9_divide 16 = .ok (.iload 5, 2) := by decide +kernel
theorem dX9_divide_18 : decode cX9_divide 18 = .ok (.iload_n 3, 1) := by decide +kernel
theorem dX9_divide_19 : decode cX9_divide 19 = .ok (.if_icmp .ge 27, 3) := by decide +kernel
theorem dX9_divide_22 : decode cX9_divide 22 = .ok (.aload_n 0, 1) := by decide +kernel
theorem dX9_divide_23 : decode cX9_divide 23 = .ok (.getfield 14, 3) := by decide +kernel
theorem dX9_divide_26 : decode cX9_divide 26 = .ok (.iload 5, 2) := by decide +kernel
theorem dX9_divide_28 : decode cX9_divide 28 = .ok (.aload_n 0, 1) := by decide +kernel
theorem dX9_divide_29 : decode cX9_divide 29 = .ok (.getfield 8, 3) := by decide +kernel
theorem dX9_divide_32 : decode cX9_divide 32 = .ok (.iload_n 1, 1) := by decide +kernel
theorem dX9_divide_33 : decode cX9_divide 33 = .ok (.iconst 1, 1) := by decide +kernel
theorem dX9_divide_34 : decode cX9_divide 34 = .ok (.iadd, 1) := by decide +kernel
theorem dX9_divide_35 : decode cX9_divide 35 = .ok (.iload 5, 2) := by decide +kernel
theorem dX9_divide_37 : decode cX9_divide 37 = .ok (.iadd, 1) := by decide +kernel
theorem dX9_divide_38 : decode cX9_divide 38 = .ok (.iaload, 1) := by decide +kernel
theorem dX9_divide_39 : decode cX9_divide 39 = .ok (.iastore, 1) := by decide +kernel
theorem dX9_divide_40 : decode cX9_divide 40 = .ok (.iinc 5 1, 3) := by decide +kernel
theorem dX9_divide_43 : decode cX9_divide 43 = .ok (.goto (-27), 3) := by decide +kernel
theorem dX9_divide_46 : decode cX9_divide 46 = .ok (.aload_n 0, 1) := by decide +kernel
theorem dX9_divide_47 : decode cX9_divide 47 = .ok (.iload_n 3, 1) := by decide +kernel
theorem dX9_divide_48 : decode cX9_divide 48 = .ok (.putfield 128, 3) := by decide +kernel
theorem dX9_divide_51 : decode cX9_divide 51 = .ok (.aload_n 0, 1) := by decide +kernel
theorem dX9_divide_52 : decode cX9_divide 52 = .ok (.iconst 0, 1) := by decide +kernel
theorem dX9_divide_53 : decode cX9_divide 53 = .ok (.putfield 131, 3) := by decide +kernel
theorem dX9_divide_56 : decode cX9_divide 56 = .ok (.aload_n 0, 1) := by decide +kernel
theorem dX9_divide_57 : decode cX9_divide 57 = .ok (.iload_n 1, 1) := by decide +kernel
theorem dX9_divide_58 : decode cX9_divide 58 = .ok (.iload_n 2, 1) := by decide +kernel
theorem dX9_divide_59 : decode cX9_divide 59 = .ok (.invokevirtual 115, 3) := by decide +kernel
theorem dX9_divide_62 : decode cX9_divide 62 = .ok (.ifCond .ge 4, 3) := by decide +kernel
theorem dX9_divide_65 : decode cX9_divide 65 = .ok (.return_, 1) := by decide +kernel
theorem dX9_divide_66 : decode cX9_divide 66 = .ok (.iload 4, 2) := by decide +kernel
theorem dX9_divide_68 : decode cX9_divide 68 = .ok (.iconst 1, 1) := by decide +kernel
theorem dX9_divide_69 : decode cX9_divide 69 = .ok (.if_icmp .ne 16, 3) := by decide +kernel
theorem dX9_divide_72 : decode cX9_divide 72 = .ok (.aload_n 0, 1) := by decide +kernel
theorem dX9_divide_73 : decode cX9_divide 73 = .ok (.aload_n 0, 1) := by decide +kernel
theorem dX9_divide_74 : decode cX9_divide 74 = .ok (.getfield 8, 3) := by decide +kernel
theorem dX9_divide_77 : decode cX9_divide 77 = .ok (.iload_n 2, 1) := by decide +kernel
theorem dX9_divide_78 : decode cX9_divide 78 = .ok (.iconst 1, 1) := by decide +kernel
theorem dX9_divide_79 : decode cX9_divide 79 = .ok (.iadd, 1) := by decide +kernel
theorem dX9_divide_80 : decode cX9_divide 80 = .ok (.iaload, 1) := by decide +kernel
theorem dX9_divide_81 : decode cX9_divide 81 = .ok (.invokevirtual 134, 3) := by decide +kernel
theorem dX9_divide_84 : decode cX9_divide 84 = .ok (.return_, 1) := by decide +kernel
theorem dX9_divide_85 : decode cX9_divide 85 = .ok (.iconst 0, 1) := by decide +kernel
theorem dX9_divide_86 : decode cX9_divide 86 = .ok (.istore 5, 2) := by decide +kernel
theorem dX9_divide_88 : decode cX9_divide 88 = .ok (.aload_n 0, 1) := by decide +kernel
theorem dX9_divide_89 : decode cX9_divide 89 = .ok (.getfield 8, 3) := by decide +kernel
theorem dX9_divide_92 : decode cX9_divide 92 = .ok (.iload_n 2, 1) := by decide +kernel
theorem dX9_divide_93 : decode cX9_divide 93 = .ok (.iload 4, 2) := by decide +kernel
theorem dX9_divide_95 : decode cX9_divide 95 = .ok (.iadd, 1) := by decide +kernel
theorem dX9_divide_96 : decode cX9_divide 96 = .ok (.iaload, 1) := by decide +kernel
theorem dX9_divide_97 : decode cX9_divide 97 = .ok (.iload 5, 2) := by decide +kernel
theorem dX9_divide_99 : decode cX9_divide 99 = .ok (.ishl, 1) := by decide +kernel
theorem dX9_divide_100 : decode cX9_divide 100 = .ok (.ldc 138, 2) := by decide +kernel
theorem dX9_divide_102 : decode cX9_divide 102 = .ok (.if_icmp .ge 9, 3) := by decide +kernel
theorem dX9_divide_105 : decode cX9_divide 105 = .ok (.iinc 5 1, 3) := by decide +kernel
theorem dX9_divide_108 : decode cX9_divide 108 = .ok (.goto (-20), 3) := by decide +kernel
theorem dX9_divide_111 : decode cX9_divide 111 = .ok (.iconst 0, 1) := by decide +kernel
theorem dX9_divide_112 : decode cX9_divide 112 = .ok (.istore 6, 2) := by decide +kernel
theorem dX9_divide_114 : decode cX9_divide 114 = .ok (.iload 6, 2) := by decide +kernel
theorem dX9_divide_116 : decode cX9_divide 116 = .ok (.iload 4, 2) := by decide +kernel
theorem dX9_divide_118 : decode cX9_divide 118 = .ok (.if_icmp .ge 63, 3) := by decide +kernel
theorem dX9_divide_121 : decode cX9_divide 121 = .ok (.aload_n 0, 1) := by decide +kernel
theorem dX9_divide_122 : decode cX9_divide 122 = .ok (.getfield 17, 3) := by decide +kernel
theorem dX9_divide_125 : decode cX9_divide 125 = .ok (.iload 6, 2) := by decide +kernel
theorem dX9_divide_127 : decode cX9_divide 127 = .ok (.aload_n 0, 1) := by decide +kernel
theorem dX9_divide_128 : decode cX9_divide 128 = .ok (.getfield 8, 3) := by decide +kernel
theorem dX9_divide_131 : decode cX9_divide 131 = .ok (.iload_n 2, 1) := by decide +kernel
theorem dX9_divide_132 : decode cX9_divide 132 = .ok (.iconst 1, 1) := by decide +kernel
theorem dX9_divide_133 : decode cX9_divide 133 = .ok (.iadd, 1) := by decide +kernel
theorem dX9_divide_134 : decode cX9_divide 134 = .ok (.iload 6, 2) := by decide +kernel
theorem dX9_divide_136 : decode cX9_divide 136 = .ok (.iadd, 1) := by decide +kernel
theorem dX9_divide_137 : decode cX9_divide 137 = .ok (.iaload, 1) := by decide +kernel
theorem dX9_divide_138 : decode cX9_divide 138 = .ok (.iload 5, 2) := by decide +kernel
theorem dX9_divide_140 : decode cX9_divide 140 = .ok (.ishl, 1) := by decide +kernel
theorem dX9_divide_141 : decode cX9_divide 141 = .ok (.ldc 114, 2) := by decide +kernel
theorem dX9_divide_143 : decode cX9_divide 143 = .ok (.iand, 1) := by decide +kernel
theorem dX9_divide_144 : decode cX9_divide 144 = .ok (.iload 6, 2) := by decide +kernel
theorem dX9_divide_146 : decode cX9_divide 146 = .ok (.ifCond .le 26, 3) := by decide +kernel
theorem dX9_divide_149 : decode cX9_divide 149 = .ok (.iload 5, 2) := by decide +kernel
theorem dX9_divide_151 : decode cX9_divide 151 = .ok (.ifCond .le 21, 3) := by decide +kernel
theorem dX9_divide_154 : decode cX9_divide 154 = .ok (.aload_n 0, 1) := by decide +kernel
theorem dX9_divide_155 : decode cX9_divide 155 = .ok (.getfield 8, 3) := by decide +kernel
theorem dX9_divide_158 : decode cX9_divide 158 = .ok (.iload_n 2, 1) := by decide +kernel
theorem dX9_divide_159 : decode cX9_divide 159 = .ok (.iload 6, 2) := by decide +kernel
theorem dX9_divide_161 : decode cX9_divide 161 = .ok (.iadd, 1) := by decide +kernel
theorem dX9_divide_162 : decode cX9_divide 162 = .ok (.iaload, 1) := by decide +kernel
theorem dX9_divide_163 : decode cX9_divide 163 = .ok (.bipush 30, 2) := by decide +kernel
theorem dX9_divide_165 : decode cX9_divide 165 = .ok (.iload 5, 2) := by decide +kernel
theorem dX9_divide_167 : decode cX9_divide 167 = .ok (.isub, 1) := by decide +kernel
theorem dX9_divide_168 : decode cX9_divide 168 = .ok (.ishr, 1) := by decide +kernel
theorem dX9_divide_169 : decode cX9_divide 169 = .ok (.goto 4, 3) := by decide +kernel
theorem dX9_divide_172 : decode cX9_divide 172 = .ok (.iconst 0, 1) := by decide +kernel
theorem dX9_divide_173 : decode cX9_divide 173 = .ok (.ior, 1) := by decide +kernel
theorem dX9_divide_174 : decode cX9_divide 174 = .ok (.iastore, 1) := by decide +kernel
theorem dX9_divide_175 : decode cX9_divide 175 = .ok (.iinc 6 1, 3) := by decide +kernel
theorem dX9_divide_178 : decode cX9_divide 178 = .ok (.goto (-64), 3) := by decide +kernel
theorem dX9_divide_181 : decode cX9_divide 181 = .ok (.aload_n 0, 1) := by decide +kernel
theorem dX9_divide_182 : decode cX9_divide 182 = .ok (.getfield 14, 3) := by decide +kernel
theorem dX9_divide_185 : decode cX9_divide 185 = .ok (.iload_n 3, 1) := by decide +kernel
theorem dX9_divide_186 : decode cX9_divide 186 = .ok (.iload 5, 2) := by decide +kernel
theorem dX9_divide_188 : decode cX9_divide 188 = .ok (.ifCond .le 20, 3) := by decide +kernel
theorem dX9_divide_191 : decode cX9_divide 191 = .ok (.aload_n 0, 1) := by decide +kernel
theorem dX9_divide_192 : decode cX9_divide 192 = .ok (.getfield 14, 3) := by decide +kernel
theorem dX9_divide_195 : decode cX9_divide 195 = .ok (.iload_n 3, 1) := by decide +kernel
theorem dX9_divide_196 : decode cX9_divide 196 = .ok (.iconst 1, 1) := by decide +kernel
theorem dX9_divide_197 : decode cX9_divide 197 = .ok (.isub, 1) := by decide +kernel
theorem dX9_divide_198 : decode cX9_divide 198 = .ok (.iaload, 1) := by decide +kernel
theorem dX9_divide_199 : decode cX9_divide 199 = .ok (.bipush 30, 2) := by decide +kernel
theorem dX9_divide_201 : decode cX9_divide 201 = .ok (.iload 5, 2) := by decide +kernel
theorem dX9_divide_203 : decode cX9_divide 203 = .ok (.isub, 1) := by decide +kernel
theorem dX9_divide_204 : decode cX9_divide 204 = .ok (.ishr, 1) := by decide +kernel
theorem dX9_divide_205 : decode cX9_divide 205 = .ok (.goto 4, 3) := by decide +kernel
theorem dX9_divide_208 : decode cX9_divide 208 = .ok (.iconst 0, 1) := by decide +kernel
theorem dX9_divide_209 : decode cX9_divide 209 = .ok (.iastore, 1) := by decide +kernel
theorem dX9_divide_210 : decode cX9_divide 210 = .ok (.iload_n 3, 1) := by decide +kernel
theorem dX9_divide_211 : decode cX9_divide 211 = .ok (.iconst 1, 1) := by decide +kernel
theorem dX9_divide_212 : decode cX9_divide 212 = .ok (.isub, 1) := by decide +kernel
theorem dX9_divide_213 : decode cX9_divide 213 = .ok (.istore 6, 2) := by decide +kernel
theorem dX9_divide_215 : decode cX9_divide 215 = .ok (.iload 6, 2) := by decide +kernel
theorem dX9_divide_217 : decode cX9_divide 217 = .ok (.ifCond .lt 59, 3) := by decide +kernel
theorem dX9_divide_220 : decode cX9_divide 220 = .ok (.aload_n 0, 1) := by decide +kernel
theorem dX9_divide_221 : decode cX9_divide 221 = .ok (.getfield 14, 3) := by decide +kernel
theorem dX9_divide_224 : decode cX9_divide 224 = .ok (.iload 6, 2) := by decide +kernel
theorem dX9_divide_226 : decode cX9_divide 226 = .ok (.aload_n 0, 1) := by decide +kernel
theorem dX9_divide_227 : decode cX9_divide 227 = .ok (.getfield 14, 3) := by decide +kernel
theorem dX9_divide_230 : decode cX9_divide 230 = .ok (.iload 6, 2) := by decide +kernel
theorem dX9_divide_232 : decode cX9_divide 232 = .ok (.iaload, 1) := by decide +kernel
theorem dX9_divide_233 : decode cX9_divide 233 = .ok (.iload 5, 2) := by decide +kernel
theorem dX9_divide_235 : decode cX9_divide 235 = .ok (.ishl, 1) := by decide +kernel
theorem dX9_divide_236 : decode cX9_divide 236 = .ok (.ldc 114, 2) := by decide +kernel
theorem dX9_divide_238 : decode cX9_divide 238 = .ok (.iand, 1) := by decide +kernel
theorem dX9_divide_239 : decode cX9_divide 239 = .ok (.iload 6, 2) := by decide +kernel
theorem dX9_divide_241 : decode cX9_divide 241 = .ok (.ifCond .le 26, 3) := by decide +kernel
theorem dX9_divide_244 : decode cX9_divide 244 = .ok (.iload 5, 2) := by decide +kernel
theorem dX9_divide_246 : decode cX9_divide 246 = .ok (.ifCond .le 21, 3) := by decide +kernel
theorem dX9_divide_249 : decode cX9_divide 249 = .ok (.aload_n 0, 1) := by decide +kernel
theorem dX9_divide_250 : decode cX9_divide 250 = .ok (.getfield 14, 3) := by decide +kernel
theorem dX9_divide_253 : decode cX9_divide 253 = .ok (.iload 6, 2) := by decide +kernel
theorem dX9_divide_255 : decode cX9_divide 255 = .ok (.iconst 1, 1) := by decide +kernel
theorem dX9_divide_256 : decode cX9_divide 256 = .ok (.isub, 1) := by decide +kernel
theorem dX9_divide_257 : decode cX9_divide 257 = .ok (.iaload, 1) := by decide +kernel
theorem dX9_divide_258 : decode cX9_divide 258 = .ok (.bipush 30, 2) := by decide +kernel
theorem dX9_divide_260 : decode cX9_divide 260 = .ok (.iload 5, 2) := by decide +kernel
theorem dX9_divide_262 : decode cX9_divide 262 = .ok (.isub, 1) := by decide +kernel
theorem dX9_divide_263 : decode cX9_divide 263 = .ok (.ishr, 1) := by decide +kernel
theorem dX9_divide_264 : decode cX9_divide 264 = .ok (.goto 4, 3) := by decide +kernel
theorem dX9_divide_267 : decode cX9_divide 267 = .ok (.iconst 0, 1) := by decide +kernel
theorem dX9_divide_268 : decode cX9_divide 268 = .ok (.ior, 1) := by decide +kernel
theorem dX9_divide_269 : decode cX9_divide 269 = .ok (.iastore, 1) := by decide +kernel
theorem dX9_divide_270 : decode cX9_divide 270 = .ok (.iinc 6 (-1), 3) := by decide +kernel
theorem dX9_divide_273 : decode cX9_divide 273 = .ok (.goto (-58), 3) := by decide +kernel
theorem dX9_divide_276 : decode cX9_divide 276 = .ok (.aload_n 0, 1) := by decide +kernel
theorem dX9_divide_277 : decode cX9_divide 277 = .ok (.iload_n 3, 1) := by decide +kernel
theorem dX9_divide_278 : decode cX9_divide 278 = .ok (.iload 4, 2) := by decide +kernel
theorem dX9_divide_280 : decode cX9_divide 280 = .ok (.isub, 1) := by decide +kernel
