theorem dX0_init_0 : decode cX0_init 0 = .ok (.aload_n 0, 1) := by decide +kernel
theorem dX0_init_1 : decode cX0_init 1 = .ok (.invokespecial 3, 3) := by decide +kernel
theorem dX0_init_4 : decode cX0_init 4 = .ok (.aload_n 0, 1) := by decide +kernel
theorem dX0_init_5 : decode cX0_init 5 = .ok (.bipush 12, 2) := by decide +kernel
theorem dX0_init_7 : decode cX0_init 7 = .ok (.newarray .long, 2) := by decide +kernel
theorem dX0_init_9 : decode cX0_init 9 = .ok (.putfield 9, 3) := by decide +kernel
theorem dX0_init_12 : decode cX0_init 12 = .ok (.aload_n 0, 1) := by decide +kernel
theorem dX0_init_13 : decode cX0_init 13 = .ok (.iconst 0, 1) := by decide +kernel
theorem dX0_init_14 : decode cX0_init 14 = .ok (.putfield 13, 3) := by decide +kernel
theorem dX0_init_17 : decode cX0_init 17 = .ok (.aload_n 0, 1) := by decide +kernel
theorem dX0_init_18 : decode cX0_init 18 = .ok (.iconst 0, 1) := by decide +kernel
theorem dX0_init_19 : decode cX0_init 19 = .ok (.putfield 17, 3) := by decide +kernel
theorem dX0_init_22 : decode cX0_init 22 = .ok (.return_, 1) := by decide +kernel
theorem dX0_isZero_0 : decode cX0_isZero 0 = .ok (.aload_n 0, 1) := by decide +kernel
theorem dX0_isZero_1 : decode cX0_isZero 1 = .ok (.getfield 13, 3) := by decide +kernel
theorem dX0_isZero_4 : decode cX0_isZero 4 = .ok (.ifCond .ne 7, 3) := by decide +kernel
theorem dX0_isZero_7 : decode cX0_isZero 7 = .ok (.iconst 1, 1) := by decide +kernel
theorem dX0_isZero_8 : decode cX0_isZero 8 = .ok (.goto 4, 3) := by decide +kernel
theorem dX0_isZero_11 : decode cX0_isZero 11 = .ok (.iconst 0, 1) := by decide +kernel
theorem dX0_isZero_12 : decode cX0_isZero 12 = .ok (.ireturn, 1) := by decide +kernel
theorem dX0_copy_0 : decode cX0_copy 0 = .ok (.aload_n 0, 1) := by decide +kernel
theorem dX0_copy_1 : decode cX0_copy 1 = .ok (.aload_n 1, 1) := by decide +kernel
theorem dX0_copy_2 : decode cX0_copy 2 = .ok (.getfield 13, 3) := by decide +kernel
theorem dX0_copy_5 : decode cX0_copy 5 = .ok (.putfield 13, 3) := by decide +kernel
theorem dX0_copy_8 : decode cX0_copy 8 = .ok (.aload_n 0, 1) := by decide +kernel
theorem dX0_copy_9 : decode cX0_copy 9 = .ok (.aload_n 1, 1) := by decide +kernel
theorem dX0_copy_10 : decode cX0_copy 10 = .ok (.getfield 17, 3) := by decide +kernel
theorem dX0_copy_13 : decode cX0_copy 13 = .ok (.putfield 17, 3) := by decide +kernel
theorem dX0_copy_16 : decode cX0_copy 16 = .ok (.iconst 0, 1) := by decide +kernel
theorem dX0_copy_17 : decode cX0_copy 17 = .ok (.istore_n 2, 1) := by decide +kernel
theorem dX0_copy_18 : decode cX0_copy 18 = .ok (.iload_n 2, 1) := by decide +kernel
theorem dX0_copy_19 : decode cX0_copy 19 = .ok (.aload_n 0, 1) := by decide +kernel
theorem dX0_copy_20 : decode cX0_copy 20 = .ok (.getfield 13, 3) := by decide +kernel
theorem dX0_copy_23 : decode cX0_copy 23 = .ok (.if_icmp .ge 21, 3) := by decide +kernel
theorem dX0_copy_26 : decode cX0_copy 26 = .ok (.aload_n 0, 1) := by decide +kernel
theorem dX0_copy_27 : decode cX0_copy 27 = .ok (.getfield 9, 3) := by decide +kernel
theorem dX0_copy_30 : decode cX0_copy 30 = .ok (.iload_n 2, 1) := by decide +kernel
theorem dX0_copy_31 : decode cX0_copy 31 = .ok (.aload_n 1, 1) := by decide +kernel
theorem dX0_copy_32 : decode cX0_copy 32 = .ok (.getfield 9, 3) := by decide +kernel
theorem dX0_copy_35 : decode cX0_copy 35 = .ok (.iload_n 2, 1) := by decide +kernel
theorem dX0_copy_36 : decode cX0_copy 36 = .ok (.laload, 1) := by decide +kernel
theorem dX0_copy_37 : decode cX0_copy 37 = .ok (.lastore, 1) := by decide +kernel
theorem dX0_copy_38 : decode cX0_copy 38 = .ok (.iinc 2 1, 3) := by decide +kernel
theorem dX0_copy_41 : decode cX0_copy 41 = .ok (.goto (-23), 3) := by decide +kernel
theorem dX0_copy_44 : decode cX0_copy 44 = .ok (.return_, 1) := by decide +kernel
theorem dX0_setTo_0 : decode cX0_setTo 0 = .ok (.lload_n 1, 1) := by decide +kernel
theorem dX0_setTo_1 : decode cX0_setTo 1 = .ok (.invokestatic 21, 3) := by decide +kernel
theorem dX0_setTo_4 : decode cX0_setTo 4 = .ok (.lstore_n 3, 1) := by decide +kernel
theorem dX0_setTo_5 : decode cX0_setTo 5 = .ok (.aload_n 0, 1) := by decide +kernel
theorem dX0_setTo_6 : decode cX0_setTo 6 = .ok (.lload_n 1, 1) := by decide +kernel
theorem dX0_setTo_7 : decode cX0_setTo 7 = .ok (.lconst 0, 1) := by decide +kernel
theorem dX0_setTo_8 : decode cX0_setTo 8 = .ok (.lcmp, 1) := by decide +kernel
theorem dX0_setTo_9 : decode cX0_setTo 9 = .ok (.ifCond .ge 7, 3) := by decide +kernel
theorem dX0_setTo_12 : decode cX0_setTo 12 = .ok (.iconst 1, 1) := by decide +kernel
theorem dX0_setTo_13 : decode cX0_setTo 13 = .ok (.goto 4, 3) := by decide +kernel
theorem dX0_setTo_16 : decode cX0_setTo 16 = .ok (.iconst 0, 1) := by decide +kernel
theorem dX0_setTo_17 : decode cX0_setTo 17 = .ok (.putfield 17, 3) := by decide +kernel
theorem dX0_setTo_20 : decode cX0_setTo 20 = .ok (.aload_n 0, 1) := by decide +kernel
theorem dX0_setTo_21 : decode cX0_setTo 21 = .ok (.iconst 0, 1) := by decide +kernel
theorem dX0_setTo_22 : decode cX0_setTo 22 = .ok (.putfield 13, 3) := by decide +kernel
theorem dX0_setTo_25 : decode cX0_setTo 25 = .ok (.aload_n 0, 1) := by decide +kernel
theorem dX0_setTo_26 : decode cX0_setTo 26 = .ok (.getfield 13, 3) := by decide +kernel
theorem dX0_setTo_29 : decode cX0_setTo 29 = .ok (.bipush 12, 2) := by decide +kernel
theorem dX0_setTo_31 : decode cX0_setTo 31 = .ok (.if_icmp .ge 41, 3) := by decide +kernel
theorem dX0_setTo_34 : decode cX0_setTo 34 = .ok (.lload_n 3, 1) := by decide +kernel
theorem dX0_setTo_35 : decode cX0_setTo 35 = .ok (.lconst 0, 1) := by decide +kernel
theorem dX0_setTo_36 : decode cX0_setTo 36 = .ok (.lcmp, 1) := by decide +kernel
theorem dX0_setTo_37 : decode cX0_setTo 37 = .ok (.ifCond .le 35, 3) := by decide +kernel
theorem dX0_setTo_40 : decode cX0_setTo 40 = .ok (.aload_n 0, 1) := by decide +kernel
theorem dX0_setTo_41 : decode cX0_setTo 41 = .ok (.getfield 9, 3) := by decide +kernel
theorem dX0_setTo_44 : decode cX0_setTo 44 = .ok (.aload_n 0, 1) := by decide +kernel
theorem dX0_setTo_45 : decode cX0_setTo 45 = .ok (.getfield 13, 3) := by decide +kernel
theorem dX0_setTo_48 : decode cX0_setTo 48 = .ok (.lload_n 3, 1) := by decide +kernel
theorem dX0_setTo_49 : decode cX0_setTo 49 = .ok (.ldc2_w 27, 3) := by decide +kernel
theorem dX0_setTo_52 : decode cX0_setTo 52 = .ok (.land, 1) := by decide +kernel
theorem dX0_setTo_53 : decode cX0_setTo 53 = .ok (.lastore, 1) := by decide +kernel
theorem dX0_setTo_54 : decode cX0_setTo 54 = .ok (.lload_n 3, 1) := by decide +kernel
theorem dX0_setTo_55 : decode cX0_setTo 55 = .ok (.bipush 27, 2) := by decide +kernel
theorem dX0_setTo_57 : decode cX0_setTo 57 = .ok (.lshr, 1) := by decide +kernel
theorem dX0_setTo_58 : decode cX0_setTo 58 = .ok (.lstore_n 3, 1) := by decide +kernel
theorem dX0_setTo_59 : decode cX0_setTo 59 = .ok (.aload_n 0, 1) := by decide +kernel
theorem dX0_setTo_60 : decode cX0_setTo 60 = .ok (.dup, 1) := by decide +kernel
theorem dX0_setTo_61 : decode cX0_setTo 61 = .ok (.getfield 13, 3) := by decide +kernel
theorem dX0_setTo_64 : decode cX0_setTo 64 = .ok (.iconst 1, 1) := by decide +kernel
theorem dX0_setTo_65 : decode cX0_setTo 65 = .ok (.iadd, 1) := by decide +kernel
theorem dX0_setTo_66 : decode cX0_setTo 66 = .ok (.putfield 13, 3) := by decide +kernel
theorem dX0_setTo_69 : decode cX0_setTo 69 = .ok (.goto (-44), 3) := by decide +kernel
theorem dX0_setTo_72 : decode cX0_setTo 72 = .ok (.return_, 1) := by decide +kernel
theorem dX0_toLong_0 : decode cX0_toLong 0 = .ok (.aload_n 0, 1) := by decide +kernel
theorem dX0_toLong_1 : decode cX0_toLong 1 = .ok (.getfield 13, 3) := by decide +kernel
theorem dX0_toLong_4 : decode cX0_toLong 4 = .ok (.ifCond .le 12, 3) := by decide +kernel
theorem dX0_toLong_7 : decode cX0_toLong 7 = .ok (.aload_n 0, 1) := by decide +kernel
theorem dX0_toLong_8 : decode cX0_toLong 8 = .ok (.getfield 9, 3) := by decide +kernel
theorem dX0_toLong_11 : decode cX0_toLong 11 = .ok (.iconst 0, 1) := by decide +kernel
theorem dX0_toLong_12 : decode cX0_toLong 12 = .ok (.laload, 1) := by decide +kernel
theorem dX0_toLong_13 : decode cX0_toLong 13 = .ok (.goto 4, 3) := by decide +kernel
theorem dX0_toLong_16 : decode cX0_toLong 16 = .ok (.lconst 0, 1) := by decide +kernel
theorem dX0_toLong_17 : decode cX0_toLong 17 = .ok (.lstore_n 1, 1) := by decide +kernel
theorem dX0_toLong_18 : decode cX0_toLong 18 = .ok (.aload_n 0, 1) := by decide +kernel
theorem dX0_toLong_19 : decode cX0_toLong 19 = .ok (.getfield 13, 3) := by decide +kernel
theorem dX0_toLong_22 : decode cX0_toLong 22 = .ok (.iconst 1, 1) := by decide +kernel
theorem dX0_toLong_23 : decode cX0_toLong 23 = .ok (.if_icmp .le 17, 3) := by decide +kernel
theorem dX0_toLong_26 : decode cX0_toLong 26 = .ok (.aload_n 0, 1) := by decide +kernel
theorem dX0_toLong_27 : decode cX0_toLong 27 = .ok (.getfield 9, 3) := by decide +kernel
theorem dX0_toLong_30 : decode cX0_toLong 30 = .ok (.iconst 1, 1) := by decide +kernel
theorem dX0_toLong_31 : decode cX0_toLong 31 = .ok (.laload, 1) := by decide +kernel
theorem dX0_toLong_32 : decode cX0_toLong 32 = .ok (.bipush 27, 2) := by decide +kernel
theorem dX0_toLong_34 : decode cX0_toLong 34 = .ok (.lshl, 1) := by decide +kernel
theorem dX0_toLong_35 : decode cX0_toLong 35 = .ok (.lload_n 1, 1) := by decide +kernel
theorem dX0_toLong_36 : decode cX0_toLong 36 = .ok (.ladd, 1) := by decide +kernel
theorem dX0_toLong_37 : decode cX0_toLong 37 = .ok (.goto 4, 3) := by decide +kernel
theorem dX0_toLong_40 : decode cX0_toLong 40 = .ok (.lload_n 1, 1) := by decide +kernel
theorem dX0_toLong_41 : decode cX0_toLong 41 = .ok (.lreturn, 1) := by decide +kernel
theorem dX0_trim_0 : decode cX0_trim 0 = .ok (.aload_n 0, 1) := by decide +kernel
theorem dX0_trim_1 : decode cX0_trim 1 = .ok (.iload_n 1, 1) := by decide +kernel
theorem dX0_trim_2 : decode cX0_trim 2 = .ok (.bipush 12, 2) := by decide +kernel
theorem dX0_trim_4 : decode cX0_trim 4 = .ok (.invokestatic 29, 3) := by decide +kernel
theorem dX0_trim_7 : decode cX0_trim 7 = .ok (.putfield 13, 3) := by decide +kernel
theorem dX0_trim_10 : decode cX0_trim 10 = .ok (.aload_n 0, 1) := by decide +kernel
theorem dX0_trim_11 : decode cX0_trim 11 = .ok (.getfield 13, 3) := by decide +kernel
theorem dX0_trim_14 : decode cX0_trim 14 = .ok (.ifCond .le 32, 3) := by decide +kernel
theorem dX0_trim_17 : decode cX0_trim 17 = .ok (.aload_n 0, 1) := by decide +kernel
theorem dX0_trim_18 : decode cX0_trim 18 = .ok (.getfield 9, 3) := by decide +kernel
theorem dX0_trim_21 : decode cX0_trim 21 = .ok (.aload_n 0, 1) := by decide +kernel
theorem dX0_trim_22 : decode cX0_trim 22 = .ok (.getfield 13, 3) := by decide +kernel
theorem dX0_trim_25 : decode cX0_trim 25 = .ok (.iconst 1, 1) := by decide +kernel
theorem dX0_trim_26 : decode cX0_trim 26 = .ok (.isub, 1) := by decide +kernel
theorem dX0_trim_27 : decode cX0_trim 27 = .ok (.laload, 1) := by decide +kernel
theorem dX0_trim_28 : decode cX0_trim 28 = .ok (.lconst 0, 1) := by decide +kernel
theorem dX0_trim_29 : decode cX0_trim 29 = .ok (.lcmp, 1) := by decide +kernel
theorem dX0_trim_30 : decode cX0_trim 30 = .ok (.ifCond .ne 16, 3) := by decide +kernel
theorem dX0_trim_33 : decode cX0_trim 33 = .ok (.aload_n 0, 1) := by decide +kernel
theorem dX0_trim_34 : decode cX0_trim 34 = .ok (.dup, 1) := by decide +kernel
theorem dX0_trim_35 : decode cX0_trim 35 = .ok (.getfield 13, 3) := by decide +kernel
theorem dX0_trim_38 : decode cX0_trim 38 = .ok (.iconst 1, 1) := by decide +kernel
theorem dX0_trim_39 : decode cX0_trim 39 = .ok (.isub, 1) := by decide +kernel
theorem dX0_trim_40 : decode cX0_trim 40 = .ok (.putfield 13, 3) := by decide +kernel
theorem dX0_trim_43 : decode cX0_trim 43 = .ok (.goto (-33), 3) := by decide +kernel
theorem dX0_trim_46 : decode cX0_trim 46 = .ok (.aload_n 0, 1) := by decide +kernel
theorem dX0_trim_47 : decode cX0_trim 47 = .ok (.getfield 13, 3) := by decide +kernel
theorem dX0_trim_50 : decode cX0_trim 50 = .ok (.ifCond .ne 8, 3) := by decide +kernel
theorem dX0_trim_53 : decode cX0_trim 53 = .ok (.aload_n 0, 1) := by decide +kernel
theorem dX0_trim_54 : decode cX0_trim 54 = .ok (.iconst 0, 1) := by decide +kernel
theorem dX0_trim_55 : decode cX0_trim 55 = .ok (.putfield 17, 3) := by decide +kernel
theorem dX0_trim_58 : decode cX0_trim 58 = .ok (.return_, 1) := by decide +kernel
theorem dX0_divide_0 : decode cX0_divide 0 = .ok (.lload_n 1, 1) := by decide +kernel
theorem dX0_divide_1 : decode cX0_divide 1 = .ok (.lconst 1, 1) := by decide +kernel
theorem dX0_divide_2 : decode cX0_divide 2 = .ok (.lcmp, 1) := by decide +kernel
theorem dX0_divide_3 : decode cX0_divide 3 = .ok (.ifCond .le 11, 3) := by decide +kernel
theorem dX0_divide_6 : decode cX0_divide 6 = .ok (.lload_n 1, 1) := by decide +kernel
theorem dX0_divide_7 : decode cX0_divide 7 = .ok (.ldc2_w 33, 3) := by decide +kernel
theorem dX0_divide_10 : decode cX0_divide 10 = .ok (.lcmp, 1) := by decide +kernel
theorem dX0_divide_11 : decode cX0_divide 11 = .ok (.ifCond .lt 5, 3) := by decide +kernel
theorem dX0_divide_14 : decode cX0_divide 14 = .ok (.lconst 0, 1) := by decide +kernel
theorem dX0_divide_15 : decode cX0_divide 15 = .ok (.lreturn, 1) := by decide +kernel
theorem dX0_divide_16 : decode cX0_divide 16 = .ok (.lload_n 1, 1) := by decide +kernel
theorem dX0_divide_17 : decode cX0_divide 17 = .ok (.ldc2_w 35, 3) := by decide +kernel
theorem dX0_divide_20 : decode cX0_divide 20 = .ok (.lcmp, 1) := by decide +kernel
theorem dX0_divide_21 : decode cX0_divide 21 = .ok (.ifCond .ge 8, 3) := by decide +kernel
theorem dX0_divide_24 : decode cX0_divide 24 = .ok (.bipush 27, 2) := by decide +kernel
theorem dX0_divide_26 : decode cX0_divide 26 = .ok (.goto 5, 3) := by decide +kernel
theorem dX0_divide_29 : decode cX0_divide 29 = .ok (.bipush 9, 2) := by decide +kernel
theorem dX0_divide_31 : decode cX0_divide 31 = .ok (.istore_n 3, 1) := by decide +kernel
theorem dX0_divide_32 : decode cX0_divide 32 = .ok (.lconst 1, 1) := by decide +kernel
theorem dX0_divide_33 : decode cX0_divide 33 = .ok (.iload_n 3, 1) := by decide +kernel
theorem dX0_divide_34 : decode cX0_divide 34 = .ok (.lshl, 1) := by decide +kernel
theorem dX0_divide_35 : decode cX0_divide 35 = .ok (.lconst 1, 1) := by decide +kernel
theorem dX0_divide_36 : decode cX0_divide 36 = .ok (.lsub, 1) := by decide +kernel
theorem dX0_divide_37 : decode cX0_divide 37 = .ok (.lstore 4, 2) := by decide +kernel
theorem dX0_divide_39 : decode cX0_divide 39 = .ok (.lconst 0, 1) := by decide +kernel
theorem dX0_divide_40 : decode cX0_divide 40 = .ok (.lstore 6, 2) := by decide +kernel
theorem dX0_divide_42 : decode cX0_divide 42 = .ok (.aload_n 0, 1) := by decide +kernel
theorem dX0_divide_43 : decode cX0_divide 43 = .ok (.getfield 13, 3) := by decide +kernel
theorem dX0_divide_46 : decode cX0_divide 46 = .ok (.iconst 1, 1) := by decide +kernel
theorem dX0_divide_47 : decode cX0_divide 47 = .ok (.isub, 1) := by decide +kernel
theorem dX0_divide_48 : decode cX0_divide 48 = .ok (.istore 8, 2) := by decide +kernel
theorem dX0_divide_50 : decode cX0_divide 50 = .ok (.iload 8, 2) := by decide +kernel
theorem dX0_divide_52 : decode cX0_divide 52 = .ok (.ifCond .lt 89, 3) := by decide +kernel
theorem dX0_divide_55 : decode cX0_divide 55 = .ok (.aload_n 0, 1) := by decide +kernel
theorem dX0_divide_56 : decode cX0_divide 56 = .ok (.getfield 9, 3) := by decide +kernel
theorem dX0_divide_59 : decode cX0_divide 59 = .ok (.iload 8, 2) := by decide +kernel
theorem dX0_divide_61 : decode cX0_divide 61 = .ok (.laload, 1) := by decide +kernel
theorem dX0_divide_62 : decode cX0_divide 62 = .ok (.lstore 9, 2) := by decide +kernel
theorem dX0_divide_64 : decode cX0_divide 64 = .ok (.lconst 0, 1) := by decide +kernel
theorem dX0_divide_65 : decode cX0_divide 65 = .ok (.lstore 11, 2) := by decide +kernel
theorem dX0_divide_67 : decode cX0_divide 67 = .ok (.bipush 27, 2) := by decide +kernel
theorem dX0_divide_69 : decode cX0_divide 69 = .ok (.iload_n 3, 1) := by decide +kernel
theorem dX0_divide_70 : decode cX0_divide 70 = .ok (.isub, 1) := by decide +kernel
theorem dX0_divide_71 : decode cX0_divide 71 = .ok (.istore 13, 2) := by decide +kernel
theorem dX0_divide_73 : decode cX0_divide 73 = .ok (.iload 13, 2) := by decide +kernel
theorem dX0_divide_75 : decode cX0_divide 75 = .ok (.ifCond .lt 51, 3) := by decide +kernel
theorem dX0_divide_78 : decode cX0_divide 78 = .ok (.lload 6, 2) := by decide +kernel
theorem dX0_divide_80 : decode cX0_divide 80 = .ok (.iload_n 3, 1) := by decide +kernel
theorem dX0_divide_81 : decode cX0_divide 81 = .ok (.lshl, 1) := by decide +kernel
theorem dX0_divide_82 : decode cX0_divide 82 = .ok (.lload 9, 2) := by decide +kernel
theorem dX0_divide_84 : decode cX0_divide 84 = .ok (.iload 13, 2) := by decide +kernel
theorem dX0_divide_86 : decode cX0_divide 86 = .ok (.lshr, 1) := by decide +kernel
theorem dX0_divide_87 : decode cX0_divide 87 = .ok (.lload 4, 2) := by decide +kernel
theorem dX0_divide_89 : decode cX0_divide 89 = .ok (.land, 1) := by decide +kernel
theorem dX0_divide_90 : decode cX0_divide 90 = .ok (.ladd, 1) := by decide +kernel
theorem dX0_divide_91 : decode cX0_divide 91 = .ok (.lstore 14, 2) := by decide +kernel
theorem dX0_divide_93 : decode cX0_divide 93 = .ok (.lload 14, 2) := by decide +kernel
theorem dX0_divide_95 : decode cX0_divide 95 = .ok (.lload_n 1, 1) := by decide +kernel
theorem dX0_divide_96 : decode cX0_divide 96 = .ok (.ldiv, 1) := by decide +kernel
theorem dX0_divide_97 : decode cX0_divide 97 = .ok (.lstore 16, 2) := by decide +kernel
theorem dX0_divide_99 : decode cX0_divide 99 = .ok (.lload 14, 2) := by decide +kernel
theorem dX0_divide_101 : decode cX0_divide 101 = .ok (.lload 16, 2) := by decide +kernel
theorem dX0_divide_103 : decode cX0_divide 103 = .ok (.lload_n 1, 1) := by decide +kernel
theorem dX0_divide_104 : decode cX0_divide 104 = .ok (.lmul, 1) := by decide +kernel
theorem dX0_divide_105 : decode cX0_divide 105 = .ok (.lsub, 1) := by decide +kernel
theorem dX0_divide_106 : decode cX0_divide 106 = .ok (.lstore 6, 2) := by decide +kernel
theorem dX0_divide_108 : decode cX0_divide 108 = .ok (.lload 11, 2) := by decide +kernel
theorem dX0_divide_110 : decode cX0_divide 110 = .ok (.iload_n 3, 1) := by decide +kernel
theorem dX0_divide_111 : decode cX0_divide 111 = .ok (.lshl, 1) := by decide +kernel
theorem dX0_divide_112 : decode cX0_divide 112 = .ok (.lload 16, 2) := by decide +kernel
theorem dX0_divide_114 : decode cX0_divide 114 = .ok (.ladd, 1) := by decide +kernel
theorem dX0_divide_115 : decode cX0_divide 115 = .ok (.lstore 11, 2) := by decide +kernel
theorem dX0_divide_117 : decode cX0_divide 117 = .ok (.iload 13, 2) := by decide +kernel
theorem dX0_divide_119 : decode cX0_divide 119 = .ok (.iload_n 3, 1) := by decide +kernel
theorem dX0_divide_120 : decode cX0_divide 120 = .ok (.isub, 1) := by decide +kernel
theorem dX0_divide_121 : decode cX0_divide 121 = .ok (.istore 13, 2) := by decide +kernel
theorem dX0_divide_123 : decode cX0_divide 123 = .ok (.goto (-50), 3) := by decide +kernel
theorem dX0_divide_126 : decode cX0_divide 126 = .ok (.aload_n 0, 1) := by decide +kernel
theorem dX0_divide_127 : decode cX0_divide 127 = .ok (.getfield 9, 3) := by decide +kernel
theorem dX0_divide_130 : decode cX0_divide 130 = .ok (.iload 8, 2) := by decide +kernel
theorem dX0_divide_132 : decode cX0_divide 132 = .ok (.lload 11, 2) := by decide +kernel
theorem dX0_divide_134 : decode cX0_divide 134 = .ok (.lastore, 1) := by decide +kernel
theorem dX0_divide_135 : decode cX0_divide 135 = .ok (.iinc 8 (-1), 3) := by decide +kernel
theorem dX0_divide_138 : decode cX0_divide 138 = .ok (.goto (-88), 3) := by decide +kernel
theorem dX0_divide_141 : decode cX0_divide 141 = .ok (.aload_n 0, 1) := by decide +kernel
theorem dX0_divide_142 : decode cX0_divide 142 = .ok (.aload_n 0, 1) := by decide +kernel
theorem dX0_divide_143 : decode cX0_divide 143 = .ok (.getfield 13, 3) := by decide +kernel
theorem dX0_divide_146 : decode cX0_divide 146 = .ok (.invokevirtual 37, 3) := by decide +kernel
theorem dX0_divide_149 : decode cX0_divide 149 = .ok (.lload 6, 2) := by decide +kernel
theorem dX0_divide_151 : decode cX0_divide 151 = .ok (.lreturn, 1) := by decide +kernel
theorem dX0_compareSize_0 : decode cX0_compareSize 0 = .ok (.aload_n 0, 1) := by decide +kernel
theorem dX0_compareSize_1 : decode cX0_compareSize 1 = .ok (.getfield 13, 3) := by decide +kernel
theorem dX0_compareSize_4 : decode cX0_compareSize 4 = .ok (.aload_n 1, 1) := by decide +kernel
theorem dX0_compareSize_5 : decode cX0_compareSize 5 = .ok (.getfield 13, 3) := by decide +kernel
theorem dX0_compareSize_8 : decode cX0_compareSize 8 = .ok (.if_icmp .eq 20, 3) := by decide +kernel
theorem dX0_compareSize_11 : decode cX0_compareSize 11 = .ok (.aload_n 0, 1) := by decide +kernel
theorem dX0_compareSize_12 : decode cX0_compareSize 12 = .ok (.getfield 13, 3) := by decide +kernel
theorem dX0_compareSize_15 : decode cX0_compareSize 15 = .ok (.aload_n 1, 1) := by decide +kernel
theorem dX0_compareSize_16 : decode cX0_compareSize 16 = .ok (.getfield 13, 3) := by decide +kernel
theorem dX0_compareSize_19 : decode cX0_compareSize 19 = .ok (.if_icmp .ge 7, 3) := by decide +kernel
theorem dX0_compareSize_22 : decode cX0_compareSize 22 = .ok (.iconst (-1), 1) := by decide +kernel
theorem dX0_compareSize_23 : decode cX0_compareSize 23 = .ok (.goto 4, 3) := by decide +kernel
theorem dX0_compareSize_26 : decode cX0_compareSize 26 = .ok (.iconst 1, 1) := by decide +kernel
theorem dX0_compareSize_27 : decode cX0_compareSize 27 = .ok (.ireturn, 1) := by decide +kernel
theorem dX0_compareSize_28 : decode cX0_compareSize 28 = .ok (.aload_n 0, 1) := by decide +kernel
theorem dX0_compareSize_29 : decode cX0_compareSize 29 = .ok (.getfield 13, 3) := by decide +kernel
theorem dX0_compareSize_32 : decode cX0_compareSize 32 = .ok (.iconst 1, 1) := by decide +kernel
theorem dX0_compareSize_33 : decode cX0_compareSize 33 = .ok (.isub, 1) := by decide +kernel
theorem dX0_compareSize_34 : decode cX0_compareSize 34 = .ok (.istore_n 2, 1) := by decide +kernel
theorem dX0_compareSize_35 : decode cX0_compareSize 35 = .ok (.iload_n 2, 1) := by decide +kernel
theorem dX0_compareSize_36 : decode cX0_compareSize 36 = .ok (.ifCond .lt 47, 3) := by decide +kernel
theorem dX0_compareSize_39 : decode cX0_compareSize 39 = .ok (.aload_n 0, 1) := by decide +kernel
theorem dX0_compareSize_40 : decode cX0_compareSize 40 = .ok (.getfield 9, 3) := by decide +kernel
theorem dX0_compareSize_43 : decode cX0_compareSize 43 = .ok (.iload_n 2, 1) := by decide +kernel
theorem dX0_compareSize_44 : decode cX0_compareSize 44 = .ok (.laload, 1) := by decide +kernel
theorem dX0_compareSize_45 : decode cX0_compareSize 45 = .ok (.aload_n 1, 1) := by decide +kernel
theorem dX0_compareSize_46 : decode cX0_compareSize 46 = .ok (.getfield 9, 3) := by decide +kernel
theorem dX0_compareSize_49 : decode cX0_compareSize 49 = .ok (.iload_n 2, 1) := by decide +kernel
theorem dX0_compareSize_50 : decode cX0_compareSize 50 = .ok (.laload, 1) := by decide +kernel
theorem dX0_compareSize_51 : decode cX0_compareSize 51 = .ok (.lcmp, 1) := by decide +kernel
theorem dX0_compareSize_52 : decode cX0_compareSize 52 = .ok (.ifCond .eq 25, 3) := by decide +kernel
theorem dX0_compareSize_55 : decode cX0_compareSize 55 = .ok (.aload_n 0, 1) := by decide +kernel
theorem dX0_compareSize_56 : decode cX0_compareSize 56 = .ok (.getfield 9, 3) := by decide +kernel
theorem dX0_compareSize_59 : decode cX0_compareSize 59 = .ok (.iload_n 2, 1) := by decide +kernel
theorem dX0_compareSize_60 : decode cX0_compareSize 60 = .ok (.laload, 1) := by decide +kernel
theorem dX0_compareSize_61 : decode cX0_compareSize 61 = .ok (.aload_n 1, 1) := by decide +kernel
theorem dX0_compareSize_62 : decode cX0_compareSize 62 = .ok (.getfield 9, 3) := by decide +kernel
theorem dX0_compareSize_65 : decode cX0_compareSize 65 = .ok (.iload_n 2, 1) := by decide +kernel
theorem dX0_compareSize_66 : decode cX0_compareSize 66 = .ok (.laload, 1) := by decide +kernel
theorem dX0_compareSize_67 : decode cX0_compareSize 67 = .ok (.lcmp, 1) := by decide +kernel
theorem dX0_compareSize_68 : decode cX0_compareSize 68 = .ok (.ifCond .ge 7, 3) := by decide +kernel
theorem dX0_compareSize_71 : decode cX0_compareSize 71 = .ok (.iconst (-1), 1) := by decide +kernel
theorem dX0_compareSize_72 : decode cX0_compareSize 72 = .ok (.goto 4, 3) := by decide +kernel
theorem dX0_compareSize_75 : decode cX0_compareSize 75 = .ok (.iconst 1, 1) := by decide +kernel
theorem dX0_compareSize_76 : decode cX0_compareSize 76 = .ok (.ireturn, 1) := by decide +kernel
theorem dX0_compareSize_77 : decode cX0_compareSize 77 = .ok (.iinc 2 (-1), 3) := by decide +kernel
theorem dX0_compareSize_80 : decode cX0_compareSize 80 = .ok (.goto (-45), 3) := by decide +kernel
theorem dX0_compareSize_83 : decode cX0_compareSize 83 = .ok (.iconst 0, 1) := by decide +kernel
theorem dX0_compareSize_84 : decode cX0_compareSize 84 = .ok (.ireturn, 1) := by decide +kernel
theorem dX1_init_0 : decode cX1_init 0 = .ok (.aload_n 0, 1) := by decide +kernel
theorem dX1_init_1 : decode cX1_init 1 = .ok (.invokespecial 3, 3) := by decide +kernel
theorem dX1_init_4 : decode cX1_init 4 = .ok (.aload_n 0, 1) := by decide +kernel
theorem dX1_init_5 : decode cX1_init 5 = .ok (.new 9, 3) := by decide +kernel
theorem dX1_init_8 : decode cX1_init 8 = .ok (.dup, 1) := by decide +kernel
theorem dX1_init_9 : decode cX1_init 9 = .ok (.invokespecial 11, 3) := by decide +kernel
theorem dX1_init_12 : decode cX1_init 12 = .ok (.putfield 12, 3) := by decide +kernel
theorem dX1_init_15 : decode cX1_init 15 = .ok (.aload_n 0, 1) := by decide +kernel
theorem dX1_init_16 : decode cX1_init 16 = .ok (.new 9, 3) := by decide +kernel
theorem dX1_init_19 : decode cX1_init 19 = .ok (.dup, 1) := by decide +kernel
theorem dX1_init_20 : decode cX1_init 20 = .ok (.invokespecial 11, 3) := by decide +kernel
theorem dX1_init_23 : decode cX1_init 23 = .ok (.putfield 18, 3) := by decide +kernel
theorem dX1_init_26 : decode cX1_init 26 = .ok (.aload_n 0, 1) := by decide +kernel
theorem dX1_init_27 : decode cX1_init 27 = .ok (.new 9, 3) := by decide +kernel
theorem dX1_init_30 : decode cX1_init 30 = .ok (.dup, 1) := by decide +kernel
theorem dX1_init_31 : decode cX1_init 31 = .ok (.invokespecial 11, 3) := by decide +kernel
theorem dX1_init_34 : decode cX1_init 34 = .ok (.putfield 21, 3) := by decide +kernel
theorem dX1_init_37 : decode cX1_init 37 = .ok (.aload_n 0, 1) := by decide +kernel
theorem dX1_init_38 : decode cX1_init 38 = .ok (.iconst 5, 1) := by decide +kernel
theorem dX1_init_39 : decode cX1_init 39 = .ok (.newarray .long, 2) := by decide +kernel
theorem dX1_init_41 : decode cX1_init 41 = .ok (.putfield 24, 3) := by decide +kernel
theorem dX1_init_44 : decode cX1_init 44 = .ok (.aload_n 0, 1) := by decide +kernel
theorem dX1_init_45 : decode cX1_init 45 = .ok (.iconst 0, 1) := by decide +kernel
theorem dX1_init_46 : decode cX1_init 46 = .ok (.putfield 28, 3) := by decide +kernel
theorem dX1_init_49 : decode cX1_init 49 = .ok (.aload_n 0, 1) := by decide +kernel
theorem dX1_init_50 : decode cX1_init 50 = .ok (.aload_n 1, 1) := by decide +kernel
theorem dX1_init_51 : decode cX1_init 51 = .ok (.putfield 32, 3) := by decide +kernel
theorem dX1_init_54 : decode cX1_init 54 = .ok (.return_, 1) := by decide +kernel
theorem dX1_start_0 : decode cX1_start 0 = .ok (.aload_n 0, 1) := by decide +kernel
theorem dX1_start_1 : decode cX1_start 1 = .ok (.getfield 12, 3) := by decide +kernel
theorem dX1_start_4 : decode cX1_start 4 = .ok (.lconst 0, 1) := by decide +kernel
theorem dX1_start_5 : decode cX1_start 5 = .ok (.invokevirtual 36, 3) := by decide +kernel
theorem dX1_start_8 : decode cX1_start 8 = .ok (.aload_n 0, 1) := by decide +kernel
theorem dX1_start_9 : decode cX1_start 9 = .ok (.getfield 18, 3) := by decide +kernel
theorem dX1_start_12 : decode cX1_start 12 = .ok (.lconst 1, 1) := by decide +kernel
theorem dX1_start_13 : decode cX1_start 13 = .ok (.invokevirtual 36, 3) := by decide +kernel
theorem dX1_start_16 : decode cX1_start 16 = .ok (.aload_n 0, 1) := by decide +kernel
theorem dX1_start_17 : decode cX1_start 17 = .ok (.iconst 0, 1) := by decide +kernel
theorem dX1_start_18 : decode cX1_start 18 = .ok (.putfield 28, 3) := by decide +kernel
theorem dX1_start_21 : decode cX1_start 21 = .ok (.return_, 1) := by decide +kernel
theorem dX1_add_0 : decode cX1_add 0 = .ok (.aload_n 0, 1) := by decide +kernel
theorem dX1_add_1 : decode cX1_add 1 = .ok (.getfield 32, 3) := by decide +kernel
theorem dX1_add_4 : decode cX1_add 4 = .ok (.invokevirtual 40, 3) := by decide +kernel
theorem dX1_add_7 : decode cX1_add 7 = .ok (.aload_n 0, 1) := by decide +kernel
theorem dX1_add_8 : decode cX1_add 8 = .ok (.getfield 32, 3) := by decide +kernel
theorem dX1_add_11 : decode cX1_add 11 = .ok (.aload_n 1, 1) := by decide +kernel
theorem dX1_add_12 : decode cX1_add 12 = .ok (.iload_n 3, 1) := by decide +kernel
theorem dX1_add_13 : decode cX1_add 13 = .ok (.i2l, 1) := by decide +kernel
theorem dX1_add_14 : decode cX1_add 14 = .ok (.invokevirtual 45, 3) := by decide +kernel
theorem dX1_add_17 : decode cX1_add 17 = .ok (.aload_n 0, 1) := by decide +kernel
theorem dX1_add_18 : decode cX1_add 18 = .ok (.getfield 32, 3) := by decide +kernel
theorem dX1_add_21 : decode cX1_add 21 = .ok (.aload_n 0, 1) := by decide +kernel
theorem dX1_add_22 : decode cX1_add 22 = .ok (.getfield 21, 3) := by decide +kernel
theorem dX1_add_25 : decode cX1_add 25 = .ok (.invokevirtual 49, 3) := by decide +kernel
theorem dX1_add_28 : decode cX1_add 28 = .ok (.aload_n 0, 1) := by decide +kernel
theorem dX1_add_29 : decode cX1_add 29 = .ok (.getfield 32, 3) := by decide +kernel
theorem dX1_add_32 : decode cX1_add 32 = .ok (.invokevirtual 40, 3) := by decide +kernel
theorem dX1_add_35 : decode cX1_add 35 = .ok (.aload_n 0, 1) := by decide +kernel
theorem dX1_add_36 : decode cX1_add 36 = .ok (.getfield 32, 3) := by decide +kernel
theorem dX1_add_39 : decode cX1_add 39 = .ok (.aload_n 0, 1) := by decide +kernel
theorem dX1_add_40 : decode cX1_add 40 = .ok (.getfield 12, 3) := by decide +kernel
theorem dX1_add_43 : decode cX1_add 43 = .ok (.aload_n 2, 1) := by decide +kernel
theorem dX1_add_44 : decode cX1_add 44 = .ok (.iconst 0, 1) := by decide +kernel
theorem dX1_add_45 : decode cX1_add 45 = .ok (.invokevirtual 53, 3) := by decide +kernel
theorem dX1_add_48 : decode cX1_add 48 = .ok (.aload_n 0, 1) := by decide +kernel
theorem dX1_add_49 : decode cX1_add 49 = .ok (.getfield 32, 3) := by decide +kernel
theorem dX1_add_52 : decode cX1_add 52 = .ok (.aload_n 0, 1) := by decide +kernel
theorem dX1_add_53 : decode cX1_add 53 = .ok (.getfield 21, 3) := by decide +kernel
theorem dX1_add_56 : decode cX1_add 56 = .ok (.aload_n 0, 1) := by decide +kernel
theorem dX1_add_57 : decode cX1_add 57 = .ok (.getfield 18, 3) := by decide +kernel
theorem dX1_add_60 : decode cX1_add 60 = .ok (.iconst 0, 1) := by decide +kernel
theorem dX1_add_61 : decode cX1_add 61 = .ok (.invokevirtual 53, 3) := by decide +kernel
theorem dX1_add_64 : decode cX1_add 64 = .ok (.aload_n 0, 1) := by decide +kernel
theorem dX1_add_65 : decode cX1_add 65 = .ok (.getfield 32, 3) := by decide +kernel
theorem dX1_add_68 : decode cX1_add 68 = .ok (.aload_n 0, 1) := by decide +kernel
theorem dX1_add_69 : decode cX1_add 69 = .ok (.getfield 12, 3) := by decide +kernel
theorem dX1_add_72 : decode cX1_add 72 = .ok (.invokevirtual 49, 3) := by decide +kernel
theorem dX1_add_75 : decode cX1_add 75 = .ok (.aload_n 0, 1) := by decide +kernel
theorem dX1_add_76 : decode cX1_add 76 = .ok (.getfield 32, 3) := by decide +kernel
theorem dX1_add_79 : decode cX1_add 79 = .ok (.invokevirtual 40, 3) := by decide +kernel
theorem dX1_add_82 : decode cX1_add 82 = .ok (.aload_n 0, 1) := by decide +kernel
theorem dX1_add_83 : decode cX1_add 83 = .ok (.getfield 32, 3) := by decide +kernel
theorem dX1_add_86 : decode cX1_add 86 = .ok (.aload_n 0, 1) := by decide +kernel
theorem dX1_add_87 : decode cX1_add 87 = .ok (.getfield 18, 3) := by decide +kernel
theorem dX1_add_90 : decode cX1_add 90 = .ok (.aload_n 2, 1) := by decide +kernel
theorem dX1_add_91 : decode cX1_add 91 = .ok (.iconst 0, 1) := by decide +kernel
theorem dX1_add_92 : decode cX1_add 92 = .ok (.invokevirtual 53, 3) := by decide +kernel
theorem dX1_add_95 : decode cX1_add 95 = .ok (.aload_n 0, 1) := by decide +kernel
theorem dX1_add_96 : decode cX1_add 96 = .ok (.getfield 32, 3) := by decide +kernel
theorem dX1_add_99 : decode cX1_add 99 = .ok (.aload_n 0, 1) := by decide +kernel
theorem dX1_add_100 : decode cX1_add 100 = .ok (.getfield 18, 3) := by decide +kernel
theorem dX1_add_103 : decode cX1_add 103 = .ok (.invokevirtual 49, 3) := by decide +kernel
theorem dX1_add_106 : decode cX1_add 106 = .ok (.aload_n 0, 1) := by decide +kernel
theorem dX1_add_107 : decode cX1_add 107 = .ok (.aload_n 2, 1) := by decide +kernel
theorem dX1_add_108 : decode cX1_add 108 = .ok (.invokevirtual 57, 3) := by decide +kernel
theorem dX1_add_111 : decode cX1_add 111 = .ok (.invokevirtual 61, 3) := by decide +kernel
theorem dX1_add_114 : decode cX1_add 114 = .ok (.return_, 1) := by decide +kernel
theorem dX1_divideBy_0 : decode cX1_divideBy 0 = .ok (.aload_n 0, 1) := by decide +kernel
theorem dX1_divideBy_1 : decode cX1_divideBy 1 = .ok (.getfield 32, 3) := by decide +kernel
theorem dX1_divideBy_4 : decode cX1_divideBy 4 = .ok (.invokevirtual 40, 3) := by decide +kernel
theorem dX1_divideBy_7 : decode cX1_divideBy 7 = .ok (.aload_n 0, 1) := by decide +kernel
theorem dX1_divideBy_8 : decode cX1_divideBy 8 = .ok (.getfield 32, 3) := by decide +kernel
theorem dX1_divideBy_11 : decode cX1_divideBy 11 = .ok (.aload_n 0, 1) := by decide +kernel
theorem dX1_divideBy_12 : decode cX1_divideBy 12 = .ok (.getfield 18, 3) := by decide +kernel
theorem dX1_divideBy_15 : decode cX1_divideBy 15 = .ok (.iload_n 1, 1) := by decide +kernel
theorem dX1_divideBy_16 : decode cX1_divideBy 16 = .ok (.i2l, 1) := by decide +kernel
theorem dX1_divideBy_17 : decode cX1_divideBy 17 = .ok (.invokevirtual 45, 3) := by decide +kernel
theorem dX1_divideBy_20 : decode cX1_divideBy 20 = .ok (.aload_n 0, 1) := by decide +kernel
theorem dX1_divideBy_21 : decode cX1_divideBy 21 = .ok (.getfield 32, 3) := by decide +kernel
theorem dX1_divideBy_24 : decode cX1_divideBy 24 = .ok (.aload_n 0, 1) := by decide +kernel
theorem dX1_divideBy_25 : decode cX1_divideBy 25 = .ok (.getfield 18, 3) := by decide +kernel
theorem dX1_divideBy_28 : decode cX1_divideBy 28 = .ok (.invokevirtual 49, 3) := by decide +kernel
theorem dX1_divideBy_31 : decode cX1_divideBy 31 = .ok (.aload_n 0, 1) := by decide +kernel
theorem dX1_divideBy_32 : decode cX1_divideBy 32 = .ok (.iload_n 1, 1) := by decide +kernel
theorem dX1_divideBy_33 : decode cX1_divideBy 33 = .ok (.i2l, 1) := by decide +kernel
theorem dX1_divideBy_34 : decode cX1_divideBy 34 = .ok (.invokevirtual 61, 3) := by decide +kernel
theorem dX1_divideBy_37 : decode cX1_divideBy 37 = .ok (.return_, 1) := by decide +kernel
theorem dX1_keepDivisor_0 : decode cX1_keepDivisor 0 = .ok (.aload_n 0, 1) := by decide +kernel
theorem dX1_keepDivisor_1 : decode cX1_keepDivisor 1 = .ok (.getfield 28, 3) := by decide +kernel
theorem dX1_keepDivisor_4 : decode cX1_keepDivisor 4 = .ok (.iconst 5, 1) := by decide +kernel
theorem dX1_keepDivisor_5 : decode cX1_keepDivisor 5 = .ok (.if_icmp .ge 23, 3) := by decide +kernel
theorem dX1_keepDivisor_8 : decode cX1_keepDivisor 8 = .ok (.aload_n 0, 1) := by decide +kernel
theorem dX1_keepDivisor_9 : decode cX1_keepDivisor 9 = .ok (.getfield 24, 3) := by decide +kernel
theorem dX1_keepDivisor_12 : decode cX1_keepDivisor 12 = .ok (.aload_n 0, 1) := by decide +kernel
theorem dX1_keepDivisor_13 : decode cX1_keepDivisor 13 = .ok (.getfield 28, 3) := by decide +kernel
theorem dX1_keepDivisor_16 : decode cX1_keepDivisor 16 = .ok (.lload_n 1, 1) := by decide +kernel
theorem dX1_keepDivisor_17 : decode cX1_keepDivisor 17 = .ok (.lastore, 1) := by decide +kernel
theorem dX1_keepDivisor_18 : decode cX1_keepDivisor 18 = .ok (.aload_n 0, 1) := by decide +kernel
theorem dX1_keepDivisor_19 : decode cX1_keepDivisor 19 = .ok (.dup, 1) := by decide +kernel
theorem dX1_keepDivisor_20 : decode cX1_keepDivisor 20 = .ok (.getfield 28, 3) := by decide +kernel
theorem dX1_keepDivisor_23 : decode cX1_keepDivisor 23 = .ok (.iconst 1, 1) := by decide +kernel
theorem dX1_keepDivisor_24 : decode cX1_keepDivisor 24 = .ok (.iadd, 1) := by decide +kernel
theorem dX1_keepDivisor_25 : decode cX1_keepDivisor 25 = .ok (.putfield 28, 3) := by decide +kernel
theorem dX1_keepDivisor_28 : decode cX1_keepDivisor 28 = .ok (.return_, 1) := by decide +kernel
theorem dX1_reduce_0 : decode cX1_reduce 0 = .ok (.iconst 0, 1) := by decide +kernel
theorem dX1_reduce_1 : decode cX1_reduce 1 = .ok (.istore_n 1, 1) := by decide +kernel
theorem dX1_reduce_2 : decode cX1_reduce 2 = .ok (.iload_n 1, 1) := by decide +kernel
theorem dX1_reduce_3 : decode cX1_reduce 3 = .ok (.aload_n 0, 1) := by decide +kernel
theorem dX1_reduce_4 : decode cX1_reduce 4 = .ok (.getfield 28, 3) := by decide +kernel
theorem dX1_reduce_7 : decode cX1_reduce 7 = .ok (.if_icmp .ge 66, 3) := by decide +kernel
theorem dX1_reduce_10 : decode cX1_reduce 10 = .ok (.iload_n 1, 1) := by decide +kernel
theorem dX1_reduce_11 : decode cX1_reduce 11 = .ok (.iconst 5, 1) := by decide +kernel
theorem dX1_reduce_12 : decode cX1_reduce 12 = .ok (.if_icmp .ge 61, 3) := by decide +kernel
theorem dX1_reduce_15 : decode cX1_reduce 15 = .ok (.aload_n 0, 1) := by decide +kernel
theorem dX1_reduce_16 : decode cX1_reduce 16 = .ok (.getfield 21, 3) := by decide +kernel
theorem dX1_reduce_19 : decode cX1_reduce 19 = .ok (.aload_n 0, 1) := by decide +kernel
theorem dX1_reduce_20 : decode cX1_reduce 20 = .ok (.getfield 12, 3) := by decide +kernel
theorem dX1_reduce_23 : decode cX1_reduce 23 = .ok (.invokevirtual 64, 3) := by decide +kernel
theorem dX1_reduce_26 : decode cX1_reduce 26 = .ok (.aload_n 0, 1) := by decide +kernel
theorem dX1_reduce_27 : decode cX1_reduce 27 = .ok (.getfield 24, 3) := by decide +kernel
theorem dX1_reduce_30 : decode cX1_reduce 30 = .ok (.iload_n 1, 1) := by decide +kernel
theorem dX1_reduce_31 : decode cX1_reduce 31 = .ok (.laload, 1) := by decide +kernel
theorem dX1_reduce_32 : decode cX1_reduce 32 = .ok (.aload_n 0, 1) := by decide +kernel
theorem dX1_reduce_33 : decode cX1_reduce 33 = .ok (.getfield 21, 3) := by decide +kernel
theorem dX1_reduce_36 : decode cX1_reduce 36 = .ok (.aload_n 0, 1) := by decide +kernel
theorem dX1_reduce_37 : decode cX1_reduce 37 = .ok (.getfield 24, 3) := by decide +kernel
theorem dX1_reduce_40 : decode cX1_reduce 40 = .ok (.iload_n 1, 1) := by decide +kernel
theorem dX1_reduce_41 : decode cX1_reduce 41 = .ok (.laload, 1) := by decide +kernel
theorem dX1_reduce_42 : decode cX1_reduce 42 = .ok (.invokevirtual 67, 3) := by decide +kernel
theorem dX1_reduce_45 : decode cX1_reduce 45 = .ok (.invokestatic 71, 3) := by decide +kernel
theorem dX1_reduce_48 : decode cX1_reduce 48 = .ok (.lstore_n 2, 1) := by decide +kernel
theorem dX1_reduce_49 : decode cX1_reduce 49 = .ok (.aload_n 0, 1) := by decide +kernel
theorem dX1_reduce_50 : decode cX1_reduce 50 = .ok (.getfield 12, 3) := by decide +kernel
theorem dX1_reduce_53 : decode cX1_reduce 53 = .ok (.lload_n 2, 1) := by decide +kernel
theorem dX1_reduce_54 : decode cX1_reduce 54 = .ok (.invokevirtual 67, 3) := by decide +kernel
theorem dX1_reduce_57 : decode cX1_reduce 57 = .ok (.pop2, 1) := by decide +kernel
theorem dX1_reduce_58 : decode cX1_reduce 58 = .ok (.aload_n 0, 1) := by decide +kernel
theorem dX1_reduce_59 : decode cX1_reduce 59 = .ok (.getfield 18, 3) := by decide +kernel
theorem dX1_reduce_62 : decode cX1_reduce 62 = .ok (.lload_n 2, 1) := by decide +kernel
theorem dX1_reduce_63 : decode cX1_reduce 63 = .ok (.invokevirtual 67, 3) := by decide +kernel
theorem dX1_reduce_66 : decode cX1_reduce 66 = .ok (.pop2, 1) := by decide +kernel
theorem dX1_reduce_67 : decode cX1_reduce 67 = .ok (.iinc 1 1, 3) := by decide +kernel
theorem dX1_reduce_70 : decode cX1_reduce 70 = .ok (.goto (-68), 3) := by decide +kernel
theorem dX1_reduce_73 : decode cX1_reduce 73 = .ok (.return_, 1) := by decide +kernel
theorem dX1_commonDivisor_0 : decode cX1_commonDivisor 0 = .ok (.lload_n 0, 1) := by decide +kernel
theorem dX1_commonDivisor_1 : decode cX1_commonDivisor 1 = .ok (.lstore 4, 2) := by decide +kernel
theorem dX1_commonDivisor_3 : decode cX1_commonDivisor 3 = .ok (.lload_n 2, 1) := by decide +kernel
theorem dX1_commonDivisor_4 : decode cX1_commonDivisor 4 = .ok (.lstore 6, 2) := by decide +kernel
theorem dX1_commonDivisor_6 : decode cX1_commonDivisor 6 = .ok (.iconst 0, 1) := by decide +kernel
theorem dX1_commonDivisor_7 : decode cX1_commonDivisor 7 = .ok (.istore 8, 2) := by decide +kernel
theorem dX1_commonDivisor_9 : decode cX1_commonDivisor 9 = .ok (.iload 8, 2) := by decide +kernel
theorem dX1_commonDivisor_11 : decode cX1_commonDivisor 11 = .ok (.sipush 200, 3) := by decide +kernel
theorem dX1_commonDivisor_14 : decode cX1_commonDivisor 14 = .ok (.if_icmp .ge 31, 3) := by decide +kernel
theorem dX1_commonDivisor_17 : decode cX1_commonDivisor 17 = .ok (.lload 6, 2) := by decide +kernel
theorem dX1_commonDivisor_19 : decode cX1_commonDivisor 19 = .ok (.lconst 0, 1) := by decide +kernel
theorem dX1_commonDivisor_20 : decode cX1_commonDivisor 20 = .ok (.lcmp, 1) := by decide +kernel
theorem dX1_commonDivisor_21 : decode cX1_commonDivisor 21 = .ok (.ifCond .le 24, 3) := by decide +kernel
theorem dX1_commonDivisor_24 : decode cX1_commonDivisor 24 = .ok (.lload 4, 2) := by decide +kernel
theorem dX1_commonDivisor_26 : decode cX1_commonDivisor 26 = .ok (.lload 6, 2) := by decide +kernel
theorem dX1_commonDivisor_28 : decode cX1_commonDivisor 28 = .ok (.lrem, 1) := by decide +kernel
theorem dX1_commonDivisor_29 : decode cX1_commonDivisor 29 = .ok (.lstore 9, 2) := by decide +kernel
theorem dX1_commonDivisor_31 : decode cX1_commonDivisor 31 = .ok (.lload 6, 2) := by decide +kernel
theorem dX1_commonDivisor_33 : decode cX1_commonDivisor 33 = .ok (.lstore 4, 2) := by decide +kernel
theorem dX1_commonDivisor_35 : decode cX1_commonDivisor 35 = .ok (.lload 9, 2) := by decide +kernel
theorem dX1_commonDivisor_37 : decode cX1_commonDivisor 37 = .ok (.lstore 6, 2) := by decide +kernel
theorem dX1_commonDivisor_39 : decode cX1_commonDivisor 39 = .ok (.iinc 8 1, 3) := by decide +kernel
theorem dX1_commonDivisor_42 : decode cX1_commonDivisor 42 = .ok (.goto (-33), 3) := by decide +kernel
theorem dX1_commonDivisor_45 : decode cX1_commonDivisor 45 = .ok (.lload 4, 2) := by decide +kernel
theorem dX1_commonDivisor_47 : decode cX1_commonDivisor 47 = .ok (.lreturn, 1) := by decide +kernel
theorem dX2_init_0 : decode cX2_init 0 = .ok (.aload_n 0, 1) := by decide +kernel
theorem dX2_init_1 : decode cX2_init 1 = .ok (.invokespecial 5, 3) := by decide +kernel
theorem dX2_init_4 : decode cX2_init 4 = .ok (.aload_n 0, 1) := by decide +kernel
theorem dX2_init_5 : decode cX2_init 5 = .ok (.bipush 7, 2) := by decide +kernel
theorem dX2_init_7 : decode cX2_init 7 = .ok (.bipush 80, 2) := by decide +kernel
theorem dX2_init_9 : decode cX2_init 9 = .ok (.multianewarray 11 2, 4) := by decide +kernel
theorem dX2_init_13 : decode cX2_init 13 = .ok (.putfield 13, 3) := by decide +kernel
theorem dX2_init_16 : decode cX2_init 16 = .ok (.aload_n 0, 1) := by decide +kernel
theorem dX2_init_17 : decode cX2_init 17 = .ok (.bipush 7, 2) := by decide +kernel
theorem dX2_init_19 : decode cX2_init 19 = .ok (.bipush 7, 2) := by decide +kernel
theorem dX2_init_21 : decode cX2_init 21 = .ok (.multianewarray 11 2, 4) := by decide +kernel
theorem dX2_init_25 : decode cX2_init 25 = .ok (.putfield 16, 3) := by decide +kernel
theorem dX2_init_28 : decode cX2_init 28 = .ok (.aload_n 0, 1) := by decide +kernel
theorem dX2_init_29 : decode cX2_init 29 = .ok (.bipush 7, 2) := by decide +kernel
theorem dX2_init_31 : decode cX2_init 31 = .ok (.bipush 7, 2) := by decide +kernel
theorem dX2_init_33 : decode cX2_init 33 = .ok (.multianewarray 11 2, 4) := by decide +kernel
theorem dX2_init_37 : decode cX2_init 37 = .ok (.putfield 19, 3) := by decide +kernel
theorem dX2_init_40 : decode cX2_init 40 = .ok (.aload_n 0, 1) := by decide +kernel
theorem dX2_init_41 : decode cX2_init 41 = .ok (.bipush 7, 2) := by decide +kernel
theorem dX2_init_43 : decode cX2_init 43 = .ok (.newarray .long, 2) := by decide +kernel
theorem dX2_init_45 : decode cX2_init 45 = .ok (.putfield 22, 3) := by decide +kernel
theorem dX2_init_48 : decode cX2_init 48 = .ok (.aload_n 0, 1) := by decide +kernel
theorem dX2_init_49 : decode cX2_init 49 = .ok (.bipush 49, 2) := by decide +kernel
theorem dX2_init_51 : decode cX2_init 51 = .ok (.anewarray 26, 3) := by decide +kernel
theorem dX2_init_54 : decode cX2_init 54 = .ok (.putfield 28, 3) := by decide +kernel
theorem dX2_init_57 : decode cX2_init 57 = .ok (.aload_n 0, 1) := by decide +kernel
theorem dX2_init_58 : decode cX2_init 58 = .ok (.bipush 6, 2) := by decide +kernel
theorem dX2_init_60 : decode cX2_init 60 = .ok (.anewarray 26, 3) := by decide +kernel
theorem dX2_init_63 : decode cX2_init 63 = .ok (.putfield 32, 3) := by decide +kernel
theorem dX2_init_66 : decode cX2_init 66 = .ok (.aload_n 0, 1) := by decide +kernel
theorem dX2_init_67 : decode cX2_init 67 = .ok (.bipush 7, 2) := by decide +kernel
theorem dX2_init_69 : decode cX2_init 69 = .ok (.anewarray 26, 3) := by decide +kernel
theorem dX2_init_72 : decode cX2_init 72 = .ok (.putfield 35, 3) := by decide +kernel
theorem dX2_init_75 : decode cX2_init 75 = .ok (.aload_n 0, 1) := by decide +kernel
theorem dX2_init_76 : decode cX2_init 76 = .ok (.new 26, 3) := by decide +kernel
theorem dX2_init_79 : decode cX2_init 79 = .ok (.dup, 1) := by decide +kernel
theorem dX2_init_80 : decode cX2_init 80 = .ok (.invokespecial 38, 3) := by decide +kernel
theorem dX2_init_83 : decode cX2_init 83 = .ok (.putfield 39, 3) := by decide +kernel
theorem dX2_init_86 : decode cX2_init 86 = .ok (.aload_n 0, 1) := by decide +kernel
theorem dX2_init_87 : decode cX2_init 87 = .ok (.new 26, 3) := by decide +kernel
theorem dX2_init_90 : decode cX2_init 90 = .ok (.dup, 1) := by decide +kernel
theorem dX2_init_91 : decode cX2_init 91 = .ok (.invokespecial 38, 3) := by decide +kernel
theorem dX2_init_94 : decode cX2_init 94 = .ok (.putfield 43, 3) := by decide +kernel
theorem dX2_init_97 : decode cX2_init 97 = .ok (.aload_n 0, 1) := by decide +kernel
theorem dX2_init_98 : decode cX2_init 98 = .ok (.iconst 1, 1) := by decide +kernel
theorem dX2_init_99 : decode cX2_init 99 = .ok (.putfield 46, 3) := by decide +kernel
theorem dX2_init_102 : decode cX2_init 102 = .ok (.aload_n 0, 1) := by decide +kernel
theorem dX2_init_103 : decode cX2_init 103 = .ok (.iconst 0, 1) := by decide +kernel
theorem dX2_init_104 : decode cX2_init 104 = .ok (.putfield 50, 3) := by decide +kernel
theorem dX2_init_107 : decode cX2_init 107 = .ok (.aload_n 0, 1) := by decide +kernel
theorem dX2_init_108 : decode cX2_init 108 = .ok (.iconst 0, 1) := by decide +kernel
theorem dX2_init_109 : decode cX2_init 109 = .ok (.putfield 53, 3) := by decide +kernel
theorem dX2_init_112 : decode cX2_init 112 = .ok (.aload_n 0, 1) := by decide +kernel
theorem dX2_init_113 : decode cX2_init 113 = .ok (.iconst 0, 1) := by decide +kernel
theorem dX2_init_114 : decode cX2_init 114 = .ok (.putfield 56, 3) := by decide +kernel
theorem dX2_init_117 : decode cX2_init 117 = .ok (.aload_n 0, 1) := by decide +kernel
theorem dX2_init_118 : decode cX2_init 118 = .ok (.aload_n 1, 1) := by decide +kernel
theorem dX2_init_119 : decode cX2_init 119 = .ok (.putfield 59, 3) := by decide +kernel
theorem dX2_init_122 : decode cX2_init 122 = .ok (.iconst 0, 1) := by decide +kernel
theorem dX2_init_123 : decode cX2_init 123 = .ok (.istore_n 2, 1) := by decide +kernel
theorem dX2_init_124 : decode cX2_init 124 = .ok (.iload_n 2, 1) := by decide +kernel
theorem dX2_init_125 : decode cX2_init 125 = .ok (.bipush 49, 2) := by decide +kernel
theorem dX2_init_127 : decode cX2_init 127 = .ok (.if_icmp .ge 22, 3) := by decide +kernel
theorem dX2_init_130 : decode cX2_init 130 = .ok (.aload_n 0, 1) := by decide +kernel
theorem dX2_init_131 : decode cX2_init 131 = .ok (.getfield 28, 3) := by decide +kernel
theorem dX2_init_134 : decode cX2_init 134 = .ok (.iload_n 2, 1) := by decide +kernel
theorem dX2_init_135 : decode cX2_init 135 = .ok (.new 26, 3) := by decide +kernel
theorem dX2_init_138 : decode cX2_init 138 = .ok (.dup, 1) := by decide +kernel
theorem dX2_init_139 : decode cX2_init 139 = .ok (.invokespecial 38, 3) := by decide +kernel
theorem dX2_init_142 : decode cX2_init 142 = .ok (.aastore, 1) := by decide +kernel
theorem dX2_init_143 : decode cX2_init 143 = .ok (.iinc 2 1, 3) := by decide +kernel
theorem dX2_init_146 : decode cX2_init 146 = .ok (.goto (-22), 3) := by decide +kernel
theorem dX2_init_149 : decode cX2_init 149 = .ok (.iconst 0, 1) := by decide +kernel
theorem dX2_init_150 : decode cX2_init 150 = .ok (.istore_n 2, 1) := by decide +kernel
theorem dX2_init_151 : decode cX2_init 151 = .ok (.iload_n 2, 1) := by decide +kernel
theorem dX2_init_152 : decode cX2_init 152 = .ok (.bipush 6, 2) := by decide +kernel
theorem dX2_init_154 : decode cX2_init 154 = .ok (.if_icmp .ge 22, 3) := by decide +kernel
theorem dX2_init_157 : decode cX2_init 157 = .ok (.aload_n 0, 1) := by decide +kernel
theorem dX2_init_158 : decode cX2_init 158 = .ok (.getfield 32, 3) := by decide +kernel
theorem dX2_init_161 : decode cX2_init 161 = .ok (.iload_n 2, 1) := by decide +kernel
theorem dX2_init_162 : decode cX2_init 162 = .ok (.new 26, 3) := by decide +kernel
theorem dX2_init_165 : decode cX2_init 165 = .ok (.dup, 1) := by decide +kernel
theorem dX2_init_166 : decode cX2_init 166 = .ok (.invokespecial 38, 3) := by decide +kernel
theorem dX2_init_169 : decode cX2_init 169 = .ok (.aastore, 1) := by decide +kernel
theorem dX2_init_170 : decode cX2_init 170 = .ok (.iinc 2 1, 3) := by decide +kernel
theorem dX2_init_173 : decode cX2_init 173 = .ok (.goto (-22), 3) := by decide +kernel
theorem dX2_init_176 : decode cX2_init 176 = .ok (.iconst 0, 1) := by decide +kernel
theorem dX2_init_177 : decode cX2_init 177 = .ok (.istore_n 2, 1) := by decide +kernel
theorem dX2_init_178 : decode cX2_init 178 = .ok (.iload_n 2, 1) := by decide +kernel
theorem dX2_init_179 : decode cX2_init 179 = .ok (.bipush 7, 2) := by decide +kernel
theorem dX2_init_181 : decode cX2_init 181 = .ok (.if_icmp .ge 22, 3) := by decide +kernel
theorem dX2_init_184 : decode cX2_init 184 = .ok (.aload_n 0, 1) := by decide +kernel
theorem dX2_init_185 : decode cX2_init 185 = .ok (.getfield 35, 3) := by decide +kernel
theorem dX2_init_188 : decode cX2_init 188 = .ok (.iload_n 2, 1) := by decide +kernel
theorem dX2_init_189 : decode cX2_init 189 = .ok (.new 26, 3) := by decide +kernel
theorem dX2_init_192 : decode cX2_init 192 = .ok (.dup, 1) := by decide +kernel
theorem dX2_init_193 : decode cX2_init 193 = .ok (.invokespecial 38, 3) := by decide +kernel
theorem dX2_init_196 : decode cX2_init 196 = .ok (.aastore, 1) := by decide +kernel
theorem dX2_init_197 : decode cX2_init 197 = .ok (.iinc 2 1, 3) := by decide +kernel
theorem dX2_init_200 : decode cX2_init 200 = .ok (.goto (-22), 3) := by decide +kernel
theorem dX2_init_203 : decode cX2_init 203 = .ok (.return_, 1) := by decide +kernel
theorem dX2_find_0 : decode cX2_find 0 = .ok (.aload_n 0, 1) := by decide +kernel
theorem dX2_find_1 : decode cX2_find 1 = .ok (.aload_n 1, 1) := by decide +kernel
theorem dX2_find_2 : decode cX2_find 2 = .ok (.iload_n 2, 1) := by decide +kernel
theorem dX2_find_3 : decode cX2_find 3 = .ok (.invokevirtual 63, 3) := by decide +kernel
theorem dX2_find_6 : decode cX2_find 6 = .ok (.ifCond .ne 5, 3) := by decide +kernel
theorem dX2_find_9 : decode cX2_find 9 = .ok (.iconst 0, 1) := by decide +kernel
theorem dX2_find_10 : decode cX2_find 10 = .ok (.ireturn, 1) := by decide +kernel
theorem dX2_find_11 : decode cX2_find 11 = .ok (.aload_n 0, 1) := by decide +kernel
theorem dX2_find_12 : decode cX2_find 12 = .ok (.invokevirtual 67, 3) := by decide +kernel
theorem dX2_find_15 : decode cX2_find 15 = .ok (.aload_n 0, 1) := by decide +kernel
theorem dX2_find_16 : decode cX2_find 16 = .ok (.invokevirtual 70, 3) := by decide +kernel
theorem dX2_find_19 : decode cX2_find 19 = .ok (.iconst 1, 1) := by decide +kernel
theorem dX2_find_20 : decode cX2_find 20 = .ok (.ireturn, 1) := by decide +kernel
theorem dX2_weigh_0 : decode cX2_weigh 0 = .ok (.aload_n 0, 1) := by decide +kernel
theorem dX2_weigh_1 : decode cX2_weigh 1 = .ok (.aload_n 1, 1) := by decide +kernel
theorem dX2_weigh_2 : decode cX2_weigh 2 = .ok (.invokevirtual 73, 3) := by decide +kernel
theorem dX2_weigh_5 : decode cX2_weigh 5 = .ok (.aload_n 0, 1) := by decide +kernel
theorem dX2_weigh_6 : decode cX2_weigh 6 = .ok (.aload_n 1, 1) := by decide +kernel
theorem dX2_weigh_7 : decode cX2_weigh 7 = .ok (.iload_n 2, 1) := by decide +kernel
theorem dX2_weigh_8 : decode cX2_weigh 8 = .ok (.invokevirtual 77, 3) := by decide +kernel
theorem dX2_weigh_11 : decode cX2_weigh 11 = .ok (.aload_n 0, 1) := by decide +kernel
theorem dX2_weigh_12 : decode cX2_weigh 12 = .ok (.aload_n 1, 1) := by decide +kernel
theorem dX2_weigh_13 : decode cX2_weigh 13 = .ok (.invokevirtual 81, 3) := by decide +kernel
theorem dX2_weigh_16 : decode cX2_weigh 16 = .ok (.lconst 1, 1) := by decide +kernel
theorem dX2_weigh_17 : decode cX2_weigh 17 = .ok (.lstore_n 3, 1) := by decide +kernel
theorem dX2_weigh_18 : decode cX2_weigh 18 = .ok (.iconst 0, 1) := by decide +kernel
theorem dX2_weigh_19 : decode cX2_weigh 19 = .ok (.istore 5, 2) := by decide +kernel
theorem dX2_weigh_21 : decode cX2_weigh 21 = .ok (.iload 5, 2) := by decide +kernel
theorem dX2_weigh_23 : decode cX2_weigh 23 = .ok (.aload_n 0, 1) := by decide +kernel
theorem dX2_weigh_24 : decode cX2_weigh 24 = .ok (.getfield 46, 3) := by decide +kernel
theorem dX2_weigh_27 : decode cX2_weigh 27 = .ok (.if_icmp .ge 19, 3) := by decide +kernel
theorem dX2_weigh_30 : decode cX2_weigh 30 = .ok (.lload_n 3, 1) := by decide +kernel
theorem dX2_weigh_31 : decode cX2_weigh 31 = .ok (.aload_n 0, 1) := by decide +kernel
theorem dX2_weigh_32 : decode cX2_weigh 32 = .ok (.getfield 22, 3) := by decide +kernel
theorem dX2_weigh_35 : decode cX2_weigh 35 = .ok (.iload 5, 2) := by decide +kernel
theorem dX2_weigh_37 : decode cX2_weigh 37 = .ok (.laload, 1) := by decide +kernel
theorem dX2_weigh_38 : decode cX2_weigh 38 = .ok (.lmul, 1) := by decide +kernel
theorem dX2_weigh_39 : decode cX2_weigh 39 = .ok (.lstore_n 3, 1) := by decide +kernel
theorem dX2_weigh_40 : decode cX2_weigh 40 = .ok (.iinc 5 1, 3) := by decide +kernel
theorem dX2_weigh_43 : decode cX2_weigh 43 = .ok (.goto (-22), 3) := by decide +kernel
theorem dX2_weigh_46 : decode cX2_weigh 46 = .ok (.aload_n 0, 1) := by decide +kernel
theorem dX2_weigh_47 : decode cX2_weigh 47 = .ok (.lload_n 3, 1) := by decide +kernel
theorem dX2_weigh_48 : decode cX2_weigh 48 = .ok (.invokevirtual 84, 3) := by decide +kernel
theorem dX2_weigh_51 : decode cX2_weigh 51 = .ok (.iconst 0, 1) := by decide +kernel
theorem dX2_weigh_52 : decode cX2_weigh 52 = .ok (.istore 5, 2) := by decide +kernel
theorem dX2_weigh_54 : decode cX2_weigh 54 = .ok (.iload 5, 2) := by decide +kernel
theorem dX2_weigh_56 : decode cX2_weigh 56 = .ok (.aload_n 0, 1) := by decide +kernel
theorem dX2_weigh_57 : decode cX2_weigh 57 = .ok (.getfield 50, 3) := by decide +kernel
theorem dX2_weigh_60 : decode cX2_weigh 60 = .ok (.if_icmp .ge 45, 3) := by decide +kernel
theorem dX2_weigh_63 : decode cX2_weigh 63 = .ok (.lload_n 3, 1) := by decide +kernel
theorem dX2_weigh_64 : decode cX2_weigh 64 = .ok (.lconst 0, 1) := by decide +kernel
theorem dX2_weigh_65 : decode cX2_weigh 65 = .ok (.lcmp, 1) := by decide +kernel
theorem dX2_weigh_66 : decode cX2_weigh 66 = .ok (.ifCond .le 39, 3) := by decide +kernel
theorem dX2_weigh_69 : decode cX2_weigh 69 = .ok (.aload_n 0, 1) := by decide +kernel
theorem dX2_weigh_70 : decode cX2_weigh 70 = .ok (.iload 5, 2) := by decide +kernel
theorem dX2_weigh_72 : decode cX2_weigh 72 = .ok (.iload 5, 2) := by decide +kernel
theorem dX2_weigh_74 : decode cX2_weigh 74 = .ok (.invokevirtual 88, 3) := by decide +kernel
theorem dX2_weigh_77 : decode cX2_weigh 77 = .ok (.invokevirtual 92, 3) := by decide +kernel
theorem dX2_weigh_80 : decode cX2_weigh 80 = .ok (.lstore 6, 2) := by decide +kernel
theorem dX2_weigh_82 : decode cX2_weigh 82 = .ok (.lload 6, 2) := by decide +kernel
theorem dX2_weigh_84 : decode cX2_weigh 84 = .ok (.lconst 0, 1) := by decide +kernel
theorem dX2_weigh_85 : decode cX2_weigh 85 = .ok (.lcmp, 1) := by decide +kernel
theorem dX2_weigh_86 : decode cX2_weigh 86 = .ok (.ifCond .le 10, 3) := by decide +kernel
theorem dX2_weigh_89 : decode cX2_weigh 89 = .ok (.aload_n 0, 1) := by decide +kernel
theorem dX2_weigh_90 : decode cX2_weigh 90 = .ok (.iload 5, 2) := by decide +kernel
theorem dX2_weigh_92 : decode cX2_weigh 92 = .ok (.lload_n 3, 1) := by decide +kernel
theorem dX2_weigh_93 : decode cX2_weigh 93 = .ok (.invokevirtual 96, 3) := by decide +kernel
theorem dX2_weigh_96 : decode cX2_weigh 96 = .ok (.lload 6, 2) := by decide +kernel
theorem dX2_weigh_98 : decode cX2_weigh 98 = .ok (.lstore_n 3, 1) := by decide +kernel
theorem dX2_weigh_99 : decode cX2_weigh 99 = .ok (.iinc 5 1, 3) := by decide +kernel
theorem dX2_weigh_102 : decode cX2_weigh 102 = .ok (.goto (-48), 3) := by decide +kernel
theorem dX2_weigh_105 : decode cX2_weigh 105 = .ok (.aload_n 0, 1) := by decide +kernel
theorem dX2_weigh_106 : decode cX2_weigh 106 = .ok (.getfield 39, 3) := by decide +kernel
theorem dX2_weigh_109 : decode cX2_weigh 109 = .ok (.lload_n 3, 1) := by decide +kernel
theorem dX2_weigh_110 : decode cX2_weigh 110 = .ok (.invokevirtual 100, 3) := by decide +kernel
theorem dX2_weigh_113 : decode cX2_weigh 113 = .ok (.lload_n 3, 1) := by decide +kernel
theorem dX2_weigh_114 : decode cX2_weigh 114 = .ok (.lconst 0, 1) := by decide +kernel
theorem dX2_weigh_115 : decode cX2_weigh 115 = .ok (.lcmp, 1) := by decide +kernel
theorem dX2_weigh_116 : decode cX2_weigh 116 = .ok (.ifCond .le 7, 3) := by decide +kernel
theorem dX2_weigh_119 : decode cX2_weigh 119 = .ok (.iconst 1, 1) := by decide +kernel
theorem dX2_weigh_120 : decode cX2_weigh 120 = .ok (.goto 4, 3) := by decide +kernel
theorem dX2_weigh_123 : decode cX2_weigh 123 = .ok (.iconst 0, 1) := by decide +kernel
theorem dX2_weigh_124 : decode cX2_weigh 124 = .ok (.ireturn, 1) := by decide +kernel
theorem dX2_layModel_0 : decode cX2_layModel 0 = .ok (.aload_n 0, 1) := by decide +kernel
theorem dX2_layModel_1 : decode cX2_layModel 1 = .ok (.iconst 1, 1) := by decide +kernel
theorem dX2_layModel_2 : decode cX2_layModel 2 = .ok (.aload_n 1, 1) := by decide +kernel
theorem dX2_layModel_3 : decode cX2_layModel 3 = .ok (.getfield 103, 3) := by decide +kernel
theorem dX2_layModel_6 : decode cX2_layModel 6 = .ok (.invokestatic 108, 3) := by decide +kernel
theorem dX2_layModel_9 : decode cX2_layModel 9 = .ok (.putfield 46, 3) := by decide +kernel
theorem dX2_layModel_12 : decode cX2_layModel 12 = .ok (.aload_n 0, 1) := by decide +kernel
theorem dX2_layModel_13 : decode cX2_layModel 13 = .ok (.aload_n 1, 1) := by decide +kernel
theorem dX2_layModel_14 : decode cX2_layModel 14 = .ok (.getfield 114, 3) := by decide +kernel
theorem dX2_layModel_17 : decode cX2_layModel 17 = .ok (.ifCond .eq 7, 3) := by decide +kernel
theorem dX2_layModel_20 : decode cX2_layModel 20 = .ok (.iconst 1, 1) := by decide +kernel
theorem dX2_layModel_21 : decode cX2_layModel 21 = .ok (.goto 4, 3) := by decide +kernel
theorem dX2_layModel_24 : decode cX2_layModel 24 = .ok (.iconst 0, 1) := by decide +kernel
theorem dX2_layModel_25 : decode cX2_layModel 25 = .ok (.putfield 53, 3) := by decide +kernel
theorem dX2_layModel_28 : decode cX2_layModel 28 = .ok (.aload_n 0, 1) := by decide +kernel
theorem dX2_layModel_29 : decode cX2_layModel 29 = .ok (.iconst 0, 1) := by decide +kernel
theorem dX2_layModel_30 : decode cX2_layModel 30 = .ok (.putfield 50, 3) := by decide +kernel
theorem dX2_layModel_33 : decode cX2_layModel 33 = .ok (.aload_n 1, 1) := by decide +kernel
theorem dX2_layModel_34 : decode cX2_layModel 34 = .ok (.getfield 114, 3) := by decide +kernel
theorem dX2_layModel_37 : decode cX2_layModel 37 = .ok (.ifCond .eq 7, 3) := by decide +kernel
theorem dX2_layModel_40 : decode cX2_layModel 40 = .ok (.aload_n 0, 1) := by decide +kernel
theorem dX2_layModel_41 : decode cX2_layModel 41 = .ok (.invokevirtual 118, 3) := by decide +kernel
theorem dX2_layModel_44 : decode cX2_layModel 44 = .ok (.iconst 1, 1) := by decide +kernel
theorem dX2_layModel_45 : decode cX2_layModel 45 = .ok (.istore_n 2, 1) := by decide +kernel
theorem dX2_layModel_46 : decode cX2_layModel 46 = .ok (.iload_n 2, 1) := by decide +kernel
theorem dX2_layModel_47 : decode cX2_layModel 47 = .ok (.bipush 40, 2) := by decide +kernel
theorem dX2_layModel_49 : decode cX2_layModel 49 = .ok (.if_icmp .ge 25, 3) := by decide +kernel
theorem dX2_layModel_52 : decode cX2_layModel 52 = .ok (.aload_n 1, 1) := by decide +kernel
theorem dX2_layModel_53 : decode cX2_layModel 53 = .ok (.getfield 121, 3) := by decide +kernel
theorem dX2_layModel_56 : decode cX2_layModel 56 = .ok (.iload_n 2, 1) := by decide +kernel
theorem dX2_layModel_57 : decode cX2_layModel 57 = .ok (.invokevirtual 125, 3) := by decide +kernel
theorem dX2_layModel_60 : decode cX2_layModel 60 = .ok (.ifCond .eq 8, 3) := by decide +kernel
theorem dX2_layModel_63 : decode cX2_layModel 63 = .ok (.aload_n 0, 1) := by decide +kernel
theorem dX2_layModel_64 : decode cX2_layModel 64 = .ok (.iload_n 2, 1) := by decide +kernel
theorem dX2_layModel_65 : decode cX2_layModel 65 = .ok (.invokevirtual 131, 3) := by decide +kernel
theorem dX2_layModel_68 : decode cX2_layModel 68 = .ok (.iinc 2 1, 3) := by decide +kernel
theorem dX2_layModel_71 : decode cX2_layModel 71 = .ok (.goto (-25), 3) := by decide +kernel
theorem dX2_layModel_74 : decode cX2_layModel 74 = .ok (.aload_n 0, 1) := by decide +kernel
theorem dX2_layModel_75 : decode cX2_layModel 75 = .ok (.aload_n 0, 1) := by decide +kernel
theorem dX2_layModel_76 : decode cX2_layModel 76 = .ok (.getfield 50, 3) := by decide +kernel
theorem dX2_layModel_79 : decode cX2_layModel 79 = .ok (.putfield 56, 3) := by decide +kernel
theorem dX2_layModel_82 : decode cX2_layModel 82 = .ok (.iconst 0, 1) := by decide +kernel
theorem dX2_layModel_83 : decode cX2_layModel 83 = .ok (.istore_n 2, 1) := by decide +kernel
theorem dX2_layModel_84 : decode cX2_layModel 84 = .ok (.iload_n 2, 1) := by decide +kernel
theorem dX2_layModel_85 : decode cX2_layModel 85 = .ok (.iconst 2, 1) := by decide +kernel
theorem dX2_layModel_86 : decode cX2_layModel 86 = .ok (.if_icmp .ge 27, 3) := by decide +kernel
theorem dX2_layModel_89 : decode cX2_layModel 89 = .ok (.aload_n 1, 1) := by decide +kernel
theorem dX2_layModel_90 : decode cX2_layModel 90 = .ok (.iload_n 2, 1) := by decide +kernel
theorem dX2_layModel_91 : decode cX2_layModel 91 = .ok (.invokevirtual 135, 3) := by decide +kernel
theorem dX2_layModel_94 : decode cX2_layModel 94 = .ok (.ifCond .eq 13, 3) := by decide +kernel
theorem dX2_layModel_97 : decode cX2_layModel 97 = .ok (.aload_n 0, 1) := by decide +kernel
theorem dX2_layModel_98 : decode cX2_layModel 98 = .ok (.aload_n 1, 1) := by decide +kernel
theorem dX2_layModel_99 : decode cX2_layModel 99 = .ok (.getfield 138, 3) := by decide +kernel
theorem dX2_layModel_102 : decode cX2_layModel 102 = .ok (.iload_n 2, 1) := by decide +kernel
theorem dX2_layModel_103 : decode cX2_layModel 103 = .ok (.aaload, 1) := by decide +kernel
theorem dX2_layModel_104 : decode cX2_layModel 104 = .ok (.invokevirtual 142, 3) := by decide +kernel
theorem dX2_layModel_107 : decode cX2_layModel 107 = .ok (.iinc 2 1, 3) := by decide +kernel
theorem dX2_layModel_110 : decode cX2_layModel 110 = .ok (.goto (-26), 3) := by decide +kernel
theorem dX2_layModel_113 : decode cX2_layModel 113 = .ok (.return_, 1) := by decide +kernel
theorem dX2_layRamp_0 : decode cX2_layRamp 0 = .ok (.iconst 0, 1) := by decide +kernel
theorem dX2_layRamp_1 : decode cX2_layRamp 1 = .ok (.istore_n 1, 1) := by decide +kernel
theorem dX2_layRamp_2 : decode cX2_layRamp 2 = .ok (.iload_n 1, 1) := by decide +kernel
theorem dX2_layRamp_3 : decode cX2_layRamp 3 = .ok (.bipush 80, 2) := by decide +kernel
theorem dX2_layRamp_5 : decode cX2_layRamp 5 = .ok (.if_icmp .ge 22, 3) := by decide +kernel
theorem dX2_layRamp_8 : decode cX2_layRamp 8 = .ok (.aload_n 0, 1) := by decide +kernel
theorem dX2_layRamp_9 : decode cX2_layRamp 9 = .ok (.getfield 13, 3) := by decide +kernel
theorem dX2_layRamp_12 : decode cX2_layRamp 12 = .ok (.aload_n 0, 1) := by decide +kernel
theorem dX2_layRamp_13 : decode cX2_layRamp 13 = .ok (.getfield 50, 3) := by decide +kernel
theorem dX2_layRamp_16 : decode cX2_layRamp 16 = .ok (.aaload, 1) := by decide +kernel
theorem dX2_layRamp_17 : decode cX2_layRamp 17 = .ok (.iload_n 1, 1) := by decide +kernel
theorem dX2_layRamp_18 : decode cX2_layRamp 18 = .ok (.iload_n 1, 1) := by decide +kernel
theorem dX2_layRamp_19 : decode cX2_layRamp 19 = .ok (.i2l, 1) := by decide +kernel
theorem dX2_layRamp_20 : decode cX2_layRamp 20 = .ok (.lastore, 1) := by decide +kernel
theorem dX2_layRamp_21 : decode cX2_layRamp 21 = .ok (.iinc 1 1, 3) := by decide +kernel
theorem dX2_layRamp_24 : decode cX2_layRamp 24 = .ok (.goto (-22), 3) := by decide +kernel
theorem dX2_layRamp_27 : decode cX2_layRamp 27 = .ok (.aload_n 0, 1) := by decide +kernel
theorem dX2_layRamp_28 : decode cX2_layRamp 28 = .ok (.dup, 1) := by decide +kernel
theorem dX2_layRamp_29 : decode cX2_layRamp 29 = .ok (.getfield 50, 3) := by decide +kernel
theorem dX2_layRamp_32 : decode cX2_layRamp 32 = .ok (.iconst 1, 1) := by decide +kernel
theorem dX2_layRamp_33 : decode cX2_layRamp 33 = .ok (.iadd, 1) := by decide +kernel
theorem dX2_layRamp_34 : decode cX2_layRamp 34 = .ok (.putfield 50, 3) := by decide +kernel
theorem dX2_layRamp_37 : decode cX2_layRamp 37 = .ok (.return_, 1) := by decide +kernel
theorem dX2_layStep_0 : decode cX2_layStep 0 = .ok (.aload_n 0, 1) := by decide +kernel
theorem dX2_layStep_1 : decode cX2_layStep 1 = .ok (.getfield 50, 3) := by decide +kernel
theorem dX2_layStep_4 : decode cX2_layStep 4 = .ok (.bipush 6, 2) := by decide +kernel
theorem dX2_layStep_6 : decode cX2_layStep 6 = .ok (.if_icmp .lt 4, 3) := by decide +kernel
theorem dX2_layStep_9 : decode cX2_layStep 9 = .ok (.return_, 1) := by decide +kernel
theorem dX2_layStep_10 : decode cX2_layStep 10 = .ok (.iconst 0, 1) := by decide +kernel
theorem dX2_layStep_11 : decode cX2_layStep 11 = .ok (.istore_n 2, 1) := by decide +kernel
theorem dX2_layStep_12 : decode cX2_layStep 12 = .ok (.iload_n 2, 1) := by decide +kernel
theorem dX2_layStep_13 : decode cX2_layStep 13 = .ok (.bipush 80, 2) := by decide +kernel
theorem dX2_layStep_15 : decode cX2_layStep 15 = .ok (.if_icmp .ge 30, 3) := by decide +kernel
theorem dX2_layStep_18 : decode cX2_layStep 18 = .ok (.aload_n 0, 1) := by decide +kernel
theorem dX2_layStep_19 : decode cX2_layStep 19 = .ok (.getfield 13, 3) := by decide +kernel
theorem dX2_layStep_22 : decode cX2_layStep 22 = .ok (.aload_n 0, 1) := by decide +kernel
theorem dX2_layStep_23 : decode cX2_layStep 23 = .ok (.getfield 50, 3) := by decide +kernel
theorem dX2_layStep_26 : decode cX2_layStep 26 = .ok (.aaload, 1) := by decide +kernel
theorem dX2_layStep_27 : decode cX2_layStep 27 = .ok (.iload_n 2, 1) := by decide +kernel
theorem dX2_layStep_28 : decode cX2_layStep 28 = .ok (.iload_n 2, 1) := by decide +kernel
theorem dX2_layStep_29 : decode cX2_layStep 29 = .ok (.iload_n 1, 1) := by decide +kernel
theorem dX2_layStep_30 : decode cX2_layStep 30 = .ok (.if_icmp .lt 7, 3) := by decide +kernel
theorem dX2_layStep_33 : decode cX2_layStep 33 = .ok (.lconst 1, 1) := by decide +kernel
theorem dX2_layStep_34 : decode cX2_layStep 34 = .ok (.goto 4, 3) := by decide +kernel
theorem dX2_layStep_37 : decode cX2_layStep 37 = .ok (.lconst 0, 1) := by decide +kernel
theorem dX2_layStep_38 : decode cX2_layStep 38 = .ok (.lastore, 1) := by decide +kernel
theorem dX2_layStep_39 : decode cX2_layStep 39 = .ok (.iinc 2 1, 3) := by decide +kernel
theorem dX2_layStep_42 : decode cX2_layStep 42 = .ok (.goto (-30), 3) := by decide +kernel
theorem dX2_layStep_45 : decode cX2_layStep 45 = .ok (.aload_n 0, 1) := by decide +kernel
theorem dX2_layStep_46 : decode cX2_layStep 46 = .ok (.dup, 1) := by decide +kernel
theorem dX2_layStep_47 : decode cX2_layStep 47 = .ok (.getfield 50, 3) := by decide +kernel
theorem dX2_layStep_50 : decode cX2_layStep 50 = .ok (.iconst 1, 1) := by decide +kernel
theorem dX2_layStep_51 : decode cX2_layStep 51 = .ok (.iadd, 1) := by decide +kernel
theorem dX2_layStep_52 : decode cX2_layStep 52 = .ok (.putfield 50, 3) := by decide +kernel
theorem dX2_layStep_55 : decode cX2_layStep 55 = .ok (.return_, 1) := by decide +kernel
theorem dX2_layFeast_0 : decode cX2_layFeast 0 = .ok (.aload_n 0, 1) := by decide +kernel
theorem dX2_layFeast_1 : decode cX2_layFeast 1 = .ok (.getfield 50, 3) := by decide +kernel
theorem dX2_layFeast_4 : decode cX2_layFeast 4 = .ok (.bipush 6, 2) := by decide +kernel
theorem dX2_layFeast_6 : decode cX2_layFeast 6 = .ok (.if_icmp .lt 4, 3) := by decide +kernel
theorem dX2_layFeast_9 : decode cX2_layFeast 9 = .ok (.return_, 1) := by decide +kernel
theorem dX2_layFeast_10 : decode cX2_layFeast 10 = .ok (.iconst 0, 1) := by decide +kernel
theorem dX2_layFeast_11 : decode cX2_layFeast 11 = .ok (.istore_n 2, 1) := by decide +kernel
theorem dX2_layFeast_12 : decode cX2_layFeast 12 = .ok (.iload_n 2, 1) := by decide +kernel
theorem dX2_layFeast_13 : decode cX2_layFeast 13 = .ok (.bipush 80, 2) := by decide +kernel
theorem dX2_layFeast_15 : decode cX2_layFeast 15 = .ok (.if_icmp .ge 33, 3) := by decide +kernel
theorem dX2_layFeast_18 : decode cX2_layFeast 18 = .ok (.aload_n 0, 1) := by decide +kernel
theorem dX2_layFeast_19 : decode cX2_layFeast 19 = .ok (.getfield 13, 3) := by decide +kernel
theorem dX2_layFeast_22 : decode cX2_layFeast 22 = .ok (.aload_n 0, 1) := by decide +kernel
theorem dX2_layFeast_23 : decode cX2_layFeast 23 = .ok (.getfield 50, 3) := by decide +kernel
theorem dX2_layFeast_26 : decode cX2_layFeast 26 = .ok (.aaload, 1) := by decide +kernel
theorem dX2_layFeast_27 : decode cX2_layFeast 27 = .ok (.iload_n 2, 1) := by decide +kernel
theorem dX2_layFeast_28 : decode cX2_layFeast 28 = .ok (.aload_n 1, 1) := by decide +kernel
theorem dX2_layFeast_29 : decode cX2_layFeast 29 = .ok (.iload_n 2, 1) := by decide +kernel
theorem dX2_layFeast_30 : decode cX2_layFeast 30 = .ok (.invokevirtual 125, 3) := by decide +kernel
theorem dX2_layFeast_33 : decode cX2_layFeast 33 = .ok (.ifCond .eq 7, 3) := by decide +kernel
theorem dX2_layFeast_36 : decode cX2_layFeast 36 = .ok (.lconst 1, 1) := by decide +kernel
theorem dX2_layFeast_37 : decode cX2_layFeast 37 = .ok (.goto 4, 3) := by decide +kernel
theorem dX2_layFeast_40 : decode cX2_layFeast 40 = .ok (.lconst 0, 1) := by decide +kernel
theorem dX2_layFeast_41 : decode cX2_layFeast 41 = .ok (.lastore, 1) := by decide +kernel
theorem dX2_layFeast_42 : decode cX2_layFeast 42 = .ok (.iinc 2 1, 3) := by decide +kernel
theorem dX2_layFeast_45 : decode cX2_layFeast 45 = .ok (.goto (-33), 3) := by decide +kernel
theorem dX2_layFeast_48 : decode cX2_layFeast 48 = .ok (.aload_n 0, 1) := by decide +kernel
theorem dX2_layFeast_49 : decode cX2_layFeast 49 = .ok (.dup, 1) := by decide +kernel
theorem dX2_layFeast_50 : decode cX2_layFeast 50 = .ok (.getfield 50, 3) := by decide +kernel
theorem dX2_layFeast_53 : decode cX2_layFeast 53 = .ok (.iconst 1, 1) := by decide +kernel
theorem dX2_layFeast_54 : decode cX2_layFeast 54 = .ok (.iadd, 1) := by decide +kernel
theorem dX2_layFeast_55 : decode cX2_layFeast 55 = .ok (.putfield 50, 3) := by decide +kernel
theorem dX2_layFeast_58 : decode cX2_layFeast 58 = .ok (.return_, 1) := by decide +kernel
theorem dX2_layNumbers_0 : decode cX2_layNumbers 0 = .ok (.iconst 0, 1) := by decide +kernel
theorem dX2_layNumbers_1 : decode cX2_layNumbers 1 = .ok (.istore_n 3, 1) := by decide +kernel
theorem dX2_layNumbers_2 : decode cX2_layNumbers 2 = .ok (.iload_n 3, 1) := by decide +kernel
theorem dX2_layNumbers_3 : decode cX2_layNumbers 3 = .ok (.bipush 40, 2) := by decide +kernel
theorem dX2_layNumbers_5 : decode cX2_layNumbers 5 = .ok (.if_icmp .ge 56, 3) := by decide +kernel
theorem dX2_layNumbers_8 : decode cX2_layNumbers 8 = .ok (.iload_n 2, 1) := by decide +kernel
theorem dX2_layNumbers_9 : decode cX2_layNumbers 9 = .ok (.iconst (-1), 1) := by decide +kernel
theorem dX2_layNumbers_10 : decode cX2_layNumbers 10 = .ok (.if_icmp .ne 24, 3) := by decide +kernel
theorem dX2_layNumbers_13 : decode cX2_layNumbers 13 = .ok (.aload_n 0, 1) := by decide +kernel
theorem dX2_layNumbers_14 : decode cX2_layNumbers 14 = .ok (.getfield 13, 3) := by decide +kernel
theorem dX2_layNumbers_17 : decode cX2_layNumbers 17 = .ok (.aload_n 0, 1) := by decide +kernel
theorem dX2_layNumbers_18 : decode cX2_layNumbers 18 = .ok (.getfield 50, 3) := by decide +kernel
theorem dX2_layNumbers_21 : decode cX2_layNumbers 21 = .ok (.aaload, 1) := by decide +kernel
theorem dX2_layNumbers_22 : decode cX2_layNumbers 22 = .ok (.iload_n 3, 1) := by decide +kernel
theorem dX2_layNumbers_23 : decode cX2_layNumbers 23 = .ok (.aload_n 1, 1) := by decide +kernel
theorem dX2_layNumbers_24 : decode cX2_layNumbers 24 = .ok (.getfield 146, 3) := by decide +kernel
theorem dX2_layNumbers_27 : decode cX2_layNumbers 27 = .ok (.iload_n 3, 1) := by decide +kernel
theorem dX2_layNumbers_28 : decode cX2_layNumbers 28 = .ok (.iaload, 1) := by decide +kernel
theorem dX2_layNumbers_29 : decode cX2_layNumbers 29 = .ok (.i2l, 1) := by decide +kernel
theorem dX2_layNumbers_30 : decode cX2_layNumbers 30 = .ok (.lastore, 1) := by decide +kernel
theorem dX2_layNumbers_31 : decode cX2_layNumbers 31 = .ok (.goto 24, 3) := by decide +kernel
theorem dX2_layNumbers_34 : decode cX2_layNumbers 34 = .ok (.aload_n 0, 1) := by decide +kernel
theorem dX2_layNumbers_35 : decode cX2_layNumbers 35 = .ok (.getfield 13, 3) := by decide +kernel
theorem dX2_layNumbers_38 : decode cX2_layNumbers 38 = .ok (.aload_n 0, 1) := by decide +kernel
theorem dX2_layNumbers_39 : decode cX2_layNumbers 39 = .ok (.getfield 50, 3) := by decide +kernel
theorem dX2_layNumbers_42 : decode cX2_layNumbers 42 = .ok (.aaload, 1) := by decide +kernel
theorem dX2_layNumbers_43 : decode cX2_layNumbers 43 = .ok (.iload_n 3, 1) := by decide +kernel
theorem dX2_layNumbers_44 : decode cX2_layNumbers 44 = .ok (.iload_n 3, 1) := by decide +kernel
theorem dX2_layNumbers_45 : decode cX2_layNumbers 45 = .ok (.iload_n 2, 1) := by decide +kernel
theorem dX2_layNumbers_46 : decode cX2_layNumbers 46 = .ok (.if_icmp .ne 7, 3) := by decide +kernel
theorem dX2_layNumbers_49 : decode cX2_layNumbers 49 = .ok (.lconst 1, 1) := by decide +kernel
theorem dX2_layNumbers_50 : decode cX2_layNumbers 50 = .ok (.goto 4, 3) := by decide +kernel
theorem dX2_layNumbers_53 : decode cX2_layNumbers 53 = .ok (.lconst 0, 1) := by decide +kernel
theorem dX2_layNumbers_54 : decode cX2_layNumbers 54 = .ok (.lastore, 1) := by decide +kernel
theorem dX2_layNumbers_55 : decode cX2_layNumbers 55 = .ok (.iinc 3 1, 3) := by decide +kernel
theorem dX2_layNumbers_58 : decode cX2_layNumbers 58 = .ok (.goto (-56), 3) := by decide +kernel
theorem dX2_layNumbers_61 : decode cX2_layNumbers 61 = .ok (.return_, 1) := by decide +kernel
theorem dX2_addUp_0 : decode cX2_addUp 0 = .ok (.aload_n 0, 1) := by decide +kernel
theorem dX2_addUp_1 : decode cX2_addUp 1 = .ok (.getfield 22, 3) := by decide +kernel
theorem dX2_addUp_4 : decode cX2_addUp 4 = .ok (.lconst 0, 1) := by decide +kernel
theorem dX2_addUp_5 : decode cX2_addUp 5 = .ok (.invokestatic 150, 3) := by decide +kernel
theorem dX2_addUp_8 : decode cX2_addUp 8 = .ok (.iconst 0, 1) := by decide +kernel
theorem dX2_addUp_9 : decode cX2_addUp 9 = .ok (.istore_n 2, 1) := by decide +kernel
theorem dX2_addUp_10 : decode cX2_addUp 10 = .ok (.iload_n 2, 1) := by decide +kernel
theorem dX2_addUp_11 : decode cX2_addUp 11 = .ok (.aload_n 0, 1) := by decide +kernel
theorem dX2_addUp_12 : decode cX2_addUp 12 = .ok (.getfield 46, 3) := by decide +kernel
theorem dX2_addUp_15 : decode cX2_addUp 15 = .ok (.if_icmp .ge 19, 3) := by decide +kernel
theorem dX2_addUp_18 : decode cX2_addUp 18 = .ok (.aload_n 0, 1) := by decide +kernel
theorem dX2_addUp_19 : decode cX2_addUp 19 = .ok (.getfield 19, 3) := by decide +kernel
theorem dX2_addUp_22 : decode cX2_addUp 22 = .ok (.iload_n 2, 1) := by decide +kernel
theorem dX2_addUp_23 : decode cX2_addUp 23 = .ok (.aaload, 1) := by decide +kernel
theorem dX2_addUp_24 : decode cX2_addUp 24 = .ok (.lconst 0, 1) := by decide +kernel
theorem dX2_addUp_25 : decode cX2_addUp 25 = .ok (.invokestatic 150, 3) := by decide +kernel
theorem dX2_addUp_28 : decode cX2_addUp 28 = .ok (.iinc 2 1, 3) := by decide +kernel
theorem dX2_addUp_31 : decode cX2_addUp 31 = .ok (.goto (-21), 3) := by decide +kernel
theorem dX2_addUp_34 : decode cX2_addUp 34 = .ok (.iconst 0, 1) := by decide +kernel
theorem dX2_addUp_35 : decode cX2_addUp 35 = .ok (.istore_n 2, 1) := by decide +kernel
theorem dX2_addUp_36 : decode cX2_addUp 36 = .ok (.iload_n 2, 1) := by decide +kernel
theorem dX2_addUp_37 : decode cX2_addUp 37 = .ok (.aload_n 0, 1) := by decide +kernel
theorem dX2_addUp_38 : decode cX2_addUp 38 = .ok (.getfield 50, 3) := by decide +kernel
theorem dX2_addUp_41 : decode cX2_addUp 41 = .ok (.if_icmp .gt 19, 3) := by decide +kernel
theorem dX2_addUp_44 : decode cX2_addUp 44 = .ok (.aload_n 0, 1) := by decide +kernel
theorem dX2_addUp_45 : decode cX2_addUp 45 = .ok (.getfield 16, 3) := by decide +kernel
theorem dX2_addUp_48 : decode cX2_addUp 48 = .ok (.iload_n 2, 1) := by decide +kernel
theorem dX2_addUp_49 : decode cX2_addUp 49 = .ok (.aaload, 1) := by decide +kernel
theorem dX2_addUp_50 : decode cX2_addUp 50 = .ok (.lconst 0, 1) := by decide +kernel
theorem dX2_addUp_51 : decode cX2_addUp 51 = .ok (.invokestatic 150, 3) := by decide +kernel
theorem dX2_addUp_54 : decode cX2_addUp 54 = .ok (.iinc 2 1, 3) := by decide +kernel
theorem dX2_addUp_57 : decode cX2_addUp 57 = .ok (.goto (-21), 3) := by decide +kernel
theorem dX2_addUp_60 : decode cX2_addUp 60 = .ok (.iconst 0, 1) := by decide +kernel
theorem dX2_addUp_61 : decode cX2_addUp 61 = .ok (.istore_n 2, 1) := by decide +kernel
theorem dX2_addUp_62 : decode cX2_addUp 62 = .ok (.iload_n 2, 1) := by decide +kernel
theorem dX2_addUp_63 : decode cX2_addUp 63 = .ok (.bipush 40, 2) := by decide +kernel
theorem dX2_addUp_65 : decode cX2_addUp 65 = .ok (.if_icmp .ge 27, 3) := by decide +kernel
theorem dX2_addUp_68 : decode cX2_addUp 68 = .ok (.aload_n 1, 1) := by decide +kernel
theorem dX2_addUp_69 : decode cX2_addUp 69 = .ok (.iload_n 2, 1) := by decide +kernel
theorem dX2_addUp_70 : decode cX2_addUp 70 = .ok (.invokevirtual 156, 3) := by decide +kernel
theorem dX2_addUp_73 : decode cX2_addUp 73 = .ok (.ifCond .eq 13, 3) := by decide +kernel
theorem dX2_addUp_76 : decode cX2_addUp 76 = .ok (.aload_n 0, 1) := by decide +kernel
theorem dX2_addUp_77 : decode cX2_addUp 77 = .ok (.iload_n 2, 1) := by decide +kernel
theorem dX2_addUp_78 : decode cX2_addUp 78 = .ok (.aload_n 0, 1) := by decide +kernel
theorem dX2_addUp_79 : decode cX2_addUp 79 = .ok (.iload_n 2, 1) := by decide +kernel
theorem dX2_addUp_80 : decode cX2_addUp 80 = .ok (.invokevirtual 159, 3) := by decide +kernel
theorem dX2_addUp_83 : decode cX2_addUp 83 = .ok (.invokevirtual 163, 3) := by decide +kernel
theorem dX2_addUp_86 : decode cX2_addUp 86 = .ok (.iinc 2 1, 3) := by decide +kernel
theorem dX2_addUp_89 : decode cX2_addUp 89 = .ok (.goto (-27), 3) := by decide +kernel
theorem dX2_addUp_92 : decode cX2_addUp 92 = .ok (.return_, 1) := by decide +kernel
theorem dX2_addTick_0 : decode cX2_addTick 0 = .ok (.aload_n 0, 1) := by decide +kernel
theorem dX2_addTick_1 : decode cX2_addTick 1 = .ok (.getfield 22, 3) := by decide +kernel
theorem dX2_addTick_4 : decode cX2_addTick 4 = .ok (.iload_n 2, 1) := by decide +kernel
theorem dX2_addTick_5 : decode cX2_addTick 5 = .ok (.dup2, 1) := by decide +kernel
theorem dX2_addTick_6 : decode cX2_addTick 6 = .ok (.laload, 1) := by decide +kernel
theorem dX2_addTick_7 : decode cX2_addTick 7 = .ok (.lconst 1, 1) := by decide +kernel
theorem dX2_addTick_8 : decode cX2_addTick 8 = .ok (.ladd, 1) := by decide +kernel
theorem dX2_addTick_9 : decode cX2_addTick 9 = .ok (.lastore, 1) := by decide +kernel
theorem dX2_addTick_10 : decode cX2_addTick 10 = .ok (.iconst 0, 1) := by decide +kernel
theorem dX2_addTick_11 : decode cX2_addTick 11 = .ok (.istore_n 3, 1) := by decide +kernel
theorem dX2_addTick_12 : decode cX2_addTick 12 = .ok (.iload_n 3, 1) := by decide +kernel
theorem dX2_addTick_13 : decode cX2_addTick 13 = .ok (.aload_n 0, 1) := by decide +kernel
theorem dX2_addTick_14 : decode cX2_addTick 14 = .ok (.getfield 50, 3) := by decide +kernel
theorem dX2_addTick_17 : decode cX2_addTick 17 = .ok (.if_icmp .gt 84, 3) := by decide +kernel
theorem dX2_addTick_20 : decode cX2_addTick 20 = .ok (.aload_n 0, 1) := by decide +kernel
theorem dX2_addTick_21 : decode cX2_addTick 21 = .ok (.getfield 13, 3) := by decide +kernel
theorem dX2_addTick_24 : decode cX2_addTick 24 = .ok (.iload_n 3, 1) := by decide +kernel
theorem dX2_addTick_25 : decode cX2_addTick 25 = .ok (.aaload, 1) := by decide +kernel
theorem dX2_addTick_26 : decode cX2_addTick 26 = .ok (.iload_n 1, 1) := by decide +kernel
theorem dX2_addTick_27 : decode cX2_addTick 27 = .ok (.laload, 1) := by decide +kernel
theorem dX2_addTick_28 : decode cX2_addTick 28 = .ok (.lstore 4, 2) := by decide +kernel
theorem dX2_addTick_30 : decode cX2_addTick 30 = .ok (.lload 4, 2) := by decide +kernel
theorem dX2_addTick_32 : decode cX2_addTick 32 = .ok (.lconst 0, 1) := by decide +kernel
theorem dX2_addTick_33 : decode cX2_addTick 33 = .ok (.lcmp, 1) := by decide +kernel
theorem dX2_addTick_34 : decode cX2_addTick 34 = .ok (.ifCond .ne 6, 3) := by decide +kernel
theorem dX2_addTick_37 : decode cX2_addTick 37 = .ok (.goto 58, 3) := by decide +kernel
theorem dX2_addTick_40 : decode cX2_addTick 40 = .ok (.aload_n 0, 1) := by decide +kernel
theorem dX2_addTick_41 : decode cX2_addTick 41 = .ok (.getfield 19, 3) := by decide +kernel
theorem dX2_addTick_44 : decode cX2_addTick 44 = .ok (.iload_n 2, 1) := by decide +kernel
theorem dX2_addTick_45 : decode cX2_addTick 45 = .ok (.aaload, 1) := by decide +kernel
theorem dX2_addTick_46 : decode cX2_addTick 46 = .ok (.iload_n 3, 1) := by decide +kernel
theorem dX2_addTick_47 : decode cX2_addTick 47 = .ok (.dup2, 1) := by decide +kernel
theorem dX2_addTick_48 : decode cX2_addTick 48 = .ok (.laload, 1) := by decide +kernel
theorem dX2_addTick_49 : decode cX2_addTick 49 = .ok (.lload 4, 2) := by decide +kernel
theorem dX2_addTick_51 : decode cX2_addTick 51 = .ok (.ladd, 1) := by decide +kernel
theorem dX2_addTick_52 : decode cX2_addTick 52 = .ok (.lastore, 1) := by decide +kernel
theorem dX2_addTick_53 : decode cX2_addTick 53 = .ok (.iload_n 3, 1) := by decide +kernel
theorem dX2_addTick_54 : decode cX2_addTick 54 = .ok (.istore 6, 2) := by decide +kernel
theorem dX2_addTick_56 : decode cX2_addTick 56 = .ok (.iload 6, 2) := by decide +kernel
theorem dX2_addTick_58 : decode cX2_addTick 58 = .ok (.aload_n 0, 1) := by decide +kernel
theorem dX2_addTick_59 : decode cX2_addTick 59 = .ok (.getfield 50, 3) := by decide +kernel
theorem dX2_addTick_62 : decode cX2_addTick 62 = .ok (.if_icmp .gt 33, 3) := by decide +kernel
theorem dX2_addTick_65 : decode cX2_addTick 65 = .ok (.aload_n 0, 1) := by decide +kernel
theorem dX2_addTick_66 : decode cX2_addTick 66 = .ok (.getfield 16, 3) := by decide +kernel
theorem dX2_addTick_69 : decode cX2_addTick 69 = .ok (.iload_n 3, 1) := by decide +kernel
theorem dX2_addTick_70 : decode cX2_addTick 70 = .ok (.aaload, 1) := by decide +kernel
theorem dX2_addTick_71 : decode cX2_addTick 71 = .ok (.iload 6, 2) := by decide +kernel
theorem dX2_addTick_73 : decode cX2_addTick 73 = .ok (.dup2, 1) := by decide +kernel
theorem dX2_addTick_74 : decode cX2_addTick 74 = .ok (.laload, 1) := by decide +kernel
theorem dX2_addTick_75 : decode cX2_addTick 75 = .ok (.lload 4, 2) := by decide +kernel
theorem dX2_addTick_77 : decode cX2_addTick 77 = .ok (.aload_n 0, 1) := by decide +kernel
theorem dX2_addTick_78 : decode cX2_addTick 78 = .ok (.getfield 13, 3) := by decide +kernel
theorem dX2_addTick_81 : decode cX2_addTick 81 = .ok (.iload 6, 2) := by decide +kernel
theorem dX2_addTick_83 : decode cX2_addTick 83 = .ok (.aaload, 1) := by decide +kernel
theorem dX2_addTick_84 : decode cX2_addTick 84 = .ok (.iload_n 1, 1) := by decide +kernel
theorem dX2_addTick_85 : decode cX2_addTick 85 = .ok (.laload, 1) := by decide +kernel
theorem dX2_addTick_86 : decode cX2_addTick 86 = .ok (.lmul, 1) := by decide +kernel
theorem dX2_addTick_87 : decode cX2_addTick 87 = .ok (.ladd, 1) := by decide +kernel
theorem dX2_addTick_88 : decode cX2_addTick 88 = .ok (.lastore, 1) := by decide +kernel
theorem dX2_addTick_89 : decode cX2_addTick 89 = .ok (.iinc 6 1, 3) := by decide +kernel
theorem dX2_addTick_92 : decode cX2_addTick 92 = .ok (.goto (-36), 3) := by decide +kernel
theorem dX2_addTick_95 : decode cX2_addTick 95 = .ok (.iinc 3 1, 3) := by decide +kernel
theorem dX2_addTick_98 : decode cX2_addTick 98 = .ok (.goto (-86), 3) := by decide +kernel
theorem dX2_addTick_101 : decode cX2_addTick 101 = .ok (.return_, 1) := by decide +kernel
theorem dX2_takeOutPlaces_0 : decode cX2_takeOutPlaces 0 = .ok (.iconst 0, 1) := by decide +kernel
theorem dX2_takeOutPlaces_1 : decode cX2_takeOutPlaces 1 = .ok (.istore_n 3, 1) := by decide +kernel
theorem dX2_takeOutPlaces_2 : decode cX2_takeOutPlaces 2 = .ok (.iload_n 3, 1) := by decide +kernel
theorem dX2_takeOutPlaces_3 : decode cX2_takeOutPlaces 3 = .ok (.aload_n 0, 1) := by decide +kernel
theorem dX2_takeOutPlaces_4 : decode cX2_takeOutPlaces 4 = .ok (.getfield 50, 3) := by decide +kernel
theorem dX2_takeOutPlaces_7 : decode cX2_takeOutPlaces 7 = .ok (.if_icmp .gt 117, 3) := by decide +kernel
theorem dX2_takeOutPlaces_10 : decode cX2_takeOutPlaces 10 = .ok (.iload_n 3, 1) := by decide +kernel
theorem dX2_takeOutPlaces_11 : decode cX2_takeOutPlaces 11 = .ok (.istore 4, 2) := by decide +kernel
theorem dX2_takeOutPlaces_13 : decode cX2_takeOutPlaces 13 = .ok (.iload 4, 2) := by decide +kernel
theorem dX2_takeOutPlaces_15 : decode cX2_takeOutPlaces 15 = .ok (.aload_n 0, 1) := by decide +kernel
theorem dX2_takeOutPlaces_16 : decode cX2_takeOutPlaces 16 = .ok (.getfield 50, 3) := by decide +kernel
theorem dX2_takeOutPlaces_19 : decode cX2_takeOutPlaces 19 = .ok (.if_icmp .gt 99, 3) := by decide +kernel
theorem dX2_takeOutPlaces_22 : decode cX2_takeOutPlaces 22 = .ok (.lload_n 1, 1) := by decide +kernel
theorem dX2_takeOutPlaces_23 : decode cX2_takeOutPlaces 23 = .ok (.aload_n 0, 1) := by decide +kernel
theorem dX2_takeOutPlaces_24 : decode cX2_takeOutPlaces 24 = .ok (.getfield 16, 3) := by decide +kernel
theorem dX2_takeOutPlaces_27 : decode cX2_takeOutPlaces 27 = .ok (.iload_n 3, 1) := by decide +kernel
theorem dX2_takeOutPlaces_28 : decode cX2_takeOutPlaces 28 = .ok (.aaload, 1) := by decide +kernel
theorem dX2_takeOutPlaces_29 : decode cX2_takeOutPlaces 29 = .ok (.iload 4, 2) := by decide +kernel
theorem dX2_takeOutPlaces_31 : decode cX2_takeOutPlaces 31 = .ok (.laload, 1) := by decide +kernel
theorem dX2_takeOutPlaces_32 : decode cX2_takeOutPlaces 32 = .ok (.lmul, 1) := by decide +kernel
theorem dX2_takeOutPlaces_33 : decode cX2_takeOutPlaces 33 = .ok (.lstore 5, 2) := by decide +kernel
theorem dX2_takeOutPlaces_35 : decode cX2_takeOutPlaces 35 = .ok (.iconst 0, 1) := by decide +kernel
theorem dX2_takeOutPlaces_36 : decode cX2_takeOutPlaces 36 = .ok (.istore 7, 2) := by decide +kernel
theorem dX2_takeOutPlaces_38 : decode cX2_takeOutPlaces 38 = .ok (.iload 7, 2) := by decide +kernel
theorem dX2_takeOutPlaces_40 : decode cX2_takeOutPlaces 40 = .ok (.aload_n 0, 1) := by decide +kernel
theorem dX2_takeOutPlaces_41 : decode cX2_takeOutPlaces 41 = .ok (.getfield 46, 3) := by decide +kernel
theorem dX2_takeOutPlaces_44 : decode cX2_takeOutPlaces 44 = .ok (.if_icmp .ge 56, 3) := by decide +kernel
theorem dX2_takeOutPlaces_47 : decode cX2_takeOutPlaces 47 = .ok (.aload_n 0, 1) := by decide +kernel
theorem dX2_takeOutPlaces_48 : decode cX2_takeOutPlaces 48 = .ok (.getfield 22, 3) := by decide +kernel
theorem dX2_takeOutPlaces_51 : decode cX2_takeOutPlaces 51 = .ok (.iload 7, 2) := by decide +kernel
theorem dX2_takeOutPlaces_53 : decode cX2_takeOutPlaces 53 = .ok (.laload, 1) := by decide +kernel
theorem dX2_takeOutPlaces_54 : decode cX2_takeOutPlaces 54 = .ok (.lconst 0, 1) := by decide +kernel
theorem dX2_takeOutPlaces_55 : decode cX2_takeOutPlaces 55 = .ok (.lcmp, 1) := by decide +kernel
theorem dX2_takeOutPlaces_56 : decode cX2_takeOutPlaces 56 = .ok (.ifCond .le 38, 3) := by decide +kernel
theorem dX2_takeOutPlaces_59 : decode cX2_takeOutPlaces 59 = .ok (.lload 5, 2) := by decide +kernel
theorem dX2_takeOutPlaces_61 : decode cX2_takeOutPlaces 61 = .ok (.lload_n 1, 1) := by decide +kernel
theorem dX2_takeOutPlaces_62 : decode cX2_takeOutPlaces 62 = .ok (.aload_n 0, 1) := by decide +kernel
theorem dX2_takeOutPlaces_63 : decode cX2_takeOutPlaces 63 = .ok (.getfield 22, 3) := by decide +kernel
theorem dX2_takeOutPlaces_66 : decode cX2_takeOutPlaces 66 = .ok (.iload 7, 2) := by decide +kernel
theorem dX2_takeOutPlaces_68 : decode cX2_takeOutPlaces 68 = .ok (.laload, 1) := by decide +kernel
theorem dX2_takeOutPlaces_69 : decode cX2_takeOutPlaces 69 = .ok (.ldiv, 1) := by decide +kernel
theorem dX2_takeOutPlaces_70 : decode cX2_takeOutPlaces 70 = .ok (.aload_n 0, 1) := by decide +kernel
theorem dX2_takeOutPlaces_71 : decode cX2_takeOutPlaces 71 = .ok (.getfield 19, 3) := by decide +kernel
theorem dX2_takeOutPlaces_74 : decode cX2_takeOutPlaces 74 = .ok (.iload 7, 2) := by decide +kernel
theorem dX2_takeOutPlaces_76 : decode cX2_takeOutPlaces 76 = .ok (.aaload, 1) := by decide +kernel
theorem dX2_takeOutPlaces_77 : decode cX2_takeOutPlaces 77 = .ok (.iload_n 3, 1) := by decide +kernel
theorem dX2_takeOutPlaces_78 : decode cX2_takeOutPlaces 78 = .ok (.laload, 1) := by decide +kernel
theorem dX2_takeOutPlaces_79 : decode cX2_takeOutPlaces 79 = .ok (.lmul, 1) := by decide +kernel
theorem dX2_takeOutPlaces_80 : decode cX2_takeOutPlaces 80 = .ok (.aload_n 0, 1) := by decide +kernel
theorem dX2_takeOutPlaces_81 : decode cX2_takeOutPlaces 81 = .ok (.getfield 19, 3) := by decide +kernel
theorem dX2_takeOutPlaces_84 : decode cX2_takeOutPlaces 84 = .ok (.iload 7, 2) := by decide +kernel
theorem dX2_takeOutPlaces_86 : decode cX2_takeOutPlaces 86 = .ok (.aaload, 1) := by decide +kernel
theorem dX2_takeOutPlaces_87 : decode cX2_takeOutPlaces 87 = .ok (.iload 4, 2) := by decide +kernel
theorem dX2_takeOutPlaces_89 : decode cX2_takeOutPlaces 89 = .ok (.laload, 1) := by decide +kernel
theorem dX2_takeOutPlaces_90 : decode cX2_takeOutPlaces 90 = .ok (.lmul, 1) := by decide +kernel
theorem dX2_takeOutPlaces_91 : decode cX2_takeOutPlaces 91 = .ok (.lsub, 1) := by decide +kernel
theorem dX2_takeOutPlaces_92 : decode cX2_takeOutPlaces 92 = .ok (.lstore 5, 2) := by decide +kernel
theorem dX2_takeOutPlaces_94 : decode cX2_takeOutPlaces 94 = .ok (.iinc 7 1, 3) := by decide +kernel
theorem dX2_takeOutPlaces_97 : decode cX2_takeOutPlaces 97 = .ok (.goto (-59), 3) := by decide +kernel
theorem dX2_takeOutPlaces_100 : decode cX2_takeOutPlaces 100 = .ok (.aload_n 0, 1) := by decide +kernel
theorem dX2_takeOutPlaces_101 : decode cX2_takeOutPlaces 101 = .ok (.iload_n 3, 1) := by decide +kernel
theorem dX2_takeOutPlaces_102 : decode cX2_takeOutPlaces 102 = .ok (.iload 4, 2) := by decide +kernel
theorem dX2_takeOutPlaces_104 : decode cX2_takeOutPlaces 104 = .ok (.invokevirtual 88, 3) := by decide +kernel
theorem dX2_takeOutPlaces_107 : decode cX2_takeOutPlaces 107 = .ok (.lload 5, 2) := by decide +kernel
theorem dX2_takeOutPlaces_109 : decode cX2_takeOutPlaces 109 = .ok (.invokevirtual 100, 3) := by decide +kernel
theorem dX2_takeOutPlaces_112 : decode cX2_takeOutPlaces 112 = .ok (.iinc 4 1, 3) := by decide +kernel
theorem dX2_takeOutPlaces_115 : decode cX2_takeOutPlaces 115 = .ok (.goto (-102), 3) := by decide +kernel
theorem dX2_takeOutPlaces_118 : decode cX2_takeOutPlaces 118 = .ok (.iinc 3 1, 3) := by decide +kernel
theorem dX2_takeOutPlaces_121 : decode cX2_takeOutPlaces 121 = .ok (.goto (-119), 3) := by decide +kernel
theorem dX2_takeOutPlaces_124 : decode cX2_takeOutPlaces 124 = .ok (.return_, 1) := by decide +kernel
theorem dX2_eliminate_0 : decode cX2_eliminate 0 = .ok (.iload_n 1, 1) := by decide +kernel
theorem dX2_eliminate_1 : decode cX2_eliminate 1 = .ok (.iconst 1, 1) := by decide +kernel
theorem dX2_eliminate_2 : decode cX2_eliminate 2 = .ok (.iadd, 1) := by decide +kernel
theorem dX2_eliminate_3 : decode cX2_eliminate 3 = .ok (.istore 4, 2) := by decide +kernel
theorem dX2_eliminate_5 : decode cX2_eliminate 5 = .ok (.iload 4, 2) := by decide +kernel
theorem dX2_eliminate_7 : decode cX2_eliminate 7 = .ok (.aload_n 0, 1) := by decide +kernel
theorem dX2_eliminate_8 : decode cX2_eliminate 8 = .ok (.getfield 50, 3) := by decide +kernel
theorem dX2_eliminate_11 : decode cX2_eliminate 11 = .ok (.if_icmp .gt 99, 3) := by decide +kernel
theorem dX2_eliminate_14 : decode cX2_eliminate 14 = .ok (.iload 4, 2) := by decide +kernel
theorem dX2_eliminate_16 : decode cX2_eliminate 16 = .ok (.istore 5, 2) := by decide +kernel
theorem dX2_eliminate_18 : decode cX2_eliminate 18 = .ok (.iload 5, 2) := by decide +kernel
theorem dX2_eliminate_20 : decode cX2_eliminate 20 = .ok (.aload_n 0, 1) := by decide +kernel
theorem dX2_eliminate_21 : decode cX2_eliminate 21 = .ok (.getfield 50, 3) := by decide +kernel
theorem dX2_eliminate_24 : decode cX2_eliminate 24 = .ok (.if_icmp .gt 80, 3) := by decide +kernel
theorem dX2_eliminate_27 : decode cX2_eliminate 27 = .ok (.aload_n 0, 1) := by decide +kernel
theorem dX2_eliminate_28 : decode cX2_eliminate 28 = .ok (.iload 4, 2) := by decide +kernel
theorem dX2_eliminate_30 : decode cX2_eliminate 30 = .ok (.iload 5, 2) := by decide +kernel
theorem dX2_eliminate_32 : decode cX2_eliminate 32 = .ok (.invokevirtual 88, 3) := by decide +kernel
theorem dX2_eliminate_35 : decode cX2_eliminate 35 = .ok (.astore 6, 2) := by decide +kernel
theorem dX2_eliminate_37 : decode cX2_eliminate 37 = .ok (.aload_n 0, 1) := by decide +kernel
theorem dX2_eliminate_38 : decode cX2_eliminate 38 = .ok (.getfield 59, 3) := by decide +kernel
theorem dX2_eliminate_41 : decode cX2_eliminate 41 = .ok (.invokevirtual 167, 3) := by decide +kernel
theorem dX2_eliminate_44 : decode cX2_eliminate 44 = .ok (.aload_n 0, 1) := by decide +kernel
theorem dX2_eliminate_45 : decode cX2_eliminate 45 = .ok (.getfield 59, 3) := by decide +kernel
theorem dX2_eliminate_48 : decode cX2_eliminate 48 = .ok (.aload_n 0, 1) := by decide +kernel
theorem dX2_eliminate_49 : decode cX2_eliminate 49 = .ok (.iload_n 1, 1) := by decide +kernel
theorem dX2_eliminate_50 : decode cX2_eliminate 50 = .ok (.iload_n 1, 1) := by decide +kernel
theorem dX2_eliminate_51 : decode cX2_eliminate 51 = .ok (.invokevirtual 88, 3) := by decide +kernel
theorem dX2_eliminate_54 : decode cX2_eliminate 54 = .ok (.aload 6, 2) := by decide +kernel
theorem dX2_eliminate_56 : decode cX2_eliminate 56 = .ok (.iconst 0, 1) := by decide +kernel
theorem dX2_eliminate_57 : decode cX2_eliminate 57 = .ok (.invokevirtual 172, 3) := by decide +kernel
theorem dX2_eliminate_60 : decode cX2_eliminate 60 = .ok (.aload_n 0, 1) := by decide +kernel
theorem dX2_eliminate_61 : decode cX2_eliminate 61 = .ok (.getfield 59, 3) := by decide +kernel
theorem dX2_eliminate_64 : decode cX2_eliminate 64 = .ok (.aload_n 0, 1) := by decide +kernel
theorem dX2_eliminate_65 : decode cX2_eliminate 65 = .ok (.iload_n 1, 1) := by decide +kernel
theorem dX2_eliminate_66 : decode cX2_eliminate 66 = .ok (.iload 4, 2) := by decide +kernel
theorem dX2_eliminate_68 : decode cX2_eliminate 68 = .ok (.invokevirtual 88, 3) := by decide +kernel
theorem dX2_eliminate_71 : decode cX2_eliminate 71 = .ok (.aload_n 0, 1) := by decide +kernel
theorem dX2_eliminate_72 : decode cX2_eliminate 72 = .ok (.iload_n 1, 1) := by decide +kernel
theorem dX2_eliminate_73 : decode cX2_eliminate 73 = .ok (.iload 5, 2) := by decide +kernel
theorem dX2_eliminate_75 : decode cX2_eliminate 75 = .ok (.invokevirtual 88, 3) := by decide +kernel
theorem dX2_eliminate_78 : decode cX2_eliminate 78 = .ok (.iconst 1, 1) := by decide +kernel
theorem dX2_eliminate_79 : decode cX2_eliminate 79 = .ok (.invokevirtual 172, 3) := by decide +kernel
theorem dX2_eliminate_82 : decode cX2_eliminate 82 = .ok (.aload_n 0, 1) := by decide +kernel
theorem dX2_eliminate_83 : decode cX2_eliminate 83 = .ok (.getfield 59, 3) := by decide +kernel
theorem dX2_eliminate_86 : decode cX2_eliminate 86 = .ok (.aload 6, 2) := by decide +kernel
theorem dX2_eliminate_88 : decode cX2_eliminate 88 = .ok (.invokevirtual 176, 3) := by decide +kernel
theorem dX2_eliminate_91 : decode cX2_eliminate 91 = .ok (.aload 6, 2) := by decide +kernel
theorem dX2_eliminate_93 : decode cX2_eliminate 93 = .ok (.lload_n 2, 1) := by decide +kernel
theorem dX2_eliminate_94 : decode cX2_eliminate 94 = .ok (.invokevirtual 180, 3) := by decide +kernel
theorem dX2_eliminate_97 : decode cX2_eliminate 97 = .ok (.pop2, 1) := by decide +kernel
theorem dX2_eliminate_98 : decode cX2_eliminate 98 = .ok (.iinc 5 1, 3) := by decide +kernel
theorem dX2_eliminate_101 : decode cX2_eliminate 101 = .ok (.goto (-83), 3) := by decide +kernel
theorem dX2_eliminate_104 : decode cX2_eliminate 104 = .ok (.iinc 4 1, 3) := by decide +kernel
theorem dX2_eliminate_107 : decode cX2_eliminate 107 = .ok (.goto (-102), 3) := by decide +kernel
theorem dX2_eliminate_110 : decode cX2_eliminate 110 = .ok (.return_, 1) := by decide +kernel
theorem dX2_findTops_0 : decode cX2_findTops 0 = .ok (.aload_n 0, 1) := by decide +kernel
theorem dX2_findTops_1 : decode cX2_findTops 1 = .ok (.getfield 50, 3) := by decide +kernel
theorem dX2_findTops_4 : decode cX2_findTops 4 = .ok (.iconst 1, 1) := by decide +kernel
theorem dX2_findTops_5 : decode cX2_findTops 5 = .ok (.isub, 1) := by decide +kernel
theorem dX2_findTops_6 : decode cX2_findTops 6 = .ok (.istore_n 1, 1) := by decide +kernel
theorem dX2_findTops_7 : decode cX2_findTops 7 = .ok (.iload_n 1, 1) := by decide +kernel
theorem dX2_findTops_8 : decode cX2_findTops 8 = .ok (.ifCond .lt 107, 3) := by decide +kernel
theorem dX2_findTops_11 : decode cX2_findTops 11 = .ok (.aload_n 0, 1) := by decide +kernel
theorem dX2_findTops_12 : decode cX2_findTops 12 = .ok (.getfield 59, 3) := by decide +kernel
theorem dX2_findTops_15 : decode cX2_findTops 15 = .ok (.invokevirtual 167, 3) := by decide +kernel
theorem dX2_findTops_18 : decode cX2_findTops 18 = .ok (.aload_n 0, 1) := by decide +kernel
theorem dX2_findTops_19 : decode cX2_findTops 19 = .ok (.getfield 59, 3) := by decide +kernel
theorem dX2_findTops_22 : decode cX2_findTops 22 = .ok (.aload_n 0, 1) := by decide +kernel
theorem dX2_findTops_23 : decode cX2_findTops 23 = .ok (.getfield 39, 3) := by decide +kernel
theorem dX2_findTops_26 : decode cX2_findTops 26 = .ok (.aload_n 0, 1) := by decide +kernel
theorem dX2_findTops_27 : decode cX2_findTops 27 = .ok (.iload_n 1, 1) := by decide +kernel
theorem dX2_findTops_28 : decode cX2_findTops 28 = .ok (.aload_n 0, 1) := by decide +kernel
theorem dX2_findTops_29 : decode cX2_findTops 29 = .ok (.getfield 50, 3) := by decide +kernel
theorem dX2_findTops_32 : decode cX2_findTops 32 = .ok (.invokevirtual 88, 3) := by decide +kernel
theorem dX2_findTops_35 : decode cX2_findTops 35 = .ok (.iconst 0, 1) := by decide +kernel
theorem dX2_findTops_36 : decode cX2_findTops 36 = .ok (.invokevirtual 172, 3) := by decide +kernel
theorem dX2_findTops_39 : decode cX2_findTops 39 = .ok (.iload_n 1, 1) := by decide +kernel
theorem dX2_findTops_40 : decode cX2_findTops 40 = .ok (.iconst 1, 1) := by decide +kernel
theorem dX2_findTops_41 : decode cX2_findTops 41 = .ok (.iadd, 1) := by decide +kernel
theorem dX2_findTops_42 : decode cX2_findTops 42 = .ok (.istore_n 2, 1) := by decide +kernel
theorem dX2_findTops_43 : decode cX2_findTops 43 = .ok (.iload_n 2, 1) := by decide +kernel
theorem dX2_findTops_44 : decode cX2_findTops 44 = .ok (.aload_n 0, 1) := by decide +kernel
theorem dX2_findTops_45 : decode cX2_findTops 45 = .ok (.getfield 50, 3) := by decide +kernel
theorem dX2_findTops_48 : decode cX2_findTops 48 = .ok (.if_icmp .ge 29, 3) := by decide +kernel
theorem dX2_findTops_51 : decode cX2_findTops 51 = .ok (.aload_n 0, 1) := by decide +kernel
theorem dX2_findTops_52 : decode cX2_findTops 52 = .ok (.getfield 59, 3) := by decide +kernel
theorem dX2_findTops_55 : decode cX2_findTops 55 = .ok (.aload_n 0, 1) := by decide +kernel
theorem dX2_findTops_56 : decode cX2_findTops 56 = .ok (.iload_n 1, 1) := by decide +kernel
theorem dX2_findTops_57 : decode cX2_findTops 57 = .ok (.iload_n 2, 1) := by decide +kernel
theorem dX2_findTops_58 : decode cX2_findTops 58 = .ok (.invokevirtual 88, 3) := by decide +kernel
theorem dX2_findTops_61 : decode cX2_findTops 61 = .ok (.aload_n 0, 1) := by decide +kernel
theorem dX2_findTops_62 : decode cX2_findTops 62 = .ok (.getfield 32, 3) := by decide +kernel
theorem dX2_findTops_65 : decode cX2_findTops 65 = .ok (.iload_n 2, 1) := by decide +kernel
theorem dX2_findTops_66 : decode cX2_findTops 66 = .ok (.aaload, 1) := by decide +kernel
theorem dX2_findTops_67 : decode cX2_findTops 67 = .ok (.iconst 1, 1) := by decide +kernel
theorem dX2_findTops_68 : decode cX2_findTops 68 = .ok (.invokevirtual 172, 3) := by decide +kernel
theorem dX2_findTops_71 : decode cX2_findTops 71 = .ok (.iinc 2 1, 3) := by decide +kernel
theorem dX2_findTops_74 : decode cX2_findTops 74 = .ok (.goto (-31), 3) := by decide +kernel
theorem dX2_findTops_77 : decode cX2_findTops 77 = .ok (.aload_n 0, 1) := by decide +kernel
theorem dX2_findTops_78 : decode cX2_findTops 78 = .ok (.getfield 59, 3) := by decide +kernel
theorem dX2_findTops_81 : decode cX2_findTops 81 = .ok (.aload_n 0, 1) := by decide +kernel
theorem dX2_findTops_82 : decode cX2_findTops 82 = .ok (.getfield 32, 3) := by decide +kernel
theorem dX2_findTops_85 : decode cX2_findTops 85 = .ok (.iload_n 1, 1) := by decide +kernel
theorem dX2_findTops_86 : decode cX2_findTops 86 = .ok (.aaload, 1) := by decide +kernel
theorem dX2_findTops_87 : decode cX2_findTops 87 = .ok (.invokevirtual 176, 3) := by decide +kernel
theorem dX2_findTops_90 : decode cX2_findTops 90 = .ok (.aload_n 0, 1) := by decide +kernel
theorem dX2_findTops_91 : decode cX2_findTops 91 = .ok (.getfield 32, 3) := by decide +kernel
theorem dX2_findTops_94 : decode cX2_findTops 94 = .ok (.iload_n 1, 1) := by decide +kernel
theorem dX2_findTops_95 : decode cX2_findTops 95 = .ok (.aaload, 1) := by decide +kernel
theorem dX2_findTops_96 : decode cX2_findTops 96 = .ok (.aload_n 0, 1) := by decide +kernel
theorem dX2_findTops_97 : decode cX2_findTops 97 = .ok (.iload_n 1, 1) := by decide +kernel
theorem dX2_findTops_98 : decode cX2_findTops 98 = .ok (.iload_n 1, 1) := by decide +kernel
theorem dX2_findTops_99 : decode cX2_findTops 99 = .ok (.invokevirtual 88, 3) := by decide +kernel
theorem dX2_findTops_102 : decode cX2_findTops 102 = .ok (.invokevirtual 92, 3) := by decide +kernel
theorem dX2_findTops_105 : decode cX2_findTops 105 = .ok (.invokevirtual 180, 3) := by decide +kernel
theorem dX2_findTops_108 : decode cX2_findTops 108 = .ok (.pop2, 1) := by decide +kernel
theorem dX2_findTops_109 : decode cX2_findTops 109 = .ok (.iinc 1 (-1), 3) := by decide +kernel
theorem dX2_findTops_112 : decode cX2_findTops 112 = .ok (.goto (-105), 3) := by decide +kernel
theorem dX2_findTops_115 : decode cX2_findTops 115 = .ok (.return_, 1) := by decide +kernel
theorem dX2_findPlaceTops_0 : decode cX2_findPlaceTops 0 = .ok (.iconst 0, 1) := by decide +kernel
theorem dX2_findPlaceTops_1 : decode cX2_findPlaceTops 1 = .ok (.istore_n 1, 1) := by decide +kernel
theorem dX2_findPlaceTops_2 : decode cX2_findPlaceTops 2 = .ok (.iload_n 1, 1) := by decide +kernel
theorem dX2_findPlaceTops_3 : decode cX2_findPlaceTops 3 = .ok (.aload_n 0, 1) := by decide +kernel
theorem dX2_findPlaceTops_4 : decode cX2_findPlaceTops 4 = .ok (.getfield 46, 3) := by decide +kernel
theorem dX2_findPlaceTops_7 : decode cX2_findPlaceTops 7 = .ok (.if_icmp .ge 105, 3) := by decide +kernel
theorem dX2_findPlaceTops_10 : decode cX2_findPlaceTops 10 = .ok (.aload_n 0, 1) := by decide +kernel
theorem dX2_findPlaceTops_11 : decode cX2_findPlaceTops 11 = .ok (.getfield 59, 3) := by decide +kernel
theorem dX2_findPlaceTops_14 : decode cX2_findPlaceTops 14 = .ok (.invokevirtual 167, 3) := by decide +kernel
theorem dX2_findPlaceTops_17 : decode cX2_findPlaceTops 17 = .ok (.aload_n 0, 1) := by decide +kernel
theorem dX2_findPlaceTops_18 : decode cX2_findPlaceTops 18 = .ok (.getfield 59, 3) := by decide +kernel
theorem dX2_findPlaceTops_21 : decode cX2_findPlaceTops 21 = .ok (.aload_n 0, 1) := by decide +kernel
theorem dX2_findPlaceTops_22 : decode cX2_findPlaceTops 22 = .ok (.getfield 39, 3) := by decide +kernel
theorem dX2_findPlaceTops_25 : decode cX2_findPlaceTops 25 = .ok (.aload_n 0, 1) := by decide +kernel
theorem dX2_findPlaceTops_26 : decode cX2_findPlaceTops 26 = .ok (.getfield 19, 3) := by decide +kernel
theorem dX2_findPlaceTops_29 : decode cX2_findPlaceTops 29 = .ok (.iload_n 1, 1) := by decide +kernel
theorem dX2_findPlaceTops_30 : decode cX2_findPlaceTops 30 = .ok (.aaload, 1) := by decide +kernel
theorem dX2_findPlaceTops_31 : decode cX2_findPlaceTops 31 = .ok (.aload_n 0, 1) := by decide +kernel
theorem dX2_findPlaceTops_32 : decode cX2_findPlaceTops 32 = .ok (.getfield 50, 3) := by decide +kernel
theorem dX2_findPlaceTops_35 : decode cX2_findPlaceTops 35 = .ok (.laload, 1) := by decide +kernel
theorem dX2_findPlaceTops_36 : decode cX2_findPlaceTops 36 = .ok (.invokevirtual 184, 3) := by decide +kernel
theorem dX2_findPlaceTops_39 : decode cX2_findPlaceTops 39 = .ok (.iconst 0, 1) := by decide +kernel
theorem dX2_findPlaceTops_40 : decode cX2_findPlaceTops 40 = .ok (.istore_n 2, 1) := by decide +kernel
theorem dX2_findPlaceTops_41 : decode cX2_findPlaceTops 41 = .ok (.iload_n 2, 1) := by decide +kernel
theorem dX2_findPlaceTops_42 : decode cX2_findPlaceTops 42 = .ok (.aload_n 0, 1) := by decide +kernel
theorem dX2_findPlaceTops_43 : decode cX2_findPlaceTops 43 = .ok (.getfield 50, 3) := by decide +kernel
theorem dX2_findPlaceTops_46 : decode cX2_findPlaceTops 46 = .ok (.if_icmp .ge 31, 3) := by decide +kernel
theorem dX2_findPlaceTops_49 : decode cX2_findPlaceTops 49 = .ok (.aload_n 0, 1) := by decide +kernel
theorem dX2_findPlaceTops_50 : decode cX2_findPlaceTops 50 = .ok (.getfield 59, 3) := by decide +kernel
theorem dX2_findPlaceTops_53 : decode cX2_findPlaceTops 53 = .ok (.aload_n 0, 1) := by decide +kernel
theorem dX2_findPlaceTops_54 : decode cX2_findPlaceTops 54 = .ok (.getfield 32, 3) := by decide +kernel
theorem dX2_findPlaceTops_57 : decode cX2_findPlaceTops 57 = .ok (.iload_n 2, 1) := by decide +kernel
theorem dX2_findPlaceTops_58 : decode cX2_findPlaceTops 58 = .ok (.aaload, 1) := by decide +kernel
theorem dX2_findPlaceTops_59 : decode cX2_findPlaceTops 59 = .ok (.aload_n 0, 1) := by decide +kernel
theorem dX2_findPlaceTops_60 : decode cX2_findPlaceTops 60 = .ok (.getfield 19, 3) := by decide +kernel
theorem dX2_findPlaceTops_63 : decode cX2_findPlaceTops 63 = .ok (.iload_n 1, 1) := by decide +kernel
theorem dX2_findPlaceTops_64 : decode cX2_findPlaceTops 64 = .ok (.aaload, 1) := by decide +kernel
theorem dX2_findPlaceTops_65 : decode cX2_findPlaceTops 65 = .ok (.iload_n 2, 1) := by decide +kernel
theorem dX2_findPlaceTops_66 : decode cX2_findPlaceTops 66 = .ok (.laload, 1) := by decide +kernel
theorem dX2_findPlaceTops_67 : decode cX2_findPlaceTops 67 = .ok (.lneg, 1) := by decide +kernel
theorem dX2_findPlaceTops_68 : decode cX2_findPlaceTops 68 = .ok (.invokevirtual 184, 3) := by decide +kernel
theorem dX2_findPlaceTops_71 : decode cX2_findPlaceTops 71 = .ok (.iinc 2 1, 3) := by decide +kernel
theorem dX2_findPlaceTops_74 : decode cX2_findPlaceTops 74 = .ok (.goto (-33), 3) := by decide +kernel
theorem dX2_findPlaceTops_77 : decode cX2_findPlaceTops 77 = .ok (.aload_n 0, 1) := by decide +kernel
theorem dX2_findPlaceTops_78 : decode cX2_findPlaceTops 78 = .ok (.getfield 59, 3) := by decide +kernel
theorem dX2_findPlaceTops_81 : decode cX2_findPlaceTops 81 = .ok (.aload_n 0, 1) := by decide +kernel
theorem dX2_findPlaceTops_82 : decode cX2_findPlaceTops 82 = .ok (.getfield 35, 3) := by decide +kernel
theorem dX2_findPlaceTops_85 : decode cX2_findPlaceTops 85 = .ok (.iload_n 1, 1) := by decide +kernel
theorem dX2_findPlaceTops_86 : decode cX2_findPlaceTops 86 = .ok (.aaload, 1) := by decide +kernel
theorem dX2_findPlaceTops_87 : decode cX2_findPlaceTops 87 = .ok (.invokevirtual 176, 3) := by decide +kernel
theorem dX2_findPlaceTops_90 : decode cX2_findPlaceTops 90 = .ok (.aload_n 0, 1) := by decide +kernel
theorem dX2_findPlaceTops_91 : decode cX2_findPlaceTops 91 = .ok (.getfield 35, 3) := by decide +kernel
theorem dX2_findPlaceTops_94 : decode cX2_findPlaceTops 94 = .ok (.iload_n 1, 1) := by decide +kernel
theorem dX2_findPlaceTops_95 : decode cX2_findPlaceTops 95 = .ok (.aaload, 1) := by decide +kernel
theorem dX2_findPlaceTops_96 : decode cX2_findPlaceTops 96 = .ok (.aload_n 0, 1) := by decide +kernel
theorem dX2_findPlaceTops_97 : decode cX2_findPlaceTops 97 = .ok (.getfield 22, 3) := by decide +kernel
theorem dX2_findPlaceTops_100 : decode cX2_findPlaceTops 100 = .ok (.iload_n 1, 1) := by decide +kernel
theorem dX2_findPlaceTops_101 : decode cX2_findPlaceTops 101 = .ok (.laload, 1) := by decide +kernel
theorem dX2_findPlaceTops_102 : decode cX2_findPlaceTops 102 = .ok (.invokevirtual 180, 3) := by decide +kernel
theorem dX2_findPlaceTops_105 : decode cX2_findPlaceTops 105 = .ok (.pop2, 1) := by decide +kernel
theorem dX2_findPlaceTops_106 : decode cX2_findPlaceTops 106 = .ok (.iinc 1 1, 3) := by decide +kernel
theorem dX2_findPlaceTops_109 : decode cX2_findPlaceTops 109 = .ok (.goto (-107), 3) := by decide +kernel
theorem dX2_findPlaceTops_112 : decode cX2_findPlaceTops 112 = .ok (.return_, 1) := by decide +kernel
theorem dX2_cell_0 : decode cX2_cell 0 = .ok (.aload_n 0, 1) := by decide +kernel
theorem dX2_cell_1 : decode cX2_cell 1 = .ok (.getfield 28, 3) := by decide +kernel
theorem dX2_cell_4 : decode cX2_cell 4 = .ok (.iload_n 1, 1) := by decide +kernel
theorem dX2_cell_5 : decode cX2_cell 5 = .ok (.bipush 7, 2) := by decide +kernel
theorem dX2_cell_7 : decode cX2_cell 7 = .ok (.imul, 1) := by decide +kernel
theorem dX2_cell_8 : decode cX2_cell 8 = .ok (.iload_n 2, 1) := by decide +kernel
theorem dX2_cell_9 : decode cX2_cell 9 = .ok (.iadd, 1) := by decide +kernel
theorem dX2_cell_10 : decode cX2_cell 10 = .ok (.aaload, 1) := by decide +kernel
theorem dX2_cell_11 : decode cX2_cell 11 = .ok (.areturn, 1) := by decide +kernel
theorem dX2_level_0 : decode cX2_level 0 = .ok (.aload_n 0, 1) := by decide +kernel
theorem dX2_level_1 : decode cX2_level 1 = .ok (.getfield 59, 3) := by decide +kernel
theorem dX2_level_4 : decode cX2_level 4 = .ok (.invokevirtual 167, 3) := by decide +kernel
theorem dX2_level_7 : decode cX2_level 7 = .ok (.aload_n 0, 1) := by decide +kernel
theorem dX2_level_8 : decode cX2_level 8 = .ok (.lconst 1, 1) := by decide +kernel
theorem dX2_level_9 : decode cX2_level 9 = .ok (.invokevirtual 188, 3) := by decide +kernel
theorem dX2_level_12 : decode cX2_level 12 = .ok (.aload_n 0, 1) := by decide +kernel
theorem dX2_level_13 : decode cX2_level 13 = .ok (.getfield 59, 3) := by decide +kernel
theorem dX2_level_16 : decode cX2_level 16 = .ok (.aload_n 1, 1) := by decide +kernel
theorem dX2_level_17 : decode cX2_level 17 = .ok (.invokevirtual 176, 3) := by decide +kernel
theorem dX2_level_20 : decode cX2_level 20 = .ok (.return_, 1) := by decide +kernel
theorem dX2_slope_0 : decode cX2_slope 0 = .ok (.aload_n 0, 1) := by decide +kernel
theorem dX2_slope_1 : decode cX2_slope 1 = .ok (.getfield 53, 3) := by decide +kernel
theorem dX2_slope_4 : decode cX2_slope 4 = .ok (.ifCond .le 16, 3) := by decide +kernel
theorem dX2_slope_7 : decode cX2_slope 7 = .ok (.aload_n 1, 1) := by decide +kernel
theorem dX2_slope_8 : decode cX2_slope 8 = .ok (.aload_n 0, 1) := by decide +kernel
theorem dX2_slope_9 : decode cX2_slope 9 = .ok (.getfield 32, 3) := by decide +kernel
theorem dX2_slope_12 : decode cX2_slope 12 = .ok (.iconst 0, 1) := by decide +kernel
theorem dX2_slope_13 : decode cX2_slope 13 = .ok (.aaload, 1) := by decide +kernel
theorem dX2_slope_14 : decode cX2_slope 14 = .ok (.invokevirtual 191, 3) := by decide +kernel
theorem dX2_slope_17 : decode cX2_slope 17 = .ok (.goto 8, 3) := by decide +kernel
theorem dX2_slope_20 : decode cX2_slope 20 = .ok (.aload_n 1, 1) := by decide +kernel
theorem dX2_slope_21 : decode cX2_slope 21 = .ok (.lconst 0, 1) := by decide +kernel
theorem dX2_slope_22 : decode cX2_slope 22 = .ok (.invokevirtual 100, 3) := by decide +kernel
theorem dX2_slope_25 : decode cX2_slope 25 = .ok (.return_, 1) := by decide +kernel
theorem dX2_cost_0 : decode cX2_cost 0 = .ok (.aload_n 1, 1) := by decide +kernel
theorem dX2_cost_1 : decode cX2_cost 1 = .ok (.aload_n 0, 1) := by decide +kernel
theorem dX2_cost_2 : decode cX2_cost 2 = .ok (.aload_n 0, 1) := by decide +kernel
theorem dX2_cost_3 : decode cX2_cost 3 = .ok (.getfield 50, 3) := by decide +kernel
theorem dX2_cost_6 : decode cX2_cost 6 = .ok (.aload_n 0, 1) := by decide +kernel
theorem dX2_cost_7 : decode cX2_cost 7 = .ok (.getfield 50, 3) := by decide +kernel
theorem dX2_cost_10 : decode cX2_cost 10 = .ok (.invokevirtual 88, 3) := by decide +kernel
theorem dX2_cost_13 : decode cX2_cost 13 = .ok (.invokevirtual 191, 3) := by decide +kernel
theorem dX2_cost_16 : decode cX2_cost 16 = .ok (.return_, 1) := by decide +kernel
theorem dX2_unknown_0 : decode cX2_unknown 0 = .ok (.iload_n 1, 1) := by decide +kernel
theorem dX2_unknown_1 : decode cX2_unknown 1 = .ok (.ifCond .lt 21, 3) := by decide +kernel
theorem dX2_unknown_4 : decode cX2_unknown 4 = .ok (.iload_n 1, 1) := by decide +kernel
theorem dX2_unknown_5 : decode cX2_unknown 5 = .ok (.aload_n 0, 1) := by decide +kernel
theorem dX2_unknown_6 : decode cX2_unknown 6 = .ok (.getfield 50, 3) := by decide +kernel
theorem dX2_unknown_9 : decode cX2_unknown 9 = .ok (.if_icmp .ge 13, 3) := by decide +kernel
theorem dX2_unknown_12 : decode cX2_unknown 12 = .ok (.aload_n 2, 1) := by decide +kernel
theorem dX2_unknown_13 : decode cX2_unknown 13 = .ok (.aload_n 0, 1) := by decide +kernel
theorem dX2_unknown_14 : decode cX2_unknown 14 = .ok (.getfield 32, 3) := by decide +kernel
theorem dX2_unknown_17 : decode cX2_unknown 17 = .ok (.iload_n 1, 1) := by decide +kernel
theorem dX2_unknown_18 : decode cX2_unknown 18 = .ok (.aaload, 1) := by decide +kernel
theorem dX2_unknown_19 : decode cX2_unknown 19 = .ok (.invokevirtual 191, 3) := by decide +kernel
theorem dX2_unknown_22 : decode cX2_unknown 22 = .ok (.return_, 1) := by decide +kernel
theorem dX2_trend_0 : decode cX2_trend 0 = .ok (.aload_n 0, 1) := by decide +kernel
theorem dX2_trend_1 : decode cX2_trend 1 = .ok (.getfield 59, 3) := by decide +kernel
theorem dX2_trend_4 : decode cX2_trend 4 = .ok (.invokevirtual 167, 3) := by decide +kernel
theorem dX2_trend_7 : decode cX2_trend 7 = .ok (.aload_n 0, 1) := by decide +kernel
theorem dX2_trend_8 : decode cX2_trend 8 = .ok (.lconst 1, 1) := by decide +kernel
theorem dX2_trend_9 : decode cX2_trend 9 = .ok (.invokevirtual 188, 3) := by decide +kernel
theorem dX2_trend_12 : decode cX2_trend 12 = .ok (.aload_n 0, 1) := by decide +kernel
theorem dX2_trend_13 : decode cX2_trend 13 = .ok (.iconst 0, 1) := by decide +kernel
theorem dX2_trend_14 : decode cX2_trend 14 = .ok (.aload_n 0, 1) := by decide +kernel
theorem dX2_trend_15 : decode cX2_trend 15 = .ok (.getfield 56, 3) := by decide +kernel
theorem dX2_trend_18 : decode cX2_trend 18 = .ok (.iload_n 1, 1) := by decide +kernel
theorem dX2_trend_19 : decode cX2_trend 19 = .ok (.aload_n 0, 1) := by decide +kernel
theorem dX2_trend_20 : decode cX2_trend 20 = .ok (.getfield 46, 3) := by decide +kernel
theorem dX2_trend_23 : decode cX2_trend 23 = .ok (.i2l, 1) := by decide +kernel
theorem dX2_trend_24 : decode cX2_trend 24 = .ok (.invokevirtual 194, 3) := by decide +kernel
theorem dX2_trend_27 : decode cX2_trend 27 = .ok (.aload_n 0, 1) := by decide +kernel
theorem dX2_trend_28 : decode cX2_trend 28 = .ok (.getfield 59, 3) := by decide +kernel
theorem dX2_trend_31 : decode cX2_trend 31 = .ok (.aload_n 2, 1) := by decide +kernel
theorem dX2_trend_32 : decode cX2_trend 32 = .ok (.invokevirtual 176, 3) := by decide +kernel
theorem dX2_trend_35 : decode cX2_trend 35 = .ok (.return_, 1) := by decide +kernel
theorem dX2_seasonOf_0 : decode cX2_seasonOf 0 = .ok (.aload_n 0, 1) := by decide +kernel
theorem dX2_seasonOf_1 : decode cX2_seasonOf 1 = .ok (.getfield 59, 3) := by decide +kernel
theorem dX2_seasonOf_4 : decode cX2_seasonOf 4 = .ok (.invokevirtual 167, 3) := by decide +kernel
theorem dX2_seasonOf_7 : decode cX2_seasonOf 7 = .ok (.iload_n 1, 1) := by decide +kernel
theorem dX2_seasonOf_8 : decode cX2_seasonOf 8 = .ok (.ifCond .lt 36, 3) := by decide +kernel
theorem dX2_seasonOf_11 : decode cX2_seasonOf 11 = .ok (.iload_n 1, 1) := by decide +kernel
theorem dX2_seasonOf_12 : decode cX2_seasonOf 12 = .ok (.aload_n 0, 1) := by decide +kernel
theorem dX2_seasonOf_13 : decode cX2_seasonOf 13 = .ok (.getfield 46, 3) := by decide +kernel
theorem dX2_seasonOf_16 : decode cX2_seasonOf 16 = .ok (.if_icmp .ge 28, 3) := by decide +kernel
theorem dX2_seasonOf_19 : decode cX2_seasonOf 19 = .ok (.aload_n 0, 1) := by decide +kernel
theorem dX2_seasonOf_20 : decode cX2_seasonOf 20 = .ok (.getfield 59, 3) := by decide +kernel
theorem dX2_seasonOf_23 : decode cX2_seasonOf 23 = .ok (.aload_n 0, 1) := by decide +kernel
theorem dX2_seasonOf_24 : decode cX2_seasonOf 24 = .ok (.getfield 35, 3) := by decide +kernel
theorem dX2_seasonOf_27 : decode cX2_seasonOf 27 = .ok (.iload_n 1, 1) := by decide +kernel
theorem dX2_seasonOf_28 : decode cX2_seasonOf 28 = .ok (.aaload, 1) := by decide +kernel
theorem dX2_seasonOf_29 : decode cX2_seasonOf 29 = .ok (.aload_n 0, 1) := by decide +kernel
theorem dX2_seasonOf_30 : decode cX2_seasonOf 30 = .ok (.getfield 46, 3) := by decide +kernel
theorem dX2_seasonOf_33 : decode cX2_seasonOf 33 = .ok (.i2l, 1) := by decide +kernel
theorem dX2_seasonOf_34 : decode cX2_seasonOf 34 = .ok (.invokevirtual 184, 3) := by decide +kernel
theorem dX2_seasonOf_37 : decode cX2_seasonOf 37 = .ok (.aload_n 0, 1) := by decide +kernel
theorem dX2_seasonOf_38 : decode cX2_seasonOf 38 = .ok (.ldc2_w 198, 3) := by decide +kernel
theorem dX2_seasonOf_41 : decode cX2_seasonOf 41 = .ok (.invokevirtual 188, 3) := by decide +kernel
theorem dX2_seasonOf_44 : decode cX2_seasonOf 44 = .ok (.aload_n 0, 1) := by decide +kernel
theorem dX2_seasonOf_45 : decode cX2_seasonOf 45 = .ok (.getfield 59, 3) := by decide +kernel
theorem dX2_seasonOf_48 : decode cX2_seasonOf 48 = .ok (.aload_n 2, 1) := by decide +kernel
theorem dX2_seasonOf_49 : decode cX2_seasonOf 49 = .ok (.invokevirtual 176, 3) := by decide +kernel
theorem dX2_seasonOf_52 : decode cX2_seasonOf 52 = .ok (.return_, 1) := by decide +kernel
theorem dX2_feastsOn_0 : decode cX2_feastsOn 0 = .ok (.aload_n 0, 1) := by decide +kernel
theorem dX2_feastsOn_1 : decode cX2_feastsOn 1 = .ok (.getfield 59, 3) := by decide +kernel
theorem dX2_feastsOn_4 : decode cX2_feastsOn 4 = .ok (.invokevirtual 167, 3) := by decide +kernel
theorem dX2_feastsOn_7 : decode cX2_feastsOn 7 = .ok (.aload_n 0, 1) := by decide +kernel
theorem dX2_feastsOn_8 : decode cX2_feastsOn 8 = .ok (.aload_n 0, 1) := by decide +kernel
theorem dX2_feastsOn_9 : decode cX2_feastsOn 9 = .ok (.getfield 56, 3) := by decide +kernel
theorem dX2_feastsOn_12 : decode cX2_feastsOn 12 = .ok (.aload_n 0, 1) := by decide +kernel
theorem dX2_feastsOn_13 : decode cX2_feastsOn 13 = .ok (.getfield 50, 3) := by decide +kernel
theorem dX2_feastsOn_16 : decode cX2_feastsOn 16 = .ok (.iload_n 1, 1) := by decide +kernel
theorem dX2_feastsOn_17 : decode cX2_feastsOn 17 = .ok (.lconst 1, 1) := by decide +kernel
theorem dX2_feastsOn_18 : decode cX2_feastsOn 18 = .ok (.invokevirtual 194, 3) := by decide +kernel
theorem dX2_feastsOn_21 : decode cX2_feastsOn 21 = .ok (.aload_n 0, 1) := by decide +kernel
theorem dX2_feastsOn_22 : decode cX2_feastsOn 22 = .ok (.getfield 59, 3) := by decide +kernel
theorem dX2_feastsOn_25 : decode cX2_feastsOn 25 = .ok (.aload_n 2, 1) := by decide +kernel
theorem dX2_feastsOn_26 : decode cX2_feastsOn 26 = .ok (.invokevirtual 176, 3) := by decide +kernel
theorem dX2_feastsOn_29 : decode cX2_feastsOn 29 = .ok (.return_, 1) := by decide +kernel
theorem dX2_foretold_0 : decode cX2_foretold 0 = .ok (.aload_n 0, 1) := by decide +kernel
theorem dX2_foretold_1 : decode cX2_foretold 1 = .ok (.getfield 59, 3) := by decide +kernel
theorem dX2_foretold_4 : decode cX2_foretold 4 = .ok (.invokevirtual 167, 3) := by decide +kernel
theorem dX2_foretold_7 : decode cX2_foretold 7 = .ok (.aload_n 0, 1) := by decide +kernel
theorem dX2_foretold_8 : decode cX2_foretold 8 = .ok (.iload_n 1, 1) := by decide +kernel
theorem dX2_foretold_9 : decode cX2_foretold 9 = .ok (.lconst 1, 1) := by decide +kernel
theorem dX2_foretold_10 : decode cX2_foretold 10 = .ok (.invokevirtual 200, 3) := by decide +kernel
theorem dX2_foretold_13 : decode cX2_foretold 13 = .ok (.aload_n 0, 1) := by decide +kernel
theorem dX2_foretold_14 : decode cX2_foretold 14 = .ok (.getfield 59, 3) := by decide +kernel
theorem dX2_foretold_17 : decode cX2_foretold 17 = .ok (.aload_n 2, 1) := by decide +kernel
theorem dX2_foretold_18 : decode cX2_foretold 18 = .ok (.invokevirtual 176, 3) := by decide +kernel
theorem dX2_foretold_21 : decode cX2_foretold 21 = .ok (.return_, 1) := by decide +kernel
theorem dX2_leftOver_0 : decode cX2_leftOver 0 = .ok (.aload_n 0, 1) := by decide +kernel
theorem dX2_leftOver_1 : decode cX2_leftOver 1 = .ok (.getfield 59, 3) := by decide +kernel
theorem dX2_leftOver_4 : decode cX2_leftOver 4 = .ok (.invokevirtual 167, 3) := by decide +kernel
theorem dX2_leftOver_7 : decode cX2_leftOver 7 = .ok (.iload_n 1, 1) := by decide +kernel
theorem dX2_leftOver_8 : decode cX2_leftOver 8 = .ok (.invokestatic 203, 3) := by decide +kernel
theorem dX2_leftOver_11 : decode cX2_leftOver 11 = .ok (.ifCond .eq 33, 3) := by decide +kernel
theorem dX2_leftOver_14 : decode cX2_leftOver 14 = .ok (.aload_n 0, 1) := by decide +kernel
theorem dX2_leftOver_15 : decode cX2_leftOver 15 = .ok (.getfield 59, 3) := by decide +kernel
theorem dX2_leftOver_18 : decode cX2_leftOver 18 = .ok (.aload_n 0, 1) := by decide +kernel
theorem dX2_leftOver_19 : decode cX2_leftOver 19 = .ok (.getfield 39, 3) := by decide +kernel
theorem dX2_leftOver_22 : decode cX2_leftOver 22 = .ok (.aload_n 0, 1) := by decide +kernel
theorem dX2_leftOver_23 : decode cX2_leftOver 23 = .ok (.getfield 13, 3) := by decide +kernel
theorem dX2_leftOver_26 : decode cX2_leftOver 26 = .ok (.aload_n 0, 1) := by decide +kernel
theorem dX2_leftOver_27 : decode cX2_leftOver 27 = .ok (.getfield 50, 3) := by decide +kernel
theorem dX2_leftOver_30 : decode cX2_leftOver 30 = .ok (.aaload, 1) := by decide +kernel
theorem dX2_leftOver_31 : decode cX2_leftOver 31 = .ok (.iload_n 1, 1) := by decide +kernel
theorem dX2_leftOver_32 : decode cX2_leftOver 32 = .ok (.laload, 1) := by decide +kernel
theorem dX2_leftOver_33 : decode cX2_leftOver 33 = .ok (.invokevirtual 184, 3) := by decide +kernel
theorem dX2_leftOver_36 : decode cX2_leftOver 36 = .ok (.aload_n 0, 1) := by decide +kernel
theorem dX2_leftOver_37 : decode cX2_leftOver 37 = .ok (.iload_n 1, 1) := by decide +kernel
theorem dX2_leftOver_38 : decode cX2_leftOver 38 = .ok (.ldc2_w 198, 3) := by decide +kernel
theorem dX2_leftOver_41 : decode cX2_leftOver 41 = .ok (.invokevirtual 200, 3) := by decide +kernel
theorem dX2_leftOver_44 : decode cX2_leftOver 44 = .ok (.aload_n 0, 1) := by decide +kernel
theorem dX2_leftOver_45 : decode cX2_leftOver 45 = .ok (.getfield 59, 3) := by decide +kernel
theorem dX2_leftOver_48 : decode cX2_leftOver 48 = .ok (.aload_n 2, 1) := by decide +kernel
theorem dX2_leftOver_49 : decode cX2_leftOver 49 = .ok (.invokevirtual 176, 3) := by decide +kernel
theorem dX2_leftOver_52 : decode cX2_leftOver 52 = .ok (.return_, 1) := by decide +kernel
theorem dX2_costsLessThan_0 : decode cX2_costsLessThan 0 = .ok (.aload_n 0, 1) := by decide +kernel
theorem dX2_costsLessThan_1 : decode cX2_costsLessThan 1 = .ok (.getfield 59, 3) := by decide +kernel
theorem dX2_costsLessThan_4 : decode cX2_costsLessThan 4 = .ok (.invokevirtual 167, 3) := by decide +kernel
theorem dX2_costsLessThan_7 : decode cX2_costsLessThan 7 = .ok (.aload_n 0, 1) := by decide +kernel
theorem dX2_costsLessThan_8 : decode cX2_costsLessThan 8 = .ok (.getfield 59, 3) := by decide +kernel
theorem dX2_costsLessThan_11 : decode cX2_costsLessThan 11 = .ok (.aload_n 0, 1) := by decide +kernel
theorem dX2_costsLessThan_12 : decode cX2_costsLessThan 12 = .ok (.aload_n 0, 1) := by decide +kernel
theorem dX2_costsLessThan_13 : decode cX2_costsLessThan 13 = .ok (.getfield 50, 3) := by decide +kernel
theorem dX2_costsLessThan_16 : decode cX2_costsLessThan 16 = .ok (.aload_n 0, 1) := by decide +kernel
theorem dX2_costsLessThan_17 : decode cX2_costsLessThan 17 = .ok (.getfield 50, 3) := by decide +kernel
theorem dX2_costsLessThan_20 : decode cX2_costsLessThan 20 = .ok (.invokevirtual 88, 3) := by decide +kernel
theorem dX2_costsLessThan_23 : decode cX2_costsLessThan 23 = .ok (.aload_n 2, 1) := by decide +kernel
theorem dX2_costsLessThan_24 : decode cX2_costsLessThan 24 = .ok (.iconst 0, 1) := by decide +kernel
theorem dX2_costsLessThan_25 : decode cX2_costsLessThan 25 = .ok (.invokevirtual 172, 3) := by decide +kernel
theorem dX2_costsLessThan_28 : decode cX2_costsLessThan 28 = .ok (.aload_n 0, 1) := by decide +kernel
theorem dX2_costsLessThan_29 : decode cX2_costsLessThan 29 = .ok (.getfield 59, 3) := by decide +kernel
theorem dX2_costsLessThan_32 : decode cX2_costsLessThan 32 = .ok (.aload_n 1, 1) := by decide +kernel
theorem dX2_costsLessThan_33 : decode cX2_costsLessThan 33 = .ok (.aload_n 0, 1) := by decide +kernel
theorem dX2_costsLessThan_34 : decode cX2_costsLessThan 34 = .ok (.getfield 39, 3) := by decide +kernel
theorem dX2_costsLessThan_37 : decode cX2_costsLessThan 37 = .ok (.iconst 1, 1) := by decide +kernel
theorem dX2_costsLessThan_38 : decode cX2_costsLessThan 38 = .ok (.invokevirtual 172, 3) := by decide +kernel
theorem dX2_costsLessThan_41 : decode cX2_costsLessThan 41 = .ok (.aload_n 0, 1) := by decide +kernel
theorem dX2_costsLessThan_42 : decode cX2_costsLessThan 42 = .ok (.getfield 59, 3) := by decide +kernel
theorem dX2_costsLessThan_45 : decode cX2_costsLessThan 45 = .ok (.aload_n 0, 1) := by decide +kernel
theorem dX2_costsLessThan_46 : decode cX2_costsLessThan 46 = .ok (.getfield 43, 3) := by decide +kernel
theorem dX2_costsLessThan_49 : decode cX2_costsLessThan 49 = .ok (.invokevirtual 176, 3) := by decide +kernel
theorem dX2_costsLessThan_52 : decode cX2_costsLessThan 52 = .ok (.aload_n 0, 1) := by decide +kernel
theorem dX2_costsLessThan_53 : decode cX2_costsLessThan 53 = .ok (.getfield 43, 3) := by decide +kernel
theorem dX2_costsLessThan_56 : decode cX2_costsLessThan 56 = .ok (.getfield 206, 3) := by decide +kernel
theorem dX2_costsLessThan_59 : decode cX2_costsLessThan 59 = .ok (.ireturn, 1) := by decide +kernel
theorem dX2_placeOf_0 : decode cX2_placeOf 0 = .ok (.iload_n 1, 1) := by decide +kernel
theorem dX2_placeOf_1 : decode cX2_placeOf 1 = .ok (.ifCond .lt 19, 3) := by decide +kernel
theorem dX2_placeOf_4 : decode cX2_placeOf 4 = .ok (.aload_n 0, 1) := by decide +kernel
theorem dX2_placeOf_5 : decode cX2_placeOf 5 = .ok (.getfield 46, 3) := by decide +kernel
theorem dX2_placeOf_8 : decode cX2_placeOf 8 = .ok (.ifCond .le 12, 3) := by decide +kernel
theorem dX2_placeOf_11 : decode cX2_placeOf 11 = .ok (.iload_n 1, 1) := by decide +kernel
theorem dX2_placeOf_12 : decode cX2_placeOf 12 = .ok (.aload_n 0, 1) := by decide +kernel
theorem dX2_placeOf_13 : decode cX2_placeOf 13 = .ok (.getfield 46, 3) := by decide +kernel
theorem dX2_placeOf_16 : decode cX2_placeOf 16 = .ok (.irem, 1) := by decide +kernel
theorem dX2_placeOf_17 : decode cX2_placeOf 17 = .ok (.goto 4, 3) := by decide +kernel
theorem dX2_placeOf_20 : decode cX2_placeOf 20 = .ok (.iconst 0, 1) := by decide +kernel
theorem dX2_placeOf_21 : decode cX2_placeOf 21 = .ok (.ireturn, 1) := by decide +kernel
theorem dX2_addPlaceTops_0 : decode cX2_addPlaceTops 0 = .ok (.iconst 0, 1) := by decide +kernel
theorem dX2_addPlaceTops_1 : decode cX2_addPlaceTops 1 = .ok (.istore_n 3, 1) := by decide +kernel
theorem dX2_addPlaceTops_2 : decode cX2_addPlaceTops 2 = .ok (.iload_n 3, 1) := by decide +kernel
theorem dX2_addPlaceTops_3 : decode cX2_addPlaceTops 3 = .ok (.aload_n 0, 1) := by decide +kernel
theorem dX2_addPlaceTops_4 : decode cX2_addPlaceTops 4 = .ok (.getfield 46, 3) := by decide +kernel
theorem dX2_addPlaceTops_7 : decode cX2_addPlaceTops 7 = .ok (.if_icmp .ge 23, 3) := by decide +kernel
theorem dX2_addPlaceTops_10 : decode cX2_addPlaceTops 10 = .ok (.aload_n 0, 1) := by decide +kernel
theorem dX2_addPlaceTops_11 : decode cX2_addPlaceTops 11 = .ok (.getfield 59, 3) := by decide +kernel
theorem dX2_addPlaceTops_14 : decode cX2_addPlaceTops 14 = .ok (.aload_n 0, 1) := by decide +kernel
theorem dX2_addPlaceTops_15 : decode cX2_addPlaceTops 15 = .ok (.getfield 35, 3) := by decide +kernel
theorem dX2_addPlaceTops_18 : decode cX2_addPlaceTops 18 = .ok (.iload_n 3, 1) := by decide +kernel
theorem dX2_addPlaceTops_19 : decode cX2_addPlaceTops 19 = .ok (.aaload, 1) := by decide +kernel
theorem dX2_addPlaceTops_20 : decode cX2_addPlaceTops 20 = .ok (.lload_n 1, 1) := by decide +kernel
theorem dX2_addPlaceTops_21 : decode cX2_addPlaceTops 21 = .ok (.invokevirtual 184, 3) := by decide +kernel
theorem dX2_addPlaceTops_24 : decode cX2_addPlaceTops 24 = .ok (.iinc 3 1, 3) := by decide +kernel
theorem dX2_addPlaceTops_27 : decode cX2_addPlaceTops 27 = .ok (.goto (-25), 3) := by decide +kernel
theorem dX2_addPlaceTops_30 : decode cX2_addPlaceTops 30 = .ok (.return_, 1) := by decide +kernel
theorem dX2_addUnknowns_0 : decode cX2_addUnknowns 0 = .ok (.iload_n 3, 1) := by decide +kernel
theorem dX2_addUnknowns_1 : decode cX2_addUnknowns 1 = .ok (.invokestatic 209, 3) := by decide +kernel
theorem dX2_addUnknowns_4 : decode cX2_addUnknowns 4 = .ok (.ifCond .ne 4, 3) := by decide +kernel
theorem dX2_addUnknowns_7 : decode cX2_addUnknowns 7 = .ok (.return_, 1) := by decide +kernel
theorem dX2_addUnknowns_8 : decode cX2_addUnknowns 8 = .ok (.iload_n 1, 1) := by decide +kernel
theorem dX2_addUnknowns_9 : decode cX2_addUnknowns 9 = .ok (.istore 6, 2) := by decide +kernel
theorem dX2_addUnknowns_11 : decode cX2_addUnknowns 11 = .ok (.iload 6, 2) := by decide +kernel
theorem dX2_addUnknowns_13 : decode cX2_addUnknowns 13 = .ok (.iload_n 2, 1) := by decide +kernel
theorem dX2_addUnknowns_14 : decode cX2_addUnknowns 14 = .ok (.if_icmp .ge 35, 3) := by decide +kernel
theorem dX2_addUnknowns_17 : decode cX2_addUnknowns 17 = .ok (.aload_n 0, 1) := by decide +kernel
theorem dX2_addUnknowns_18 : decode cX2_addUnknowns 18 = .ok (.getfield 59, 3) := by decide +kernel
theorem dX2_addUnknowns_21 : decode cX2_addUnknowns 21 = .ok (.aload_n 0, 1) := by decide +kernel
theorem dX2_addUnknowns_22 : decode cX2_addUnknowns 22 = .ok (.getfield 32, 3) := by decide +kernel
theorem dX2_addUnknowns_25 : decode cX2_addUnknowns 25 = .ok (.iload 6, 2) := by decide +kernel
theorem dX2_addUnknowns_27 : decode cX2_addUnknowns 27 = .ok (.aaload, 1) := by decide +kernel
theorem dX2_addUnknowns_28 : decode cX2_addUnknowns 28 = .ok (.aload_n 0, 1) := by decide +kernel
theorem dX2_addUnknowns_29 : decode cX2_addUnknowns 29 = .ok (.getfield 13, 3) := by decide +kernel
theorem dX2_addUnknowns_32 : decode cX2_addUnknowns 32 = .ok (.iload 6, 2) := by decide +kernel
theorem dX2_addUnknowns_34 : decode cX2_addUnknowns 34 = .ok (.aaload, 1) := by decide +kernel
theorem dX2_addUnknowns_35 : decode cX2_addUnknowns 35 = .ok (.iload_n 3, 1) := by decide +kernel
theorem dX2_addUnknowns_36 : decode cX2_addUnknowns 36 = .ok (.laload, 1) := by decide +kernel
theorem dX2_addUnknowns_37 : decode cX2_addUnknowns 37 = .ok (.lload 4, 2) := by decide +kernel
theorem dX2_addUnknowns_39 : decode cX2_addUnknowns 39 = .ok (.lmul, 1) := by decide +kernel
theorem dX2_addUnknowns_40 : decode cX2_addUnknowns 40 = .ok (.invokevirtual 184, 3) := by decide +kernel
theorem dX2_addUnknowns_43 : decode cX2_addUnknowns 43 = .ok (.iinc 6 1, 3) := by decide +kernel
theorem dX2_addUnknowns_46 : decode cX2_addUnknowns 46 = .ok (.goto (-35), 3) := by decide +kernel
theorem dX2_addUnknowns_49 : decode cX2_addUnknowns 49 = .ok (.return_, 1) := by decide +kernel
theorem dX2_addAllParts_0 : decode cX2_addAllParts 0 = .ok (.aload_n 0, 1) := by decide +kernel
theorem dX2_addAllParts_1 : decode cX2_addAllParts 1 = .ok (.getfield 59, 3) := by decide +kernel
theorem dX2_addAllParts_4 : decode cX2_addAllParts 4 = .ok (.aload_n 0, 1) := by decide +kernel
theorem dX2_addAllParts_5 : decode cX2_addAllParts 5 = .ok (.getfield 35, 3) := by decide +kernel
theorem dX2_addAllParts_8 : decode cX2_addAllParts 8 = .ok (.aload_n 0, 1) := by decide +kernel
theorem dX2_addAllParts_9 : decode cX2_addAllParts 9 = .ok (.iload_n 1, 1) := by decide +kernel
theorem dX2_addAllParts_10 : decode cX2_addAllParts 10 = .ok (.invokevirtual 159, 3) := by decide +kernel
theorem dX2_addAllParts_13 : decode cX2_addAllParts 13 = .ok (.aaload, 1) := by decide +kernel
theorem dX2_addAllParts_14 : decode cX2_addAllParts 14 = .ok (.lload_n 2, 1) := by decide +kernel
theorem dX2_addAllParts_15 : decode cX2_addAllParts 15 = .ok (.invokevirtual 184, 3) := by decide +kernel
theorem dX2_addAllParts_18 : decode cX2_addAllParts 18 = .ok (.aload_n 0, 1) := by decide +kernel
theorem dX2_addAllParts_19 : decode cX2_addAllParts 19 = .ok (.iconst 0, 1) := by decide +kernel
theorem dX2_addAllParts_20 : decode cX2_addAllParts 20 = .ok (.aload_n 0, 1) := by decide +kernel
theorem dX2_addAllParts_21 : decode cX2_addAllParts 21 = .ok (.getfield 50, 3) := by decide +kernel
theorem dX2_addAllParts_24 : decode cX2_addAllParts 24 = .ok (.iload_n 1, 1) := by decide +kernel
theorem dX2_addAllParts_25 : decode cX2_addAllParts 25 = .ok (.lload_n 2, 1) := by decide +kernel
theorem dX2_addAllParts_26 : decode cX2_addAllParts 26 = .ok (.invokevirtual 194, 3) := by decide +kernel
theorem dX2_addAllParts_29 : decode cX2_addAllParts 29 = .ok (.return_, 1) := by decide +kernel
theorem dX3_init_0 : decode cX3_init 0 = .ok (.aload_n 0, 1) := by decide +kernel
theorem dX3_init_1 : decode cX3_init 1 = .ok (.invokespecial 3, 3) := by decide +kernel
theorem dX3_init_4 : decode cX3_init 4 = .ok (.aload_n 0, 1) := by decide +kernel
theorem dX3_init_5 : decode cX3_init 5 = .ok (.bipush 40, 2) := by decide +kernel
theorem dX3_init_7 : decode cX3_init 7 = .ok (.newarray .int, 2) := by decide +kernel
theorem dX3_init_9 : decode cX3_init 9 = .ok (.putfield 9, 3) := by decide +kernel
theorem dX3_init_12 : decode cX3_init 12 = .ok (.aload_n 0, 1) := by decide +kernel
theorem dX3_init_13 : decode cX3_init 13 = .ok (.new 15, 3) := by decide +kernel
theorem dX3_init_16 : decode cX3_init 16 = .ok (.dup, 1) := by decide +kernel
theorem dX3_init_17 : decode cX3_init 17 = .ok (.invokespecial 17, 3) := by decide +kernel
theorem dX3_init_20 : decode cX3_init 20 = .ok (.putfield 18, 3) := by decide +kernel
theorem dX3_init_23 : decode cX3_init 23 = .ok (.aload_n 0, 1) := by decide +kernel
theorem dX3_init_24 : decode cX3_init 24 = .ok (.new 15, 3) := by decide +kernel
theorem dX3_init_27 : decode cX3_init 27 = .ok (.dup, 1) := by decide +kernel
theorem dX3_init_28 : decode cX3_init 28 = .ok (.invokespecial 17, 3) := by decide +kernel
theorem dX3_init_31 : decode cX3_init 31 = .ok (.putfield 22, 3) := by decide +kernel
theorem dX3_init_34 : decode cX3_init 34 = .ok (.aload_n 0, 1) := by decide +kernel
theorem dX3_init_35 : decode cX3_init 35 = .ok (.new 15, 3) := by decide +kernel
theorem dX3_init_38 : decode cX3_init 38 = .ok (.dup, 1) := by decide +kernel
theorem dX3_init_39 : decode cX3_init 39 = .ok (.invokespecial 17, 3) := by decide +kernel
theorem dX3_init_42 : decode cX3_init 42 = .ok (.putfield 25, 3) := by decide +kernel
theorem dX3_init_45 : decode cX3_init 45 = .ok (.aload_n 0, 1) := by decide +kernel
theorem dX3_init_46 : decode cX3_init 46 = .ok (.iconst 2, 1) := by decide +kernel
theorem dX3_init_47 : decode cX3_init 47 = .ok (.anewarray 15, 3) := by decide +kernel
theorem dX3_init_50 : decode cX3_init 50 = .ok (.putfield 28, 3) := by decide +kernel
theorem dX3_init_53 : decode cX3_init 53 = .ok (.aload_n 0, 1) := by decide +kernel
theorem dX3_init_54 : decode cX3_init 54 = .ok (.iconst 0, 1) := by decide +kernel
theorem dX3_init_55 : decode cX3_init 55 = .ok (.putfield 32, 3) := by decide +kernel
theorem dX3_init_58 : decode cX3_init 58 = .ok (.aload_n 0, 1) := by decide +kernel
theorem dX3_init_59 : decode cX3_init 59 = .ok (.iconst 0, 1) := by decide +kernel
theorem dX3_init_60 : decode cX3_init 60 = .ok (.putfield 36, 3) := by decide +kernel
theorem dX3_init_63 : decode cX3_init 63 = .ok (.aload_n 0, 1) := by decide +kernel
theorem dX3_init_64 : decode cX3_init 64 = .ok (.iconst 0, 1) := by decide +kernel
theorem dX3_init_65 : decode cX3_init 65 = .ok (.putfield 40, 3) := by decide +kernel
theorem dX3_init_68 : decode cX3_init 68 = .ok (.iconst 0, 1) := by decide +kernel
theorem dX3_init_69 : decode cX3_init 69 = .ok (.istore_n 1, 1) := by decide +kernel
theorem dX3_init_70 : decode cX3_init 70 = .ok (.iload_n 1, 1) := by decide +kernel
theorem dX3_init_71 : decode cX3_init 71 = .ok (.iconst 2, 1) := by decide +kernel
theorem dX3_init_72 : decode cX3_init 72 = .ok (.if_icmp .ge 22, 3) := by decide +kernel
theorem dX3_init_75 : decode cX3_init 75 = .ok (.aload_n 0, 1) := by decide +kernel
theorem dX3_init_76 : decode cX3_init 76 = .ok (.getfield 28, 3) := by decide +kernel
theorem dX3_init_79 : decode cX3_init 79 = .ok (.iload_n 1, 1) := by decide +kernel
theorem dX3_init_80 : decode cX3_init 80 = .ok (.new 15, 3) := by decide +kernel
theorem dX3_init_83 : decode cX3_init 83 = .ok (.dup, 1) := by decide +kernel
theorem dX3_init_84 : decode cX3_init 84 = .ok (.invokespecial 17, 3) := by decide +kernel
theorem dX3_init_87 : decode cX3_init 87 = .ok (.aastore, 1) := by decide +kernel
theorem dX3_init_88 : decode cX3_init 88 = .ok (.iinc 1 1, 3) := by decide +kernel
theorem dX3_init_91 : decode cX3_init 91 = .ok (.goto (-21), 3) := by decide +kernel
theorem dX3_init_94 : decode cX3_init 94 = .ok (.return_, 1) := by decide +kernel
theorem dX3_setNumber_0 : decode cX3_setNumber 0 = .ok (.iload_n 1, 1) := by decide +kernel
theorem dX3_setNumber_1 : decode cX3_setNumber 1 = .ok (.invokestatic 43, 3) := by decide +kernel
theorem dX3_setNumber_4 : decode cX3_setNumber 4 = .ok (.ifCond .eq 19, 3) := by decide +kernel
theorem dX3_setNumber_7 : decode cX3_setNumber 7 = .ok (.aload_n 0, 1) := by decide +kernel
theorem dX3_setNumber_8 : decode cX3_setNumber 8 = .ok (.getfield 9, 3) := by decide +kernel
theorem dX3_setNumber_11 : decode cX3_setNumber 11 = .ok (.iload_n 1, 1) := by decide +kernel
theorem dX3_setNumber_12 : decode cX3_setNumber 12 = .ok (.iload_n 2, 1) := by decide +kernel
theorem dX3_setNumber_13 : decode cX3_setNumber 13 = .ok (.iastore, 1) := by decide +kernel
theorem dX3_setNumber_14 : decode cX3_setNumber 14 = .ok (.aload_n 0, 1) := by decide +kernel
theorem dX3_setNumber_15 : decode cX3_setNumber 15 = .ok (.getfield 18, 3) := by decide +kernel
theorem dX3_setNumber_18 : decode cX3_setNumber 18 = .ok (.iload_n 1, 1) := by decide +kernel
theorem dX3_setNumber_19 : decode cX3_setNumber 19 = .ok (.invokevirtual 47, 3) := by decide +kernel
theorem dX3_setNumber_22 : decode cX3_setNumber 22 = .ok (.pop, 1) := by decide +kernel
theorem dX3_setNumber_23 : decode cX3_setNumber 23 = .ok (.return_, 1) := by decide +kernel
theorem dX3_counts_0 : decode cX3_counts 0 = .ok (.aload_n 0, 1) := by decide +kernel
theorem dX3_counts_1 : decode cX3_counts 1 = .ok (.getfield 18, 3) := by decide +kernel
theorem dX3_counts_4 : decode cX3_counts 4 = .ok (.iload_n 1, 1) := by decide +kernel
theorem dX3_counts_5 : decode cX3_counts 5 = .ok (.invokevirtual 50, 3) := by decide +kernel
theorem dX3_counts_8 : decode cX3_counts 8 = .ok (.ifCond .eq 18, 3) := by decide +kernel
theorem dX3_counts_11 : decode cX3_counts 11 = .ok (.aload_n 0, 1) := by decide +kernel
theorem dX3_counts_12 : decode cX3_counts 12 = .ok (.getfield 22, 3) := by decide +kernel
theorem dX3_counts_15 : decode cX3_counts 15 = .ok (.iload_n 1, 1) := by decide +kernel
theorem dX3_counts_16 : decode cX3_counts 16 = .ok (.invokevirtual 50, 3) := by decide +kernel
theorem dX3_counts_19 : decode cX3_counts 19 = .ok (.ifCond .ne 7, 3) := by decide +kernel
theorem dX3_counts_22 : decode cX3_counts 22 = .ok (.iconst 1, 1) := by decide +kernel
theorem dX3_counts_23 : decode cX3_counts 23 = .ok (.goto 4, 3) := by decide +kernel
theorem dX3_counts_26 : decode cX3_counts 26 = .ok (.iconst 0, 1) := by decide +kernel
theorem dX3_counts_27 : decode cX3_counts 27 = .ok (.ireturn, 1) := by decide +kernel
theorem dX3_countedTicks_0 : decode cX3_countedTicks 0 = .ok (.iconst 0, 1) := by decide +kernel
theorem dX3_countedTicks_1 : decode cX3_countedTicks 1 = .ok (.istore_n 1, 1) := by decide +kernel
theorem dX3_countedTicks_2 : decode cX3_countedTicks 2 = .ok (.iconst 0, 1) := by decide +kernel
theorem dX3_countedTicks_3 : decode cX3_countedTicks 3 = .ok (.istore_n 2, 1) := by decide +kernel
theorem dX3_countedTicks_4 : decode cX3_countedTicks 4 = .ok (.iload_n 2, 1) := by decide +kernel
theorem dX3_countedTicks_5 : decode cX3_countedTicks 5 = .ok (.bipush 40, 2) := by decide +kernel
theorem dX3_countedTicks_7 : decode cX3_countedTicks 7 = .ok (.if_icmp .ge 20, 3) := by decide +kernel
theorem dX3_countedTicks_10 : decode cX3_countedTicks 10 = .ok (.aload_n 0, 1) := by decide +kernel
theorem dX3_countedTicks_11 : decode cX3_countedTicks 11 = .ok (.iload_n 2, 1) := by decide +kernel
theorem dX3_countedTicks_12 : decode cX3_countedTicks 12 = .ok (.invokevirtual 53, 3) := by decide +kernel
theorem dX3_countedTicks_15 : decode cX3_countedTicks 15 = .ok (.ifCond .eq 6, 3) := by decide +kernel
theorem dX3_countedTicks_18 : decode cX3_countedTicks 18 = .ok (.iinc 1 1, 3) := by decide +kernel
theorem dX3_countedTicks_21 : decode cX3_countedTicks 21 = .ok (.iinc 2 1, 3) := by decide +kernel
theorem dX3_countedTicks_24 : decode cX3_countedTicks 24 = .ok (.goto (-20), 3) := by decide +kernel
theorem dX3_countedTicks_27 : decode cX3_countedTicks 27 = .ok (.iload_n 1, 1) := by decide +kernel
theorem dX3_countedTicks_28 : decode cX3_countedTicks 28 = .ok (.ireturn, 1) := by decide +kernel
theorem dX3_hasFeast_0 : decode cX3_hasFeast 0 = .ok (.iload_n 1, 1) := by decide +kernel
theorem dX3_hasFeast_1 : decode cX3_hasFeast 1 = .ok (.ifCond .lt 20, 3) := by decide +kernel
theorem dX3_hasFeast_4 : decode cX3_hasFeast 4 = .ok (.iload_n 1, 1) := by decide +kernel
theorem dX3_hasFeast_5 : decode cX3_hasFeast 5 = .ok (.aload_n 0, 1) := by decide +kernel
theorem dX3_hasFeast_6 : decode cX3_hasFeast 6 = .ok (.getfield 32, 3) := by decide +kernel
theorem dX3_hasFeast_9 : decode cX3_hasFeast 9 = .ok (.if_icmp .ge 12, 3) := by decide +kernel
theorem dX3_hasFeast_12 : decode cX3_hasFeast 12 = .ok (.iload_n 1, 1) := by decide +kernel
theorem dX3_hasFeast_13 : decode cX3_hasFeast 13 = .ok (.iconst 2, 1) := by decide +kernel
theorem dX3_hasFeast_14 : decode cX3_hasFeast 14 = .ok (.if_icmp .ge 7, 3) := by decide +kernel
theorem dX3_hasFeast_17 : decode cX3_hasFeast 17 = .ok (.iconst 1, 1) := by decide +kernel
theorem dX3_hasFeast_18 : decode cX3_hasFeast 18 = .ok (.goto 4, 3) := by decide +kernel
theorem dX3_hasFeast_21 : decode cX3_hasFeast 21 = .ok (.iconst 0, 1) := by decide +kernel
theorem dX3_hasFeast_22 : decode cX3_hasFeast 22 = .ok (.ireturn, 1) := by decide +kernel
theorem dX3_clearStepsAndFeasts_0 : decode cX3_clearStepsAndFeasts 0 = .ok (.aload_n 0, 1) := by decide +kernel
theorem dX3_clearStepsAndFeasts_1 : decode cX3_clearStepsAndFeasts 1 = .ok (.getfield 25, 3) := by decide +kernel
theorem dX3_clearStepsAndFeasts_4 : decode cX3_clearStepsAndFeasts 4 = .ok (.invokevirtual 56, 3) := by decide +kernel
theorem dX3_clearStepsAndFeasts_7 : decode cX3_clearStepsAndFeasts 7 = .ok (.iconst 0, 1) := by decide +kernel
theorem dX3_clearStepsAndFeasts_8 : decode cX3_clearStepsAndFeasts 8 = .ok (.istore_n 1, 1) := by decide +kernel
theorem dX3_clearStepsAndFeasts_9 : decode cX3_clearStepsAndFeasts 9 = .ok (.iload_n 1, 1) := by decide +kernel
theorem dX3_clearStepsAndFeasts_10 : decode cX3_clearStepsAndFeasts 10 = .ok (.iconst 2, 1) := by decide +kernel
theorem dX3_clearStepsAndFeasts_11 : decode cX3_clearStepsAndFeasts 11 = .ok (.if_icmp .ge 18, 3) := by decide +kernel
theorem dX3_clearStepsAndFeasts_14 : decode cX3_clearStepsAndFeasts 14 = .ok (.aload_n 0, 1) := by decide +kernel
theorem dX3_clearStepsAndFeasts_15 : decode cX3_clearStepsAndFeasts 15 = .ok (.getfield 28, 3) := by decide +kernel
theorem dX3_clearStepsAndFeasts_18 : decode cX3_clearStepsAndFeasts 18 = .ok (.iload_n 1, 1) := by decide +kernel
theorem dX3_clearStepsAndFeasts_19 : decode cX3_clearStepsAndFeasts 19 = .ok (.aaload, 1) := by decide +kernel
theorem dX3_clearStepsAndFeasts_20 : decode cX3_clearStepsAndFeasts 20 = .ok (.invokevirtual 56, 3) := by decide +kernel
theorem dX3_clearStepsAndFeasts_23 : decode cX3_clearStepsAndFeasts 23 = .ok (.iinc 1 1, 3) := by decide +kernel
theorem dX3_clearStepsAndFeasts_26 : decode cX3_clearStepsAndFeasts 26 = .ok (.goto (-17), 3) := by decide +kernel
theorem dX3_clearStepsAndFeasts_29 : decode cX3_clearStepsAndFeasts 29 = .ok (.aload_n 0, 1) := by decide +kernel
theorem dX3_clearStepsAndFeasts_30 : decode cX3_clearStepsAndFeasts 30 = .ok (.iconst 0, 1) := by decide +kernel
theorem dX3_clearStepsAndFeasts_31 : decode cX3_clearStepsAndFeasts 31 = .ok (.putfield 32, 3) := by decide +kernel
theorem dX3_clearStepsAndFeasts_34 : decode cX3_clearStepsAndFeasts 34 = .ok (.return_, 1) := by decide +kernel
theorem dX4_init_0 : decode cX4_init 0 = .ok (.aload_n 0, 1) := by decide +kernel
theorem dX4_init_1 : decode cX4_init 1 = .ok (.invokespecial 3, 3) := by decide +kernel
theorem dX4_init_4 : decode cX4_init 4 = .ok (.aload_n 0, 1) := by decide +kernel
theorem dX4_init_5 : decode cX4_init 5 = .ok (.sipush 256, 3) := by decide +kernel
theorem dX4_init_8 : decode cX4_init 8 = .ok (.newarray .byte, 2) := by decide +kernel
theorem dX4_init_10 : decode cX4_init 10 = .ok (.putfield 11, 3) := by decide +kernel
theorem dX4_init_13 : decode cX4_init 13 = .ok (.aload_n 0, 1) := by decide +kernel
theorem dX4_init_14 : decode cX4_init 14 = .ok (.sipush 256, 3) := by decide +kernel
theorem dX4_init_17 : decode cX4_init 17 = .ok (.putfield 15, 3) := by decide +kernel
theorem dX4_init_20 : decode cX4_init 20 = .ok (.return_, 1) := by decide +kernel
theorem dX4_length_0 : decode cX4_length 0 = .ok (.sipush 256, 3) := by decide +kernel
theorem dX4_length_3 : decode cX4_length 3 = .ok (.aload_n 0, 1) := by decide +kernel
theorem dX4_length_4 : decode cX4_length 4 = .ok (.getfield 15, 3) := by decide +kernel
theorem dX4_length_7 : decode cX4_length 7 = .ok (.isub, 1) := by decide +kernel
theorem dX4_length_8 : decode cX4_length 8 = .ok (.ireturn, 1) := by decide +kernel
theorem dX4_byteAt_0 : decode cX4_byteAt 0 = .ok (.iload_n 1, 1) := by decide +kernel
theorem dX4_byteAt_1 : decode cX4_byteAt 1 = .ok (.ifCond .lt 25, 3) := by decide +kernel
theorem dX4_byteAt_4 : decode cX4_byteAt 4 = .ok (.iload_n 1, 1) := by decide +kernel
theorem dX4_byteAt_5 : decode cX4_byteAt 5 = .ok (.aload_n 0, 1) := by decide +kernel
theorem dX4_byteAt_6 : decode cX4_byteAt 6 = .ok (.invokevirtual 19, 3) := by decide +kernel
theorem dX4_byteAt_9 : decode cX4_byteAt 9 = .ok (.if_icmp .ge 17, 3) := by decide +kernel
theorem dX4_byteAt_12 : decode cX4_byteAt 12 = .ok (.aload_n 0, 1) := by decide +kernel
theorem dX4_byteAt_13 : decode cX4_byteAt 13 = .ok (.getfield 11, 3) := by decide +kernel
theorem dX4_byteAt_16 : decode cX4_byteAt 16 = .ok (.aload_n 0, 1) := by decide +kernel
theorem dX4_byteAt_17 : decode cX4_byteAt 17 = .ok (.getfield 15, 3) := by decide +kernel
theorem dX4_byteAt_20 : decode cX4_byteAt 20 = .ok (.iload_n 1, 1) := by decide +kernel
theorem dX4_byteAt_21 : decode cX4_byteAt 21 = .ok (.iadd, 1) := by decide +kernel
theorem dX4_byteAt_22 : decode cX4_byteAt 22 = .ok (.baload, 1) := by decide +kernel
theorem dX4_byteAt_23 : decode cX4_byteAt 23 = .ok (.goto 4, 3) := by decide +kernel
theorem dX4_byteAt_26 : decode cX4_byteAt 26 = .ok (.iconst (-1), 1) := by decide +kernel
theorem dX4_byteAt_27 : decode cX4_byteAt 27 = .ok (.ireturn, 1) := by decide +kernel
theorem dX4_write_0 : decode cX4_write 0 = .ok (.aload_n 0, 1) := by decide +kernel
theorem dX4_write_1 : decode cX4_write 1 = .ok (.sipush 256, 3) := by decide +kernel
theorem dX4_write_4 : decode cX4_write 4 = .ok (.putfield 15, 3) := by decide +kernel
theorem dX4_write_7 : decode cX4_write 7 = .ok (.aload_n 1, 1) := by decide +kernel
theorem dX4_write_8 : decode cX4_write 8 = .ok (.getfield 23, 3) := by decide +kernel
theorem dX4_write_11 : decode cX4_write 11 = .ok (.getfield 29, 3) := by decide +kernel
theorem dX4_write_14 : decode cX4_write 14 = .ok (.istore_n 2, 1) := by decide +kernel
theorem dX4_write_15 : decode cX4_write 15 = .ok (.aload_n 0, 1) := by decide +kernel
theorem dX4_write_16 : decode cX4_write 16 = .ok (.aload_n 1, 1) := by decide +kernel
theorem dX4_write_17 : decode cX4_write 17 = .ok (.getfield 35, 3) := by decide +kernel
theorem dX4_write_20 : decode cX4_write 20 = .ok (.invokevirtual 38, 3) := by decide +kernel
theorem dX4_write_23 : decode cX4_write 23 = .ok (.aload_n 0, 1) := by decide +kernel
theorem dX4_write_24 : decode cX4_write 24 = .ok (.bipush 47, 2) := by decide +kernel
theorem dX4_write_26 : decode cX4_write 26 = .ok (.invokevirtual 42, 3) := by decide +kernel
theorem dX4_write_29 : decode cX4_write 29 = .ok (.aload_n 0, 1) := by decide +kernel
theorem dX4_write_30 : decode cX4_write 30 = .ok (.aload_n 1, 1) := by decide +kernel
theorem dX4_write_31 : decode cX4_write 31 = .ok (.getfield 23, 3) := by decide +kernel
theorem dX4_write_34 : decode cX4_write 34 = .ok (.invokevirtual 38, 3) := by decide +kernel
theorem dX4_write_37 : decode cX4_write 37 = .ok (.iload_n 2, 1) := by decide +kernel
theorem dX4_write_38 : decode cX4_write 38 = .ok (.ifCond .eq 9, 3) := by decide +kernel
theorem dX4_write_41 : decode cX4_write 41 = .ok (.aload_n 0, 1) := by decide +kernel
theorem dX4_write_42 : decode cX4_write 42 = .ok (.bipush 45, 2) := by decide +kernel
theorem dX4_write_44 : decode cX4_write 44 = .ok (.invokevirtual 42, 3) := by decide +kernel
theorem dX4_write_47 : decode cX4_write 47 = .ok (.return_, 1) := by decide +kernel
theorem dX4_writeDigits_0 : decode cX4_writeDigits 0 = .ok (.iconst 0, 1) := by decide +kernel
theorem dX4_writeDigits_1 : decode cX4_writeDigits 1 = .ok (.istore_n 2, 1) := by decide +kernel
theorem dX4_writeDigits_2 : decode cX4_writeDigits 2 = .ok (.iload_n 2, 1) := by decide +kernel
theorem dX4_writeDigits_3 : decode cX4_writeDigits 3 = .ok (.bipush 100, 2) := by decide +kernel
theorem dX4_writeDigits_5 : decode cX4_writeDigits 5 = .ok (.if_icmp .ge 36, 3) := by decide +kernel
theorem dX4_writeDigits_8 : decode cX4_writeDigits 8 = .ok (.iload_n 2, 1) := by decide +kernel
theorem dX4_writeDigits_9 : decode cX4_writeDigits 9 = .ok (.ifCond .eq 10, 3) := by decide +kernel
theorem dX4_writeDigits_12 : decode cX4_writeDigits 12 = .ok (.aload_n 1, 1) := by decide +kernel
theorem dX4_writeDigits_13 : decode cX4_writeDigits 13 = .ok (.invokevirtual 46, 3) := by decide +kernel
theorem dX4_writeDigits_16 : decode cX4_writeDigits 16 = .ok (.ifCond .ne 25, 3) := by decide +kernel
theorem dX4_writeDigits_19 : decode cX4_writeDigits 19 = .ok (.aload_n 0, 1) := by decide +kernel
theorem dX4_writeDigits_20 : decode cX4_writeDigits 20 = .ok (.ldc2_w 50, 3) := by decide +kernel
theorem dX4_writeDigits_23 : decode cX4_writeDigits 23 = .ok (.aload_n 1, 1) := by decide +kernel
theorem dX4_writeDigits_24 : decode cX4_writeDigits 24 = .ok (.ldc2_w 52, 3) := by decide +kernel
theorem dX4_writeDigits_27 : decode cX4_writeDigits 27 = .ok (.invokevirtual 54, 3) := by decide +kernel
theorem dX4_writeDigits_30 : decode cX4_writeDigits 30 = .ok (.ladd, 1) := by decide +kernel
theorem dX4_writeDigits_31 : decode cX4_writeDigits 31 = .ok (.l2i, 1) := by decide +kernel
theorem dX4_writeDigits_32 : decode cX4_writeDigits 32 = .ok (.invokevirtual 42, 3) := by decide +kernel
theorem dX4_writeDigits_35 : decode cX4_writeDigits 35 = .ok (.iinc 2 1, 3) := by decide +kernel
theorem dX4_writeDigits_38 : decode cX4_writeDigits 38 = .ok (.goto (-36), 3) := by decide +kernel
theorem dX4_writeDigits_41 : decode cX4_writeDigits 41 = .ok (.return_, 1) := by decide +kernel
theorem dX4_writeByte_0 : decode cX4_writeByte 0 = .ok (.aload_n 0, 1) := by decide +kernel
theorem dX4_writeByte_1 : decode cX4_writeByte 1 = .ok (.getfield 15, 3) := by decide +kernel
theorem dX4_writeByte_4 : decode cX4_writeByte 4 = .ok (.ifCond .le 24, 3) := by decide +kernel
theorem dX4_writeByte_7 : decode cX4_writeByte 7 = .ok (.aload_n 0, 1) := by decide +kernel
theorem dX4_writeByte_8 : decode cX4_writeByte 8 = .ok (.dup, 1) := by decide +kernel
theorem dX4_writeByte_9 : decode cX4_writeByte 9 = .ok (.getfield 15, 3) := by decide +kernel
theorem dX4_writeByte_12 : decode cX4_writeByte 12 = .ok (.iconst 1, 1) := by decide +kernel
theorem dX4_writeByte_13 : decode cX4_writeByte 13 = .ok (.isub, 1) := by decide +kernel
theorem dX4_writeByte_14 : decode cX4_writeByte 14 = .ok (.putfield 15, 3) := by decide +kernel
theorem dX4_writeByte_17 : decode cX4_writeByte 17 = .ok (.aload_n 0, 1) := by decide +kernel
theorem dX4_writeByte_18 : decode cX4_writeByte 18 = .ok (.getfield 11, 3) := by decide +kernel
theorem dX4_writeByte_21 : decode cX4_writeByte 21 = .ok (.aload_n 0, 1) := by decide +kernel
theorem dX4_writeByte_22 : decode cX4_writeByte 22 = .ok (.getfield 15, 3) := by decide +kernel
theorem dX4_writeByte_25 : decode cX4_writeByte 25 = .ok (.iload_n 1, 1) := by decide +kernel
theorem dX4_writeByte_26 : decode cX4_writeByte 26 = .ok (.i2b, 1) := by decide +kernel
theorem dX4_writeByte_27 : decode cX4_writeByte 27 = .ok (.bastore, 1) := by decide +kernel
theorem dX4_writeByte_28 : decode cX4_writeByte 28 = .ok (.return_, 1) := by decide +kernel
theorem dX5_init_0 : decode cX5_init 0 = .ok (.aload_n 0, 1) := by decide +kernel
theorem dX5_init_1 : decode cX5_init 1 = .ok (.invokespecial 3, 3) := by decide +kernel
theorem dX5_init_4 : decode cX5_init 4 = .ok (.aload_n 0, 1) := by decide +kernel
theorem dX5_init_5 : decode cX5_init 5 = .ok (.bipush 40, 2) := by decide +kernel
theorem dX5_init_7 : decode cX5_init 7 = .ok (.anewarray 9, 3) := by decide +kernel
theorem dX5_init_10 : decode cX5_init 10 = .ok (.putfield 11, 3) := by decide +kernel
theorem dX5_init_13 : decode cX5_init 13 = .ok (.aload_n 0, 1) := by decide +kernel
theorem dX5_init_14 : decode cX5_init 14 = .ok (.new 17, 3) := by decide +kernel
theorem dX5_init_17 : decode cX5_init 17 = .ok (.dup, 1) := by decide +kernel
theorem dX5_init_18 : decode cX5_init 18 = .ok (.invokespecial 19, 3) := by decide +kernel
theorem dX5_init_21 : decode cX5_init 21 = .ok (.putfield 20, 3) := by decide +kernel
theorem dX5_init_24 : decode cX5_init 24 = .ok (.aload_n 0, 1) := by decide +kernel
theorem dX5_init_25 : decode cX5_init 25 = .ok (.new 9, 3) := by decide +kernel
theorem dX5_init_28 : decode cX5_init 28 = .ok (.dup, 1) := by decide +kernel
theorem dX5_init_29 : decode cX5_init 29 = .ok (.invokespecial 24, 3) := by decide +kernel
theorem dX5_init_32 : decode cX5_init 32 = .ok (.putfield 25, 3) := by decide +kernel
theorem dX5_init_35 : decode cX5_init 35 = .ok (.aload_n 0, 1) := by decide +kernel
theorem dX5_init_36 : decode cX5_init 36 = .ok (.new 9, 3) := by decide +kernel
theorem dX5_init_39 : decode cX5_init 39 = .ok (.dup, 1) := by decide +kernel
theorem dX5_init_40 : decode cX5_init 40 = .ok (.invokespecial 24, 3) := by decide +kernel
theorem dX5_init_43 : decode cX5_init 43 = .ok (.putfield 29, 3) := by decide +kernel
theorem dX5_init_46 : decode cX5_init 46 = .ok (.aload_n 0, 1) := by decide +kernel
theorem dX5_init_47 : decode cX5_init 47 = .ok (.aload_n 1, 1) := by decide +kernel
theorem dX5_init_48 : decode cX5_init 48 = .ok (.putfield 32, 3) := by decide +kernel
theorem dX5_init_51 : decode cX5_init 51 = .ok (.aload_n 0, 1) := by decide +kernel
theorem dX5_init_52 : decode cX5_init 52 = .ok (.aload_n 2, 1) := by decide +kernel
theorem dX5_init_53 : decode cX5_init 53 = .ok (.putfield 36, 3) := by decide +kernel
theorem dX5_init_56 : decode cX5_init 56 = .ok (.iconst 0, 1) := by decide +kernel
theorem dX5_init_57 : decode cX5_init 57 = .ok (.istore_n 3, 1) := by decide +kernel
theorem dX5_init_58 : decode cX5_init 58 = .ok (.iload_n 3, 1) := by decide +kernel
theorem dX5_init_59 : decode cX5_init 59 = .ok (.bipush 40, 2) := by decide +kernel
theorem dX5_init_61 : decode cX5_init 61 = .ok (.if_icmp .ge 22, 3) := by decide +kernel
theorem dX5_init_64 : decode cX5_init 64 = .ok (.aload_n 0, 1) := by decide +kernel
theorem dX5_init_65 : decode cX5_init 65 = .ok (.getfield 11, 3) := by decide +kernel
theorem dX5_init_68 : decode cX5_init 68 = .ok (.iload_n 3, 1) := by decide +kernel
theorem dX5_init_69 : decode cX5_init 69 = .ok (.new 9, 3) := by decide +kernel
theorem dX5_init_72 : decode cX5_init 72 = .ok (.dup, 1) := by decide +kernel
theorem dX5_init_73 : decode cX5_init 73 = .ok (.invokespecial 24, 3) := by decide +kernel
theorem dX5_init_76 : decode cX5_init 76 = .ok (.aastore, 1) := by decide +kernel
theorem dX5_init_77 : decode cX5_init 77 = .ok (.iinc 3 1, 3) := by decide +kernel
theorem dX5_init_80 : decode cX5_init 80 = .ok (.goto (-22), 3) := by decide +kernel
theorem dX5_init_83 : decode cX5_init 83 = .ok (.return_, 1) := by decide +kernel
theorem dX5_run_0 : decode cX5_run 0 = .ok (.aload_n 0, 1) := by decide +kernel
theorem dX5_run_1 : decode cX5_run 1 = .ok (.getfield 20, 3) := by decide +kernel
theorem dX5_run_4 : decode cX5_run 4 = .ok (.aload_n 1, 1) := by decide +kernel
theorem dX5_run_5 : decode cX5_run 5 = .ok (.getfield 40, 3) := by decide +kernel
theorem dX5_run_8 : decode cX5_run 8 = .ok (.invokevirtual 45, 3) := by decide +kernel
theorem dX5_run_11 : decode cX5_run 11 = .ok (.aload_n 1, 1) := by decide +kernel
theorem dX5_run_12 : decode cX5_run 12 = .ok (.getfield 40, 3) := by decide +kernel
theorem dX5_run_15 : decode cX5_run 15 = .ok (.invokevirtual 49, 3) := by decide +kernel
theorem dX5_run_18 : decode cX5_run 18 = .ok (.iconst 1, 1) := by decide +kernel
theorem dX5_run_19 : decode cX5_run 19 = .ok (.istore 4, 2) := by decide +kernel
theorem dX5_run_21 : decode cX5_run 21 = .ok (.iconst 0, 1) := by decide +kernel
theorem dX5_run_22 : decode cX5_run 22 = .ok (.istore 5, 2) := by decide +kernel
theorem dX5_run_24 : decode cX5_run 24 = .ok (.iload 5, 2) := by decide +kernel
theorem dX5_run_26 : decode cX5_run 26 = .ok (.iconst 5, 1) := by decide +kernel
theorem dX5_run_27 : decode cX5_run 27 = .ok (.if_icmp .ge 58, 3) := by decide +kernel
theorem dX5_run_30 : decode cX5_run 30 = .ok (.iload 4, 2) := by decide +kernel
theorem dX5_run_32 : decode cX5_run 32 = .ok (.ifCond .eq 53, 3) := by decide +kernel
theorem dX5_run_35 : decode cX5_run 35 = .ok (.aload_n 0, 1) := by decide +kernel
theorem dX5_run_36 : decode cX5_run 36 = .ok (.getfield 32, 3) := by decide +kernel
theorem dX5_run_39 : decode cX5_run 39 = .ok (.aload_n 1, 1) := by decide +kernel
theorem dX5_run_40 : decode cX5_run 40 = .ok (.iconst (-1), 1) := by decide +kernel
theorem dX5_run_41 : decode cX5_run 41 = .ok (.invokevirtual 52, 3) := by decide +kernel
theorem dX5_run_44 : decode cX5_run 44 = .ok (.ifCond .ne 16, 3) := by decide +kernel
theorem dX5_run_47 : decode cX5_run 47 = .ok (.aload_n 1, 1) := by decide +kernel
theorem dX5_run_48 : decode cX5_run 48 = .ok (.getfield 40, 3) := by decide +kernel
theorem dX5_run_51 : decode cX5_run 51 = .ok (.aload_n 0, 1) := by decide +kernel
theorem dX5_run_52 : decode cX5_run 52 = .ok (.getfield 20, 3) := by decide +kernel
theorem dX5_run_55 : decode cX5_run 55 = .ok (.invokevirtual 45, 3) := by decide +kernel
theorem dX5_run_58 : decode cX5_run 58 = .ok (.iconst 0, 1) := by decide +kernel
theorem dX5_run_59 : decode cX5_run 59 = .ok (.ireturn, 1) := by decide +kernel
theorem dX5_run_60 : decode cX5_run 60 = .ok (.aload_n 0, 1) := by decide +kernel
theorem dX5_run_61 : decode cX5_run 61 = .ok (.aload_n 1, 1) := by decide +kernel
theorem dX5_run_62 : decode cX5_run 62 = .ok (.invokevirtual 58, 3) := by decide +kernel
theorem dX5_run_65 : decode cX5_run 65 = .ok (.aload_n 0, 1) := by decide +kernel
theorem dX5_run_66 : decode cX5_run 66 = .ok (.aload_n 1, 1) := by decide +kernel
theorem dX5_run_67 : decode cX5_run 67 = .ok (.invokevirtual 62, 3) := by decide +kernel
theorem dX5_run_70 : decode cX5_run 70 = .ok (.aload_n 0, 1) := by decide +kernel
theorem dX5_run_71 : decode cX5_run 71 = .ok (.aload_n 1, 1) := by decide +kernel
theorem dX5_run_72 : decode cX5_run 72 = .ok (.iload_n 2, 1) := by decide +kernel
theorem dX5_run_73 : decode cX5_run 73 = .ok (.iload_n 3, 1) := by decide +kernel
theorem dX5_run_74 : decode cX5_run 74 = .ok (.invokevirtual 65, 3) := by decide +kernel
theorem dX5_run_77 : decode cX5_run 77 = .ok (.istore 4, 2) := by decide +kernel
theorem dX5_run_79 : decode cX5_run 79 = .ok (.iinc 5 1, 3) := by decide +kernel
theorem dX5_run_82 : decode cX5_run 82 = .ok (.goto (-58), 3) := by decide +kernel
theorem dX5_run_85 : decode cX5_run 85 = .ok (.iconst 1, 1) := by decide +kernel
theorem dX5_run_86 : decode cX5_run 86 = .ok (.ireturn, 1) := by decide +kernel
theorem dX5_measure_0 : decode cX5_measure 0 = .ok (.iconst 0, 1) := by decide +kernel
theorem dX5_measure_1 : decode cX5_measure 1 = .ok (.istore_n 2, 1) := by decide +kernel
theorem dX5_measure_2 : decode cX5_measure 2 = .ok (.iload_n 2, 1) := by decide +kernel
theorem dX5_measure_3 : decode cX5_measure 3 = .ok (.bipush 40, 2) := by decide +kernel
theorem dX5_measure_5 : decode cX5_measure 5 = .ok (.if_icmp .ge 41, 3) := by decide +kernel
theorem dX5_measure_8 : decode cX5_measure 8 = .ok (.aload_n 1, 1) := by decide +kernel
theorem dX5_measure_9 : decode cX5_measure 9 = .ok (.iload_n 2, 1) := by decide +kernel
theorem dX5_measure_10 : decode cX5_measure 10 = .ok (.invokevirtual 69, 3) := by decide +kernel
theorem dX5_measure_13 : decode cX5_measure 13 = .ok (.ifCond .eq 27, 3) := by decide +kernel
theorem dX5_measure_16 : decode cX5_measure 16 = .ok (.aload_n 0, 1) := by decide +kernel
theorem dX5_measure_17 : decode cX5_measure 17 = .ok (.getfield 32, 3) := by decide +kernel
theorem dX5_measure_20 : decode cX5_measure 20 = .ok (.iload_n 2, 1) := by decide +kernel
theorem dX5_measure_21 : decode cX5_measure 21 = .ok (.aload_n 0, 1) := by decide +kernel
theorem dX5_measure_22 : decode cX5_measure 22 = .ok (.getfield 11, 3) := by decide +kernel
theorem dX5_measure_25 : decode cX5_measure 25 = .ok (.iload_n 2, 1) := by decide +kernel
theorem dX5_measure_26 : decode cX5_measure 26 = .ok (.aaload, 1) := by decide +kernel
theorem dX5_measure_27 : decode cX5_measure 27 = .ok (.invokevirtual 73, 3) := by decide +kernel
theorem dX5_measure_30 : decode cX5_measure 30 = .ok (.aload_n 0, 1) := by decide +kernel
theorem dX5_measure_31 : decode cX5_measure 31 = .ok (.getfield 11, 3) := by decide +kernel
theorem dX5_measure_34 : decode cX5_measure 34 = .ok (.iload_n 2, 1) := by decide +kernel
theorem dX5_measure_35 : decode cX5_measure 35 = .ok (.aaload, 1) := by decide +kernel
theorem dX5_measure_36 : decode cX5_measure 36 = .ok (.iconst 0, 1) := by decide +kernel
theorem dX5_measure_37 : decode cX5_measure 37 = .ok (.putfield 77, 3) := by decide +kernel
theorem dX5_measure_40 : decode cX5_measure 40 = .ok (.iinc 2 1, 3) := by decide +kernel
theorem dX5_measure_43 : decode cX5_measure 43 = .ok (.goto (-41), 3) := by decide +kernel
theorem dX5_measure_46 : decode cX5_measure 46 = .ok (.return_, 1) := by decide +kernel
theorem dX5_findMiddle_0 : decode cX5_findMiddle 0 = .ok (.aload_n 1, 1) := by decide +kernel
theorem dX5_findMiddle_1 : decode cX5_findMiddle 1 = .ok (.invokevirtual 81, 3) := by decide +kernel
theorem dX5_findMiddle_4 : decode cX5_findMiddle 4 = .ok (.istore_n 2, 1) := by decide +kernel
theorem dX5_findMiddle_5 : decode cX5_findMiddle 5 = .ok (.aload_n 0, 1) := by decide +kernel
theorem dX5_findMiddle_6 : decode cX5_findMiddle 6 = .ok (.getfield 25, 3) := by decide +kernel
theorem dX5_findMiddle_9 : decode cX5_findMiddle 9 = .ok (.lconst 0, 1) := by decide +kernel
theorem dX5_findMiddle_10 : decode cX5_findMiddle 10 = .ok (.invokevirtual 85, 3) := by decide +kernel
theorem dX5_findMiddle_13 : decode cX5_findMiddle 13 = .ok (.iconst 0, 1) := by decide +kernel
theorem dX5_findMiddle_14 : decode cX5_findMiddle 14 = .ok (.istore_n 3, 1) := by decide +kernel
theorem dX5_findMiddle_15 : decode cX5_findMiddle 15 = .ok (.iload_n 3, 1) := by decide +kernel
theorem dX5_findMiddle_16 : decode cX5_findMiddle 16 = .ok (.bipush 40, 2) := by decide +kernel
theorem dX5_findMiddle_18 : decode cX5_findMiddle 18 = .ok (.if_icmp .ge 75, 3) := by decide +kernel
theorem dX5_findMiddle_21 : decode cX5_findMiddle 21 = .ok (.aload_n 1, 1) := by decide +kernel
theorem dX5_findMiddle_22 : decode cX5_findMiddle 22 = .ok (.iload_n 3, 1) := by decide +kernel
theorem dX5_findMiddle_23 : decode cX5_findMiddle 23 = .ok (.invokevirtual 69, 3) := by decide +kernel
theorem dX5_findMiddle_26 : decode cX5_findMiddle 26 = .ok (.ifCond .eq 23, 3) := by decide +kernel
theorem dX5_findMiddle_29 : decode cX5_findMiddle 29 = .ok (.aload_n 0, 1) := by decide +kernel
theorem dX5_findMiddle_30 : decode cX5_findMiddle 30 = .ok (.getfield 11, 3) := by decide +kernel
theorem dX5_findMiddle_33 : decode cX5_findMiddle 33 = .ok (.iload_n 3, 1) := by decide +kernel
theorem dX5_findMiddle_34 : decode cX5_findMiddle 34 = .ok (.aaload, 1) := by decide +kernel
theorem dX5_findMiddle_35 : decode cX5_findMiddle 35 = .ok (.aload_n 0, 1) := by decide +kernel
theorem dX5_findMiddle_36 : decode cX5_findMiddle 36 = .ok (.getfield 25, 3) := by decide +kernel
theorem dX5_findMiddle_39 : decode cX5_findMiddle 39 = .ok (.invokevirtual 89, 3) := by decide +kernel
theorem dX5_findMiddle_42 : decode cX5_findMiddle 42 = .ok (.ifCond .le 7, 3) := by decide +kernel
theorem dX5_findMiddle_45 : decode cX5_findMiddle 45 = .ok (.iconst 1, 1) := by decide +kernel
theorem dX5_findMiddle_46 : decode cX5_findMiddle 46 = .ok (.goto 4, 3) := by decide +kernel
theorem dX5_findMiddle_49 : decode cX5_findMiddle 49 = .ok (.iconst 0, 1) := by decide +kernel
theorem dX5_findMiddle_50 : decode cX5_findMiddle 50 = .ok (.istore 4, 2) := by decide +kernel
theorem dX5_findMiddle_52 : decode cX5_findMiddle 52 = .ok (.iload 4, 2) := by decide +kernel
theorem dX5_findMiddle_54 : decode cX5_findMiddle 54 = .ok (.ifCond .eq 33, 3) := by decide +kernel
theorem dX5_findMiddle_57 : decode cX5_findMiddle 57 = .ok (.iconst 2, 1) := by decide +kernel
theorem dX5_findMiddle_58 : decode cX5_findMiddle 58 = .ok (.aload_n 0, 1) := by decide +kernel
theorem dX5_findMiddle_59 : decode cX5_findMiddle 59 = .ok (.aload_n 1, 1) := by decide +kernel
theorem dX5_findMiddle_60 : decode cX5_findMiddle 60 = .ok (.aload_n 0, 1) := by decide +kernel
theorem dX5_findMiddle_61 : decode cX5_findMiddle 61 = .ok (.getfield 11, 3) := by decide +kernel
theorem dX5_findMiddle_64 : decode cX5_findMiddle 64 = .ok (.iload_n 3, 1) := by decide +kernel
theorem dX5_findMiddle_65 : decode cX5_findMiddle 65 = .ok (.aaload, 1) := by decide +kernel
theorem dX5_findMiddle_66 : decode cX5_findMiddle 66 = .ok (.invokevirtual 93, 3) := by decide +kernel
theorem dX5_findMiddle_69 : decode cX5_findMiddle 69 = .ok (.imul, 1) := by decide +kernel
theorem dX5_findMiddle_70 : decode cX5_findMiddle 70 = .ok (.iload_n 2, 1) := by decide +kernel
theorem dX5_findMiddle_71 : decode cX5_findMiddle 71 = .ok (.if_icmp .lt 16, 3) := by decide +kernel
theorem dX5_findMiddle_74 : decode cX5_findMiddle 74 = .ok (.aload_n 0, 1) := by decide +kernel
theorem dX5_findMiddle_75 : decode cX5_findMiddle 75 = .ok (.getfield 25, 3) := by decide +kernel
theorem dX5_findMiddle_78 : decode cX5_findMiddle 78 = .ok (.aload_n 0, 1) := by decide +kernel
theorem dX5_findMiddle_79 : decode cX5_findMiddle 79 = .ok (.getfield 11, 3) := by decide +kernel
theorem dX5_findMiddle_82 : decode cX5_findMiddle 82 = .ok (.iload_n 3, 1) := by decide +kernel
theorem dX5_findMiddle_83 : decode cX5_findMiddle 83 = .ok (.aaload, 1) := by decide +kernel
theorem dX5_findMiddle_84 : decode cX5_findMiddle 84 = .ok (.invokevirtual 97, 3) := by decide +kernel
theorem dX5_findMiddle_87 : decode cX5_findMiddle 87 = .ok (.iinc 3 1, 3) := by decide +kernel
theorem dX5_findMiddle_90 : decode cX5_findMiddle 90 = .ok (.goto (-75), 3) := by decide +kernel
theorem dX5_findMiddle_93 : decode cX5_findMiddle 93 = .ok (.return_, 1) := by decide +kernel
theorem dX5_asGreat_0 : decode cX5_asGreat 0 = .ok (.iconst 0, 1) := by decide +kernel
theorem dX5_asGreat_1 : decode cX5_asGreat 1 = .ok (.istore_n 3, 1) := by decide +kernel
theorem dX5_asGreat_2 : decode cX5_asGreat 2 = .ok (.iconst 0, 1) := by decide +kernel
theorem dX5_asGreat_3 : decode cX5_asGreat 3 = .ok (.istore 4, 2) := by decide +kernel
theorem dX5_asGreat_5 : decode cX5_asGreat 5 = .ok (.iload 4, 2) := by decide +kernel
theorem dX5_asGreat_7 : decode cX5_asGreat 7 = .ok (.bipush 40, 2) := by decide +kernel
theorem dX5_asGreat_9 : decode cX5_asGreat 9 = .ok (.if_icmp .ge 35, 3) := by decide +kernel
theorem dX5_asGreat_12 : decode cX5_asGreat 12 = .ok (.aload_n 1, 1) := by decide +kernel
theorem dX5_asGreat_13 : decode cX5_asGreat 13 = .ok (.iload 4, 2) := by decide +kernel
theorem dX5_asGreat_15 : decode cX5_asGreat 15 = .ok (.invokevirtual 69, 3) := by decide +kernel
theorem dX5_asGreat_18 : decode cX5_asGreat 18 = .ok (.ifCond .eq 20, 3) := by decide +kernel
theorem dX5_asGreat_21 : decode cX5_asGreat 21 = .ok (.aload_n 0, 1) := by decide +kernel
theorem dX5_asGreat_22 : decode cX5_asGreat 22 = .ok (.getfield 11, 3) := by decide +kernel
theorem dX5_asGreat_25 : decode cX5_asGreat 25 = .ok (.iload 4, 2) := by decide +kernel
theorem dX5_asGreat_27 : decode cX5_asGreat 27 = .ok (.aaload, 1) := by decide +kernel
theorem dX5_asGreat_28 : decode cX5_asGreat 28 = .ok (.aload_n 2, 1) := by decide +kernel
theorem dX5_asGreat_29 : decode cX5_asGreat 29 = .ok (.invokevirtual 89, 3) := by decide +kernel
theorem dX5_asGreat_32 : decode cX5_asGreat 32 = .ok (.ifCond .lt 6, 3) := by decide +kernel
theorem dX5_asGreat_35 : decode cX5_asGreat 35 = .ok (.iinc 3 1, 3) := by decide +kernel
theorem dX5_asGreat_38 : decode cX5_asGreat 38 = .ok (.iinc 4 1, 3) := by decide +kernel
theorem dX5_asGreat_41 : decode cX5_asGreat 41 = .ok (.goto (-36), 3) := by decide +kernel
theorem dX5_asGreat_44 : decode cX5_asGreat 44 = .ok (.iload_n 3, 1) := by decide +kernel
theorem dX5_asGreat_45 : decode cX5_asGreat 45 = .ok (.ireturn, 1) := by decide +kernel
theorem dX5_leaveOut_0 : decode cX5_leaveOut 0 = .ok (.aload_n 1, 1) := by decide +kernel
theorem dX5_leaveOut_1 : decode cX5_leaveOut 1 = .ok (.getfield 40, 3) := by decide +kernel
theorem dX5_leaveOut_4 : decode cX5_leaveOut 4 = .ok (.getfield 100, 3) := by decide +kernel
theorem dX5_leaveOut_7 : decode cX5_leaveOut 7 = .ok (.istore 4, 2) := by decide +kernel
theorem dX5_leaveOut_9 : decode cX5_leaveOut 9 = .ok (.iconst 0, 1) := by decide +kernel
theorem dX5_leaveOut_10 : decode cX5_leaveOut 10 = .ok (.istore 5, 2) := by decide +kernel
theorem dX5_leaveOut_12 : decode cX5_leaveOut 12 = .ok (.iload 5, 2) := by decide +kernel
theorem dX5_leaveOut_14 : decode cX5_leaveOut 14 = .ok (.bipush 40, 2) := by decide +kernel
theorem dX5_leaveOut_16 : decode cX5_leaveOut 16 = .ok (.if_icmp .ge 44, 3) := by decide +kernel
theorem dX5_leaveOut_19 : decode cX5_leaveOut 19 = .ok (.aload_n 1, 1) := by decide +kernel
theorem dX5_leaveOut_20 : decode cX5_leaveOut 20 = .ok (.iload 5, 2) := by decide +kernel
theorem dX5_leaveOut_22 : decode cX5_leaveOut 22 = .ok (.invokevirtual 69, 3) := by decide +kernel
theorem dX5_leaveOut_25 : decode cX5_leaveOut 25 = .ok (.ifCond .eq 29, 3) := by decide +kernel
theorem dX5_leaveOut_28 : decode cX5_leaveOut 28 = .ok (.aload_n 0, 1) := by decide +kernel
theorem dX5_leaveOut_29 : decode cX5_leaveOut 29 = .ok (.aload_n 0, 1) := by decide +kernel
theorem dX5_leaveOut_30 : decode cX5_leaveOut 30 = .ok (.getfield 11, 3) := by decide +kernel
theorem dX5_leaveOut_33 : decode cX5_leaveOut 33 = .ok (.iload 5, 2) := by decide +kernel
theorem dX5_leaveOut_35 : decode cX5_leaveOut 35 = .ok (.aaload, 1) := by decide +kernel
theorem dX5_leaveOut_36 : decode cX5_leaveOut 36 = .ok (.iload_n 2, 1) := by decide +kernel
theorem dX5_leaveOut_37 : decode cX5_leaveOut 37 = .ok (.iload_n 3, 1) := by decide +kernel
theorem dX5_leaveOut_38 : decode cX5_leaveOut 38 = .ok (.invokevirtual 104, 3) := by decide +kernel
theorem dX5_leaveOut_41 : decode cX5_leaveOut 41 = .ok (.ifCond .eq 13, 3) := by decide +kernel
theorem dX5_leaveOut_44 : decode cX5_leaveOut 44 = .ok (.aload_n 1, 1) := by decide +kernel
theorem dX5_leaveOut_45 : decode cX5_leaveOut 45 = .ok (.getfield 40, 3) := by decide +kernel
theorem dX5_leaveOut_48 : decode cX5_leaveOut 48 = .ok (.iload 5, 2) := by decide +kernel
theorem dX5_leaveOut_50 : decode cX5_leaveOut 50 = .ok (.invokevirtual 108, 3) := by decide +kernel
theorem dX5_leaveOut_53 : decode cX5_leaveOut 53 = .ok (.pop, 1) := by decide +kernel
theorem dX5_leaveOut_54 : decode cX5_leaveOut 54 = .ok (.iinc 5 1, 3) := by decide +kernel
theorem dX5_leaveOut_57 : decode cX5_leaveOut 57 = .ok (.goto (-45), 3) := by decide +kernel
theorem dX5_leaveOut_60 : decode cX5_leaveOut 60 = .ok (.aload_n 1, 1) := by decide +kernel
theorem dX5_leaveOut_61 : decode cX5_leaveOut 61 = .ok (.getfield 40, 3) := by decide +kernel
theorem dX5_leaveOut_64 : decode cX5_leaveOut 64 = .ok (.getfield 100, 3) := by decide +kernel
theorem dX5_leaveOut_67 : decode cX5_leaveOut 67 = .ok (.iload 4, 2) := by decide +kernel
theorem dX5_leaveOut_69 : decode cX5_leaveOut 69 = .ok (.if_icmp .le 7, 3) := by decide +kernel
theorem dX5_leaveOut_72 : decode cX5_leaveOut 72 = .ok (.iconst 1, 1) := by decide +kernel
theorem dX5_leaveOut_73 : decode cX5_leaveOut 73 = .ok (.goto 4, 3) := by decide +kernel
theorem dX5_leaveOut_76 : decode cX5_leaveOut 76 = .ok (.iconst 0, 1) := by decide +kernel
theorem dX5_leaveOut_77 : decode cX5_leaveOut 77 = .ok (.ireturn, 1) := by decide +kernel
theorem dX5_isAbove_0 : decode cX5_isAbove 0 = .ok (.aload_n 0, 1) := by decide +kernel
theorem dX5_isAbove_1 : decode cX5_isAbove 1 = .ok (.getfield 36, 3) := by decide +kernel
theorem dX5_isAbove_4 : decode cX5_isAbove 4 = .ok (.invokevirtual 111, 3) := by decide +kernel
theorem dX5_isAbove_7 : decode cX5_isAbove 7 = .ok (.aload_n 0, 1) := by decide +kernel
theorem dX5_isAbove_8 : decode cX5_isAbove 8 = .ok (.getfield 36, 3) := by decide +kernel
theorem dX5_isAbove_11 : decode cX5_isAbove 11 = .ok (.aload_n 0, 1) := by decide +kernel
theorem dX5_isAbove_12 : decode cX5_isAbove 12 = .ok (.getfield 25, 3) := by decide +kernel
theorem dX5_isAbove_15 : decode cX5_isAbove 15 = .ok (.iload_n 2, 1) := by decide +kernel
theorem dX5_isAbove_16 : decode cX5_isAbove 16 = .ok (.i2l, 1) := by decide +kernel
theorem dX5_isAbove_17 : decode cX5_isAbove 17 = .ok (.invokevirtual 114, 3) := by decide +kernel
theorem dX5_isAbove_20 : decode cX5_isAbove 20 = .ok (.aload_n 0, 1) := by decide +kernel
theorem dX5_isAbove_21 : decode cX5_isAbove 21 = .ok (.getfield 36, 3) := by decide +kernel
theorem dX5_isAbove_24 : decode cX5_isAbove 24 = .ok (.aload_n 1, 1) := by decide +kernel
theorem dX5_isAbove_25 : decode cX5_isAbove 25 = .ok (.iload_n 3, 1) := by decide +kernel
theorem dX5_isAbove_26 : decode cX5_isAbove 26 = .ok (.ineg, 1) := by decide +kernel
theorem dX5_isAbove_27 : decode cX5_isAbove 27 = .ok (.i2l, 1) := by decide +kernel
theorem dX5_isAbove_28 : decode cX5_isAbove 28 = .ok (.invokevirtual 114, 3) := by decide +kernel
theorem dX5_isAbove_31 : decode cX5_isAbove 31 = .ok (.aload_n 0, 1) := by decide +kernel
theorem dX5_isAbove_32 : decode cX5_isAbove 32 = .ok (.getfield 36, 3) := by decide +kernel
theorem dX5_isAbove_35 : decode cX5_isAbove 35 = .ok (.aload_n 0, 1) := by decide +kernel
theorem dX5_isAbove_36 : decode cX5_isAbove 36 = .ok (.getfield 29, 3) := by decide +kernel
theorem dX5_isAbove_39 : decode cX5_isAbove 39 = .ok (.invokevirtual 118, 3) := by decide +kernel
theorem dX5_isAbove_42 : decode cX5_isAbove 42 = .ok (.aload_n 0, 1) := by decide +kernel
theorem dX5_isAbove_43 : decode cX5_isAbove 43 = .ok (.getfield 29, 3) := by decide +kernel
theorem dX5_isAbove_46 : decode cX5_isAbove 46 = .ok (.getfield 77, 3) := by decide +kernel
theorem dX5_isAbove_49 : decode cX5_isAbove 49 = .ok (.ireturn, 1) := by decide +kernel
theorem dX6_init_0 : decode cX6_init 0 = .ok (.aload_n 0, 1) := by decide +kernel
theorem dX6_init_1 : decode cX6_init 1 = .ok (.invokespecial 1, 3) := by decide +kernel
theorem dX6_init_4 : decode cX6_init 4 = .ok (.aload_n 0, 1) := by decide +kernel
theorem dX6_init_5 : decode cX6_init 5 = .ok (.bipush 12, 2) := by decide +kernel
theorem dX6_init_7 : decode cX6_init 7 = .ok (.newarray .long, 2) := by decide +kernel
theorem dX6_init_9 : decode cX6_init 9 = .ok (.putfield 9, 3) := by decide +kernel
theorem dX6_init_12 : decode cX6_init 12 = .ok (.aload_n 0, 1) := by decide +kernel
theorem dX6_init_13 : decode cX6_init 13 = .ok (.iconst 0, 1) := by decide +kernel
theorem dX6_init_14 : decode cX6_init 14 = .ok (.putfield 15, 3) := by decide +kernel
theorem dX6_init_17 : decode cX6_init 17 = .ok (.return_, 1) := by decide +kernel
theorem dX6_clear_0 : decode cX6_clear 0 = .ok (.aload_n 0, 1) := by decide +kernel
theorem dX6_clear_1 : decode cX6_clear 1 = .ok (.getfield 9, 3) := by decide +kernel
theorem dX6_clear_4 : decode cX6_clear 4 = .ok (.lconst 0, 1) := by decide +kernel
theorem dX6_clear_5 : decode cX6_clear 5 = .ok (.invokestatic 19, 3) := by decide +kernel
theorem dX6_clear_8 : decode cX6_clear 8 = .ok (.aload_n 0, 1) := by decide +kernel
theorem dX6_clear_9 : decode cX6_clear 9 = .ok (.iconst 0, 1) := by decide +kernel
theorem dX6_clear_10 : decode cX6_clear 10 = .ok (.putfield 15, 3) := by decide +kernel
theorem dX6_clear_13 : decode cX6_clear 13 = .ok (.return_, 1) := by decide +kernel
theorem dX6_addProduct_0 : decode cX6_addProduct 0 = .ok (.aload_n 1, 1) := by decide +kernel
theorem dX6_addProduct_1 : decode cX6_addProduct 1 = .ok (.getfield 25, 3) := by decide +kernel
theorem dX6_addProduct_4 : decode cX6_addProduct 4 = .ok (.aload_n 2, 1) := by decide +kernel
theorem dX6_addProduct_5 : decode cX6_addProduct 5 = .ok (.getfield 25, 3) := by decide +kernel
theorem dX6_addProduct_8 : decode cX6_addProduct 8 = .ok (.if_icmp .eq 7, 3) := by decide +kernel
theorem dX6_addProduct_11 : decode cX6_addProduct 11 = .ok (.iconst 1, 1) := by decide +kernel
theorem dX6_addProduct_12 : decode cX6_addProduct 12 = .ok (.goto 4, 3) := by decide +kernel
theorem dX6_addProduct_15 : decode cX6_addProduct 15 = .ok (.iconst 0, 1) := by decide +kernel
theorem dX6_addProduct_16 : decode cX6_addProduct 16 = .ok (.iload_n 3, 1) := by decide +kernel
theorem dX6_addProduct_17 : decode cX6_addProduct 17 = .ok (.if_icmp .eq 7, 3) := by decide +kernel
theorem dX6_addProduct_20 : decode cX6_addProduct 20 = .ok (.iconst 1, 1) := by decide +kernel
theorem dX6_addProduct_21 : decode cX6_addProduct 21 = .ok (.goto 4, 3) := by decide +kernel
theorem dX6_addProduct_24 : decode cX6_addProduct 24 = .ok (.iconst 0, 1) := by decide +kernel
theorem dX6_addProduct_25 : decode cX6_addProduct 25 = .ok (.istore 4, 2) := by decide +kernel
theorem dX6_addProduct_27 : decode cX6_addProduct 27 = .ok (.iconst 0, 1) := by decide +kernel
theorem dX6_addProduct_28 : decode cX6_addProduct 28 = .ok (.istore 5, 2) := by decide +kernel
theorem dX6_addProduct_30 : decode cX6_addProduct 30 = .ok (.iload 5, 2) := by decide +kernel
theorem dX6_addProduct_32 : decode cX6_addProduct 32 = .ok (.aload_n 1, 1) := by decide +kernel
theorem dX6_addProduct_33 : decode cX6_addProduct 33 = .ok (.getfield 29, 3) := by decide +kernel
theorem dX6_addProduct_36 : decode cX6_addProduct 36 = .ok (.if_icmp .ge 85, 3) := by decide +kernel
theorem dX6_addProduct_39 : decode cX6_addProduct 39 = .ok (.iload 4, 2) := by decide +kernel
theorem dX6_addProduct_41 : decode cX6_addProduct 41 = .ok (.ifCond .eq 14, 3) := by decide +kernel
theorem dX6_addProduct_44 : decode cX6_addProduct 44 = .ok (.aload_n 1, 1) := by decide +kernel
theorem dX6_addProduct_45 : decode cX6_addProduct 45 = .ok (.getfield 32, 3) := by decide +kernel
theorem dX6_addProduct_48 : decode cX6_addProduct 48 = .ok (.iload 5, 2) := by decide +kernel
theorem dX6_addProduct_50 : decode cX6_addProduct 50 = .ok (.laload, 1) := by decide +kernel
theorem dX6_addProduct_51 : decode cX6_addProduct 51 = .ok (.lneg, 1) := by decide +kernel
theorem dX6_addProduct_52 : decode cX6_addProduct 52 = .ok (.goto 10, 3) := by decide +kernel
theorem dX6_addProduct_55 : decode cX6_addProduct 55 = .ok (.aload_n 1, 1) := by decide +kernel
theorem dX6_addProduct_56 : decode cX6_addProduct 56 = .ok (.getfield 32, 3) := by decide +kernel
theorem dX6_addProduct_59 : decode cX6_addProduct 59 = .ok (.iload 5, 2) := by decide +kernel
theorem dX6_addProduct_61 : decode cX6_addProduct 61 = .ok (.laload, 1) := by decide +kernel
theorem dX6_addProduct_62 : decode cX6_addProduct 62 = .ok (.lstore 6, 2) := by decide +kernel
theorem dX6_addProduct_64 : decode cX6_addProduct 64 = .ok (.iconst 0, 1) := by decide +kernel
theorem dX6_addProduct_65 : decode cX6_addProduct 65 = .ok (.istore 8, 2) := by decide +kernel
theorem dX6_addProduct_67 : decode cX6_addProduct 67 = .ok (.iload 8, 2) := by decide +kernel
theorem dX6_addProduct_69 : decode cX6_addProduct 69 = .ok (.aload_n 2, 1) := by decide +kernel
theorem dX6_addProduct_70 : decode cX6_addProduct 70 = .ok (.getfield 29, 3) := by decide +kernel
theorem dX6_addProduct_73 : decode cX6_addProduct 73 = .ok (.if_icmp .ge 42, 3) := by decide +kernel
theorem dX6_addProduct_76 : decode cX6_addProduct 76 = .ok (.iload 5, 2) := by decide +kernel
theorem dX6_addProduct_78 : decode cX6_addProduct 78 = .ok (.iload 8, 2) := by decide +kernel
theorem dX6_addProduct_80 : decode cX6_addProduct 80 = .ok (.iadd, 1) := by decide +kernel
theorem dX6_addProduct_81 : decode cX6_addProduct 81 = .ok (.bipush 12, 2) := by decide +kernel
theorem dX6_addProduct_83 : decode cX6_addProduct 83 = .ok (.if_icmp .ge 32, 3) := by decide +kernel
theorem dX6_addProduct_86 : decode cX6_addProduct 86 = .ok (.aload_n 0, 1) := by decide +kernel
theorem dX6_addProduct_87 : decode cX6_addProduct 87 = .ok (.getfield 9, 3) := by decide +kernel
theorem dX6_addProduct_90 : decode cX6_addProduct 90 = .ok (.iload 5, 2) := by decide +kernel
theorem dX6_addProduct_92 : decode cX6_addProduct 92 = .ok (.iload 8, 2) := by decide +kernel
theorem dX6_addProduct_94 : decode cX6_addProduct 94 = .ok (.iadd, 1) := by decide +kernel
theorem dX6_addProduct_95 : decode cX6_addProduct 95 = .ok (.dup2, 1) := by decide +kernel
theorem dX6_addProduct_96 : decode cX6_addProduct 96 = .ok (.laload, 1) := by decide +kernel
theorem dX6_addProduct_97 : decode cX6_addProduct 97 = .ok (.lload 6, 2) := by decide +kernel
theorem dX6_addProduct_99 : decode cX6_addProduct 99 = .ok (.aload_n 2, 1) := by decide +kernel
theorem dX6_addProduct_100 : decode cX6_addProduct 100 = .ok (.getfield 32, 3) := by decide +kernel
theorem dX6_addProduct_103 : decode cX6_addProduct 103 = .ok (.iload 8, 2) := by decide +kernel
theorem dX6_addProduct_105 : decode cX6_addProduct 105 = .ok (.laload, 1) := by decide +kernel
theorem dX6_addProduct_106 : decode cX6_addProduct 106 = .ok (.lmul, 1) := by decide +kernel
theorem dX6_addProduct_107 : decode cX6_addProduct 107 = .ok (.ladd, 1) := by decide +kernel
theorem dX6_addProduct_108 : decode cX6_addProduct 108 = .ok (.lastore, 1) := by decide +kernel
theorem dX6_addProduct_109 : decode cX6_addProduct 109 = .ok (.iinc 8 1, 3) := by decide +kernel
theorem dX6_addProduct_112 : decode cX6_addProduct 112 = .ok (.goto (-45), 3) := by decide +kernel
theorem dX6_addProduct_115 : decode cX6_addProduct 115 = .ok (.iinc 5 1, 3) := by decide +kernel
theorem dX6_addProduct_118 : decode cX6_addProduct 118 = .ok (.goto (-88), 3) := by decide +kernel
theorem dX6_addProduct_121 : decode cX6_addProduct 121 = .ok (.aload_n 0, 1) := by decide +kernel
theorem dX6_addProduct_122 : decode cX6_addProduct 122 = .ok (.aload_n 0, 1) := by decide +kernel
theorem dX6_addProduct_123 : decode cX6_addProduct 123 = .ok (.getfield 15, 3) := by decide +kernel
theorem dX6_addProduct_126 : decode cX6_addProduct 126 = .ok (.aload_n 1, 1) := by decide +kernel
theorem dX6_addProduct_127 : decode cX6_addProduct 127 = .ok (.getfield 29, 3) := by decide +kernel
theorem dX6_addProduct_130 : decode cX6_addProduct 130 = .ok (.aload_n 2, 1) := by decide +kernel
theorem dX6_addProduct_131 : decode cX6_addProduct 131 = .ok (.getfield 29, 3) := by decide +kernel
theorem dX6_addProduct_134 : decode cX6_addProduct 134 = .ok (.iadd, 1) := by decide +kernel
theorem dX6_addProduct_135 : decode cX6_addProduct 135 = .ok (.invokestatic 35, 3) := by decide +kernel
theorem dX6_addProduct_138 : decode cX6_addProduct 138 = .ok (.putfield 15, 3) := by decide +kernel
theorem dX6_addProduct_141 : decode cX6_addProduct 141 = .ok (.return_, 1) := by decide +kernel
theorem dX6_addTimes_0 : decode cX6_addTimes 0 = .ok (.aload_n 1, 1) := by decide +kernel
theorem dX6_addTimes_1 : decode cX6_addTimes 1 = .ok (.getfield 25, 3) := by decide +kernel
theorem dX6_addTimes_4 : decode cX6_addTimes 4 = .ok (.ifCond .eq 8, 3) := by decide +kernel
theorem dX6_addTimes_7 : decode cX6_addTimes 7 = .ok (.lload_n 2, 1) := by decide +kernel
theorem dX6_addTimes_8 : decode cX6_addTimes 8 = .ok (.lneg, 1) := by decide +kernel
theorem dX6_addTimes_9 : decode cX6_addTimes 9 = .ok (.goto 4, 3) := by decide +kernel
theorem dX6_addTimes_12 : decode cX6_addTimes 12 = .ok (.lload_n 2, 1) := by decide +kernel
theorem dX6_addTimes_13 : decode cX6_addTimes 13 = .ok (.lstore 4, 2) := by decide +kernel
theorem dX6_addTimes_15 : decode cX6_addTimes 15 = .ok (.iconst 0, 1) := by decide +kernel
theorem dX6_addTimes_16 : decode cX6_addTimes 16 = .ok (.istore 6, 2) := by decide +kernel
theorem dX6_addTimes_18 : decode cX6_addTimes 18 = .ok (.iload 6, 2) := by decide +kernel
theorem dX6_addTimes_20 : decode cX6_addTimes 20 = .ok (.aload_n 1, 1) := by decide +kernel
theorem dX6_addTimes_21 : decode cX6_addTimes 21 = .ok (.getfield 29, 3) := by decide +kernel
theorem dX6_addTimes_24 : decode cX6_addTimes 24 = .ok (.if_icmp .ge 29, 3) := by decide +kernel
theorem dX6_addTimes_27 : decode cX6_addTimes 27 = .ok (.aload_n 0, 1) := by decide +kernel
theorem dX6_addTimes_28 : decode cX6_addTimes 28 = .ok (.getfield 9, 3) := by decide +kernel
theorem dX6_addTimes_31 : decode cX6_addTimes 31 = .ok (.iload 6, 2) := by decide +kernel
theorem dX6_addTimes_33 : decode cX6_addTimes 33 = .ok (.dup2, 1) := by decide +kernel
theorem dX6_addTimes_34 : decode cX6_addTimes 34 = .ok (.laload, 1) := by decide +kernel
theorem dX6_addTimes_35 : decode cX6_addTimes 35 = .ok (.aload_n 1, 1) := by decide +kernel
theorem dX6_addTimes_36 : decode cX6_addTimes 36 = .ok (.getfield 32, 3) := by decide +kernel
theorem dX6_addTimes_39 : decode cX6_addTimes 39 = .ok (.iload 6, 2) := by decide +kernel
theorem dX6_addTimes_41 : decode cX6_addTimes 41 = .ok (.laload, 1) := by decide +kernel
theorem dX6_addTimes_42 : decode cX6_addTimes 42 = .ok (.lload 4, 2) := by decide +kernel
theorem dX6_addTimes_44 : decode cX6_addTimes 44 = .ok (.lmul, 1) := by decide +kernel
theorem dX6_addTimes_45 : decode cX6_addTimes 45 = .ok (.ladd, 1) := by decide +kernel
theorem dX6_addTimes_46 : decode cX6_addTimes 46 = .ok (.lastore, 1) := by decide +kernel
theorem dX6_addTimes_47 : decode cX6_addTimes 47 = .ok (.iinc 6 1, 3) := by decide +kernel
theorem dX6_addTimes_50 : decode cX6_addTimes 50 = .ok (.goto (-32), 3) := by decide +kernel
theorem dX6_addTimes_53 : decode cX6_addTimes 53 = .ok (.aload_n 0, 1) := by decide +kernel
theorem dX6_addTimes_54 : decode cX6_addTimes 54 = .ok (.aload_n 0, 1) := by decide +kernel
theorem dX6_addTimes_55 : decode cX6_addTimes 55 = .ok (.getfield 15, 3) := by decide +kernel
theorem dX6_addTimes_58 : decode cX6_addTimes 58 = .ok (.aload_n 1, 1) := by decide +kernel
theorem dX6_addTimes_59 : decode cX6_addTimes 59 = .ok (.getfield 29, 3) := by decide +kernel
theorem dX6_addTimes_62 : decode cX6_addTimes 62 = .ok (.invokestatic 35, 3) := by decide +kernel
theorem dX6_addTimes_65 : decode cX6_addTimes 65 = .ok (.putfield 15, 3) := by decide +kernel
theorem dX6_addTimes_68 : decode cX6_addTimes 68 = .ok (.return_, 1) := by decide +kernel
theorem dX6_settle_0 : decode cX6_settle 0 = .ok (.aload_n 0, 1) := by decide +kernel
theorem dX6_settle_1 : decode cX6_settle 1 = .ok (.getfield 15, 3) := by decide +kernel
theorem dX6_settle_4 : decode cX6_settle 4 = .ok (.iconst 2, 1) := by decide +kernel
theorem dX6_settle_5 : decode cX6_settle 5 = .ok (.iadd, 1) := by decide +kernel
theorem dX6_settle_6 : decode cX6_settle 6 = .ok (.bipush 12, 2) := by decide +kernel
theorem dX6_settle_8 : decode cX6_settle 8 = .ok (.invokestatic 41, 3) := by decide +kernel
theorem dX6_settle_11 : decode cX6_settle 11 = .ok (.istore_n 2, 1) := by decide +kernel
theorem dX6_settle_12 : decode cX6_settle 12 = .ok (.lconst 0, 1) := by decide +kernel
theorem dX6_settle_13 : decode cX6_settle 13 = .ok (.lstore_n 3, 1) := by decide +kernel
theorem dX6_settle_14 : decode cX6_settle 14 = .ok (.iconst 0, 1) := by decide +kernel
theorem dX6_settle_15 : decode cX6_settle 15 = .ok (.istore 5, 2) := by decide +kernel
theorem dX6_settle_17 : decode cX6_settle 17 = .ok (.iload 5, 2) := by decide +kernel
theorem dX6_settle_19 : decode cX6_settle 19 = .ok (.iload_n 2, 1) := by decide +kernel
theorem dX6_settle_20 : decode cX6_settle 20 = .ok (.if_icmp .ge 39, 3) := by decide +kernel
theorem dX6_settle_23 : decode cX6_settle 23 = .ok (.aload_n 0, 1) := by decide +kernel
theorem dX6_settle_24 : decode cX6_settle 24 = .ok (.getfield 9, 3) := by decide +kernel
theorem dX6_settle_27 : decode cX6_settle 27 = .ok (.iload 5, 2) := by decide +kernel
theorem dX6_settle_29 : decode cX6_settle 29 = .ok (.laload, 1) := by decide +kernel
theorem dX6_settle_30 : decode cX6_settle 30 = .ok (.lload_n 3, 1) := by decide +kernel
theorem dX6_settle_31 : decode cX6_settle 31 = .ok (.ladd, 1) := by decide +kernel
theorem dX6_settle_32 : decode cX6_settle 32 = .ok (.lstore 6, 2) := by decide +kernel
theorem dX6_settle_34 : decode cX6_settle 34 = .ok (.aload_n 1, 1) := by decide +kernel
theorem dX6_settle_35 : decode cX6_settle 35 = .ok (.getfield 32, 3) := by decide +kernel
theorem dX6_settle_38 : decode cX6_settle 38 = .ok (.iload 5, 2) := by decide +kernel
theorem dX6_settle_40 : decode cX6_settle 40 = .ok (.lload 6, 2) := by decide +kernel
theorem dX6_settle_42 : decode cX6_settle 42 = .ok (.ldc2_w 44, 3) := by decide +kernel
theorem dX6_settle_45 : decode cX6_settle 45 = .ok (.land, 1) := by decide +kernel
theorem dX6_settle_46 : decode cX6_settle 46 = .ok (.lastore, 1) := by decide +kernel
theorem dX6_settle_47 : decode cX6_settle 47 = .ok (.lload 6, 2) := by decide +kernel
theorem dX6_settle_49 : decode cX6_settle 49 = .ok (.bipush 27, 2) := by decide +kernel
theorem dX6_settle_51 : decode cX6_settle 51 = .ok (.lshr, 1) := by decide +kernel
theorem dX6_settle_52 : decode cX6_settle 52 = .ok (.lstore_n 3, 1) := by decide +kernel
theorem dX6_settle_53 : decode cX6_settle 53 = .ok (.iinc 5 1, 3) := by decide +kernel
theorem dX6_settle_56 : decode cX6_settle 56 = .ok (.goto (-39), 3) := by decide +kernel
theorem dX6_settle_59 : decode cX6_settle 59 = .ok (.aload_n 1, 1) := by decide +kernel
theorem dX6_settle_60 : decode cX6_settle 60 = .ok (.lload_n 3, 1) := by decide +kernel
theorem dX6_settle_61 : decode cX6_settle 61 = .ok (.lconst 0, 1) := by decide +kernel
theorem dX6_settle_62 : decode cX6_settle 62 = .ok (.lcmp, 1) := by decide +kernel
theorem dX6_settle_63 : decode cX6_settle 63 = .ok (.ifCond .ge 7, 3) := by decide +kernel
theorem dX6_settle_66 : decode cX6_settle 66 = .ok (.iconst 1, 1) := by decide +kernel
theorem dX6_settle_67 : decode cX6_settle 67 = .ok (.goto 4, 3) := by decide +kernel
theorem dX6_settle_70 : decode cX6_settle 70 = .ok (.iconst 0, 1) := by decide +kernel
theorem dX6_settle_71 : decode cX6_settle 71 = .ok (.putfield 25, 3) := by decide +kernel
theorem dX6_settle_74 : decode cX6_settle 74 = .ok (.aload_n 1, 1) := by decide +kernel
theorem dX6_settle_75 : decode cX6_settle 75 = .ok (.getfield 25, 3) := by decide +kernel
theorem dX6_settle_78 : decode cX6_settle 78 = .ok (.ifCond .eq 8, 3) := by decide +kernel
theorem dX6_settle_81 : decode cX6_settle 81 = .ok (.aload_n 1, 1) := by decide +kernel
theorem dX6_settle_82 : decode cX6_settle 82 = .ok (.iload_n 2, 1) := by decide +kernel
theorem dX6_settle_83 : decode cX6_settle 83 = .ok (.invokestatic 46, 3) := by decide +kernel
theorem dX6_settle_86 : decode cX6_settle 86 = .ok (.aload_n 1, 1) := by decide +kernel
theorem dX6_settle_87 : decode cX6_settle 87 = .ok (.iload_n 2, 1) := by decide +kernel
theorem dX6_settle_88 : decode cX6_settle 88 = .ok (.invokevirtual 50, 3) := by decide +kernel
theorem dX6_settle_91 : decode cX6_settle 91 = .ok (.return_, 1) := by decide +kernel
theorem dX6_turnOver_0 : decode cX6_turnOver 0 = .ok (.lconst 1, 1) := by decide +kernel
theorem dX6_turnOver_1 : decode cX6_turnOver 1 = .ok (.lstore_n 2, 1) := by decide +kernel
theorem dX6_turnOver_2 : decode cX6_turnOver 2 = .ok (.iconst 0, 1) := by decide +kernel
theorem dX6_turnOver_3 : decode cX6_turnOver 3 = .ok (.istore 4, 2) := by decide +kernel
theorem dX6_turnOver_5 : decode cX6_turnOver 5 = .ok (.iload 4, 2) := by decide +kernel
theorem dX6_turnOver_7 : decode cX6_turnOver 7 = .ok (.iload_n 1, 1) := by decide +kernel
theorem dX6_turnOver_8 : decode cX6_turnOver 8 = .ok (.if_icmp .ge 43, 3) := by decide +kernel
theorem dX6_turnOver_11 : decode cX6_turnOver 11 = .ok (.ldc2_w 44, 3) := by decide +kernel
theorem dX6_turnOver_14 : decode cX6_turnOver 14 = .ok (.aload_n 0, 1) := by decide +kernel
theorem dX6_turnOver_15 : decode cX6_turnOver 15 = .ok (.getfield 32, 3) := by decide +kernel
theorem dX6_turnOver_18 : decode cX6_turnOver 18 = .ok (.iload 4, 2) := by decide +kernel
theorem dX6_turnOver_20 : decode cX6_turnOver 20 = .ok (.laload, 1) := by decide +kernel
theorem dX6_turnOver_21 : decode cX6_turnOver 21 = .ok (.lsub, 1) := by decide +kernel
theorem dX6_turnOver_22 : decode cX6_turnOver 22 = .ok (.lload_n 2, 1) := by decide +kernel
theorem dX6_turnOver_23 : decode cX6_turnOver 23 = .ok (.ladd, 1) := by decide +kernel
theorem dX6_turnOver_24 : decode cX6_turnOver 24 = .ok (.lstore 5, 2) := by decide +kernel
theorem dX6_turnOver_26 : decode cX6_turnOver 26 = .ok (.aload_n 0, 1) := by decide +kernel
theorem dX6_turnOver_27 : decode cX6_turnOver 27 = .ok (.getfield 32, 3) := by decide +kernel
theorem dX6_turnOver_30 : decode cX6_turnOver 30 = .ok (.iload 4, 2) := by decide +kernel
theorem dX6_turnOver_32 : decode cX6_turnOver 32 = .ok (.lload 5, 2) := by decide +kernel
theorem dX6_turnOver_34 : decode cX6_turnOver 34 = .ok (.ldc2_w 44, 3) := by decide +kernel
theorem dX6_turnOver_37 : decode cX6_turnOver 37 = .ok (.land, 1) := by decide +kernel
theorem dX6_turnOver_38 : decode cX6_turnOver 38 = .ok (.lastore, 1) := by decide +kernel
theorem dX6_turnOver_39 : decode cX6_turnOver 39 = .ok (.lload 5, 2) := by decide +kernel
theorem dX6_turnOver_41 : decode cX6_turnOver 41 = .ok (.bipush 27, 2) := by decide +kernel
theorem dX6_turnOver_43 : decode cX6_turnOver 43 = .ok (.lshr, 1) := by decide +kernel
theorem dX6_turnOver_44 : decode cX6_turnOver 44 = .ok (.lstore_n 2, 1) := by decide +kernel
theorem dX6_turnOver_45 : decode cX6_turnOver 45 = .ok (.iinc 4 1, 3) := by decide +kernel
theorem dX6_turnOver_48 : decode cX6_turnOver 48 = .ok (.goto (-43), 3) := by decide +kernel
theorem dX6_turnOver_51 : decode cX6_turnOver 51 = .ok (.return_, 1) := by decide +kernel
theorem dX7_init_0 : decode cX7_init 0 = .ok (.aload_n 0, 1) := by decide +kernel
theorem dX7_init_1 : decode cX7_init 1 = .ok (.invokespecial 3, 3) := by decide +kernel
theorem dX7_init_4 : decode cX7_init 4 = .ok (.aload_n 0, 1) := by decide +kernel
theorem dX7_init_5 : decode cX7_init 5 = .ok (.bipush 40, 2) := by decide +kernel
theorem dX7_init_7 : decode cX7_init 7 = .ok (.newarray .boolean, 2) := by decide +kernel
theorem dX7_init_9 : decode cX7_init 9 = .ok (.putfield 9, 3) := by decide +kernel
theorem dX7_init_12 : decode cX7_init 12 = .ok (.aload_n 0, 1) := by decide +kernel
theorem dX7_init_13 : decode cX7_init 13 = .ok (.iconst 0, 1) := by decide +kernel
theorem dX7_init_14 : decode cX7_init 14 = .ok (.putfield 15, 3) := by decide +kernel
theorem dX7_init_17 : decode cX7_init 17 = .ok (.return_, 1) := by decide +kernel
theorem dX7_has_0 : decode cX7_has 0 = .ok (.iload_n 1, 1) := by decide +kernel
theorem dX7_has_1 : decode cX7_has 1 = .ok (.invokestatic 19, 3) := by decide +kernel
theorem dX7_has_4 : decode cX7_has 4 = .ok (.ifCond .eq 16, 3) := by decide +kernel
theorem dX7_has_7 : decode cX7_has 7 = .ok (.aload_n 0, 1) := by decide +kernel
theorem dX7_has_8 : decode cX7_has 8 = .ok (.getfield 9, 3) := by decide +kernel
theorem dX7_has_11 : decode cX7_has 11 = .ok (.iload_n 1, 1) := by decide +kernel
theorem dX7_has_12 : decode cX7_has 12 = .ok (.baload, 1) := by decide +kernel
theorem dX7_has_13 : decode cX7_has 13 = .ok (.ifCond .eq 7, 3) := by decide +kernel
theorem dX7_has_16 : decode cX7_has 16 = .ok (.iconst 1, 1) := by decide +kernel
theorem dX7_has_17 : decode cX7_has 17 = .ok (.goto 4, 3) := by decide +kernel
theorem dX7_has_20 : decode cX7_has 20 = .ok (.iconst 0, 1) := by decide +kernel
theorem dX7_has_21 : decode cX7_has 21 = .ok (.ireturn, 1) := by decide +kernel
theorem dX7_add_0 : decode cX7_add 0 = .ok (.iload_n 1, 1) := by decide +kernel
theorem dX7_add_1 : decode cX7_add 1 = .ok (.invokestatic 19, 3) := by decide +kernel
theorem dX7_add_4 : decode cX7_add 4 = .ok (.ifCond .eq 12, 3) := by decide +kernel
theorem dX7_add_7 : decode cX7_add 7 = .ok (.aload_n 0, 1) := by decide +kernel
theorem dX7_add_8 : decode cX7_add 8 = .ok (.getfield 9, 3) := by decide +kernel
theorem dX7_add_11 : decode cX7_add 11 = .ok (.iload_n 1, 1) := by decide +kernel
theorem dX7_add_12 : decode cX7_add 12 = .ok (.baload, 1) := by decide +kernel
theorem dX7_add_13 : decode cX7_add 13 = .ok (.ifCond .eq 5, 3) := by decide +kernel
theorem dX7_add_16 : decode cX7_add 16 = .ok (.iconst 0, 1) := by decide +kernel
theorem dX7_add_17 : decode cX7_add 17 = .ok (.ireturn, 1) := by decide +kernel
theorem dX7_add_18 : decode cX7_add 18 = .ok (.aload_n 0, 1) := by decide +kernel
theorem dX7_add_19 : decode cX7_add 19 = .ok (.getfield 9, 3) := by decide +kernel
theorem dX7_add_22 : decode cX7_add 22 = .ok (.iload_n 1, 1) := by decide +kernel
theorem dX7_add_23 : decode cX7_add 23 = .ok (.iconst 1, 1) := by decide +kernel
theorem dX7_add_24 : decode cX7_add 24 = .ok (.bastore, 1) := by decide +kernel
theorem dX7_add_25 : decode cX7_add 25 = .ok (.aload_n 0, 1) := by decide +kernel
