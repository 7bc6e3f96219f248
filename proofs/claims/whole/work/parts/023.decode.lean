theorem dX9_feastBy_27 : decode cX9_feastBy 27 = .ok (.aload_n 0, 1) := by decide +kernel
theorem dX9_feastBy_28 : decode cX9_feastBy 28 = .ok (.iconst 5, 1) := by decide +kernel
theorem dX9_feastBy_29 : decode cX9_feastBy 29 = .ok (.invokevirtual 191, 3) := by decide +kernel
theorem dX9_feastBy_32 : decode cX9_feastBy 32 = .ok (.ireturn, 1) := by decide +kernel
theorem dX9_feastBy_33 : decode cX9_feastBy 33 = .ok (.aload_n 0, 1) := by decide +kernel
theorem dX9_feastBy_34 : decode cX9_feastBy 34 = .ok (.iload_n 1, 1) := by decide +kernel
theorem dX9_feastBy_35 : decode cX9_feastBy 35 = .ok (.invokevirtual 239, 3) := by decide +kernel
theorem dX9_feastBy_38 : decode cX9_feastBy 38 = .ok (.ifCond .ne 10, 3) := by decide +kernel
theorem dX9_feastBy_41 : decode cX9_feastBy 41 = .ok (.aload_n 0, 1) := by decide +kernel
theorem dX9_feastBy_42 : decode cX9_feastBy 42 = .ok (.bipush 6, 2) := by decide +kernel
theorem dX9_feastBy_44 : decode cX9_feastBy 44 = .ok (.invokevirtual 191, 3) := by decide +kernel
theorem dX9_feastBy_47 : decode cX9_feastBy 47 = .ok (.ireturn, 1) := by decide +kernel
theorem dX9_feastBy_48 : decode cX9_feastBy 48 = .ok (.aload_n 0, 1) := by decide +kernel
theorem dX9_feastBy_49 : decode cX9_feastBy 49 = .ok (.aload_n 0, 1) := by decide +kernel
theorem dX9_feastBy_50 : decode cX9_feastBy 50 = .ok (.aload_n 0, 1) := by decide +kernel
theorem dX9_feastBy_51 : decode cX9_feastBy 51 = .ok (.getfield 48, 3) := by decide +kernel
theorem dX9_feastBy_54 : decode cX9_feastBy 54 = .ok (.iload_n 1, 1) := by decide +kernel
theorem dX9_feastBy_55 : decode cX9_feastBy 55 = .ok (.baload, 1) := by decide +kernel
theorem dX9_feastBy_56 : decode cX9_feastBy 56 = .ok (.ifCond .eq 7, 3) := by decide +kernel
theorem dX9_feastBy_59 : decode cX9_feastBy 59 = .ok (.iconst 2, 1) := by decide +kernel
theorem dX9_feastBy_60 : decode cX9_feastBy 60 = .ok (.goto 4, 3) := by decide +kernel
theorem dX9_feastBy_63 : decode cX9_feastBy 63 = .ok (.iconst 1, 1) := by decide +kernel
theorem dX9_feastBy_64 : decode cX9_feastBy 64 = .ok (.aload_n 0, 1) := by decide +kernel
theorem dX9_feastBy_65 : decode cX9_feastBy 65 = .ok (.getfield 32, 3) := by decide +kernel
theorem dX9_feastBy_68 : decode cX9_feastBy 68 = .ok (.iload_n 1, 1) := by decide +kernel
theorem dX9_feastBy_69 : decode cX9_feastBy 69 = .ok (.iaload, 1) := by decide +kernel
theorem dX9_feastBy_70 : decode cX9_feastBy 70 = .ok (.iadd, 1) := by decide +kernel
theorem dX9_feastBy_71 : decode cX9_feastBy 71 = .ok (.iload_n 2, 1) := by decide +kernel
theorem dX9_feastBy_72 : decode cX9_feastBy 72 = .ok (.iadd, 1) := by decide +kernel
theorem dX9_feastBy_73 : decode cX9_feastBy 73 = .ok (.invokevirtual 236, 3) := by decide +kernel
theorem dX9_feastBy_76 : decode cX9_feastBy 76 = .ok (.aload_n 0, 1) := by decide +kernel
theorem dX9_feastBy_77 : decode cX9_feastBy 77 = .ok (.bipush 19, 2) := by decide +kernel
theorem dX9_feastBy_79 : decode cX9_feastBy 79 = .ok (.invokevirtual 236, 3) := by decide +kernel
theorem dX9_feastBy_82 : decode cX9_feastBy 82 = .ok (.invokevirtual 246, 3) := by decide +kernel
theorem dX9_feastBy_85 : decode cX9_feastBy 85 = .ok (.ireturn, 1) := by decide +kernel
theorem dX9_season_0 : decode cX9_season 0 = .ok (.iload_n 1, 1) := by decide +kernel
theorem dX9_season_1 : decode cX9_season 1 = .ok (.invokestatic 174, 3) := by decide +kernel
theorem dX9_season_4 : decode cX9_season 4 = .ok (.ifCond .ne 9, 3) := by decide +kernel
theorem dX9_season_7 : decode cX9_season 7 = .ok (.aload_n 0, 1) := by decide +kernel
theorem dX9_season_8 : decode cX9_season 8 = .ok (.iconst 1, 1) := by decide +kernel
theorem dX9_season_9 : decode cX9_season 9 = .ok (.invokevirtual 191, 3) := by decide +kernel
theorem dX9_season_12 : decode cX9_season 12 = .ok (.ireturn, 1) := by decide +kernel
theorem dX9_season_13 : decode cX9_season 13 = .ok (.iload_n 2, 1) := by decide +kernel
theorem dX9_season_14 : decode cX9_season 14 = .ok (.ifCond .lt 13, 3) := by decide +kernel
theorem dX9_season_17 : decode cX9_season 17 = .ok (.iload_n 2, 1) := by decide +kernel
theorem dX9_season_18 : decode cX9_season 18 = .ok (.aload_n 0, 1) := by decide +kernel
theorem dX9_season_19 : decode cX9_season 19 = .ok (.getfield 29, 3) := by decide +kernel
theorem dX9_season_22 : decode cX9_season 22 = .ok (.iload_n 1, 1) := by decide +kernel
theorem dX9_season_23 : decode cX9_season 23 = .ok (.iaload, 1) := by decide +kernel
theorem dX9_season_24 : decode cX9_season 24 = .ok (.if_icmp .lt 9, 3) := by decide +kernel
theorem dX9_season_27 : decode cX9_season 27 = .ok (.aload_n 0, 1) := by decide +kernel
theorem dX9_season_28 : decode cX9_season 28 = .ok (.iconst 5, 1) := by decide +kernel
theorem dX9_season_29 : decode cX9_season 29 = .ok (.invokevirtual 191, 3) := by decide +kernel
theorem dX9_season_32 : decode cX9_season 32 = .ok (.ireturn, 1) := by decide +kernel
theorem dX9_season_33 : decode cX9_season 33 = .ok (.aload_n 0, 1) := by decide +kernel
theorem dX9_season_34 : decode cX9_season 34 = .ok (.iload_n 1, 1) := by decide +kernel
theorem dX9_season_35 : decode cX9_season 35 = .ok (.invokevirtual 239, 3) := by decide +kernel
theorem dX9_season_38 : decode cX9_season 38 = .ok (.ifCond .ne 10, 3) := by decide +kernel
theorem dX9_season_41 : decode cX9_season 41 = .ok (.aload_n 0, 1) := by decide +kernel
theorem dX9_season_42 : decode cX9_season 42 = .ok (.bipush 6, 2) := by decide +kernel
theorem dX9_season_44 : decode cX9_season 44 = .ok (.invokevirtual 191, 3) := by decide +kernel
theorem dX9_season_47 : decode cX9_season 47 = .ok (.ireturn, 1) := by decide +kernel
theorem dX9_season_48 : decode cX9_season 48 = .ok (.aload_n 0, 1) := by decide +kernel
theorem dX9_season_49 : decode cX9_season 49 = .ok (.aload_n 0, 1) := by decide +kernel
theorem dX9_season_50 : decode cX9_season 50 = .ok (.iload_n 1, 1) := by decide +kernel
theorem dX9_season_51 : decode cX9_season 51 = .ok (.iload_n 2, 1) := by decide +kernel
theorem dX9_season_52 : decode cX9_season 52 = .ok (.iconst 1, 1) := by decide +kernel
theorem dX9_season_53 : decode cX9_season 53 = .ok (.invokevirtual 249, 3) := by decide +kernel
theorem dX9_season_56 : decode cX9_season 56 = .ok (.aload_n 0, 1) := by decide +kernel
theorem dX9_season_57 : decode cX9_season 57 = .ok (.bipush 19, 2) := by decide +kernel
theorem dX9_season_59 : decode cX9_season 59 = .ok (.invokevirtual 236, 3) := by decide +kernel
theorem dX9_season_62 : decode cX9_season 62 = .ok (.invokevirtual 246, 3) := by decide +kernel
theorem dX9_season_65 : decode cX9_season 65 = .ok (.ireturn, 1) := by decide +kernel
theorem dX9_isFar_0 : decode cX9_isFar 0 = .ok (.iload_n 0, 1) := by decide +kernel
theorem dX9_isFar_1 : decode cX9_isFar 1 = .ok (.ifCond .lt 13, 3) := by decide +kernel
theorem dX9_isFar_4 : decode cX9_isFar 4 = .ok (.iload_n 0, 1) := by decide +kernel
theorem dX9_isFar_5 : decode cX9_isFar 5 = .ok (.bipush 79, 2) := by decide +kernel
theorem dX9_isFar_7 : decode cX9_isFar 7 = .ok (.if_icmp .gt 7, 3) := by decide +kernel
theorem dX9_isFar_10 : decode cX9_isFar 10 = .ok (.iconst 1, 1) := by decide +kernel
theorem dX9_isFar_11 : decode cX9_isFar 11 = .ok (.goto 4, 3) := by decide +kernel
theorem dX9_isFar_14 : decode cX9_isFar 14 = .ok (.iconst 0, 1) := by decide +kernel
theorem dX9_isFar_15 : decode cX9_isFar 15 = .ok (.ireturn, 1) := by decide +kernel
theorem dX9_at_0 : decode cX9_at 0 = .ok (.iload_n 1, 1) := by decide +kernel
theorem dX9_at_1 : decode cX9_at 1 = .ok (.invokestatic 174, 3) := by decide +kernel
theorem dX9_at_4 : decode cX9_at 4 = .ok (.ifCond .eq 10, 3) := by decide +kernel
theorem dX9_at_7 : decode cX9_at 7 = .ok (.iload_n 2, 1) := by decide +kernel
theorem dX9_at_8 : decode cX9_at 8 = .ok (.invokestatic 253, 3) := by decide +kernel
theorem dX9_at_11 : decode cX9_at 11 = .ok (.ifCond .ne 9, 3) := by decide +kernel
theorem dX9_at_14 : decode cX9_at 14 = .ok (.aload_n 0, 1) := by decide +kernel
theorem dX9_at_15 : decode cX9_at 15 = .ok (.iconst 1, 1) := by decide +kernel
theorem dX9_at_16 : decode cX9_at 16 = .ok (.invokevirtual 191, 3) := by decide +kernel
theorem dX9_at_19 : decode cX9_at 19 = .ok (.ireturn, 1) := by decide +kernel
theorem dX9_at_20 : decode cX9_at 20 = .ok (.iload_n 3, 1) := by decide +kernel
theorem dX9_at_21 : decode cX9_at 21 = .ok (.ifCond .lt 8, 3) := by decide +kernel
theorem dX9_at_24 : decode cX9_at 24 = .ok (.iload_n 3, 1) := by decide +kernel
theorem dX9_at_25 : decode cX9_at 25 = .ok (.iconst 3, 1) := by decide +kernel
theorem dX9_at_26 : decode cX9_at 26 = .ok (.if_icmp .le 9, 3) := by decide +kernel
theorem dX9_at_29 : decode cX9_at 29 = .ok (.aload_n 0, 1) := by decide +kernel
theorem dX9_at_30 : decode cX9_at 30 = .ok (.iconst 2, 1) := by decide +kernel
theorem dX9_at_31 : decode cX9_at 31 = .ok (.invokevirtual 191, 3) := by decide +kernel
theorem dX9_at_34 : decode cX9_at 34 = .ok (.ireturn, 1) := by decide +kernel
theorem dX9_at_35 : decode cX9_at 35 = .ok (.aload_n 0, 1) := by decide +kernel
theorem dX9_at_36 : decode cX9_at 36 = .ok (.iload_n 1, 1) := by decide +kernel
theorem dX9_at_37 : decode cX9_at 37 = .ok (.invokevirtual 239, 3) := by decide +kernel
theorem dX9_at_40 : decode cX9_at 40 = .ok (.ifCond .ne 10, 3) := by decide +kernel
theorem dX9_at_43 : decode cX9_at 43 = .ok (.aload_n 0, 1) := by decide +kernel
theorem dX9_at_44 : decode cX9_at 44 = .ok (.bipush 6, 2) := by decide +kernel
theorem dX9_at_46 : decode cX9_at 46 = .ok (.invokevirtual 191, 3) := by decide +kernel
theorem dX9_at_49 : decode cX9_at 49 = .ok (.ireturn, 1) := by decide +kernel
theorem dX9_at_50 : decode cX9_at 50 = .ok (.aload_n 0, 1) := by decide +kernel
theorem dX9_at_51 : decode cX9_at 51 = .ok (.aload_n 0, 1) := by decide +kernel
theorem dX9_at_52 : decode cX9_at 52 = .ok (.iload_n 1, 1) := by decide +kernel
theorem dX9_at_53 : decode cX9_at 53 = .ok (.iload_n 2, 1) := by decide +kernel
theorem dX9_at_54 : decode cX9_at 54 = .ok (.iload_n 3, 1) := by decide +kernel
theorem dX9_at_55 : decode cX9_at 55 = .ok (.invokevirtual 249, 3) := by decide +kernel
theorem dX9_at_58 : decode cX9_at 58 = .ok (.aload_n 0, 1) := by decide +kernel
theorem dX9_at_59 : decode cX9_at 59 = .ok (.bipush 19, 2) := by decide +kernel
theorem dX9_at_61 : decode cX9_at 61 = .ok (.invokevirtual 236, 3) := by decide +kernel
theorem dX9_at_64 : decode cX9_at 64 = .ok (.invokevirtual 246, 3) := by decide +kernel
theorem dX9_at_67 : decode cX9_at 67 = .ok (.ireturn, 1) := by decide +kernel
theorem dX9_restOf_0 : decode cX9_restOf 0 = .ok (.aload_n 0, 1) := by decide +kernel
theorem dX9_restOf_1 : decode cX9_restOf 1 = .ok (.aload_n 0, 1) := by decide +kernel
theorem dX9_restOf_2 : decode cX9_restOf 2 = .ok (.aload_n 0, 1) := by decide +kernel
theorem dX9_restOf_3 : decode cX9_restOf 3 = .ok (.aload_n 0, 1) := by decide +kernel
theorem dX9_restOf_4 : decode cX9_restOf 4 = .ok (.getfield 26, 3) := by decide +kernel
theorem dX9_restOf_7 : decode cX9_restOf 7 = .ok (.iload_n 1, 1) := by decide +kernel
theorem dX9_restOf_8 : decode cX9_restOf 8 = .ok (.iload_n 2, 1) := by decide +kernel
theorem dX9_restOf_9 : decode cX9_restOf 9 = .ok (.invokestatic 188, 3) := by decide +kernel
theorem dX9_restOf_12 : decode cX9_restOf 12 = .ok (.iaload, 1) := by decide +kernel
theorem dX9_restOf_13 : decode cX9_restOf 13 = .ok (.i2l, 1) := by decide +kernel
theorem dX9_restOf_14 : decode cX9_restOf 14 = .ok (.invokevirtual 118, 3) := by decide +kernel
theorem dX9_restOf_17 : decode cX9_restOf 17 = .ok (.aload_n 0, 1) := by decide +kernel
theorem dX9_restOf_18 : decode cX9_restOf 18 = .ok (.bipush 19, 2) := by decide +kernel
theorem dX9_restOf_20 : decode cX9_restOf 20 = .ok (.invokevirtual 236, 3) := by decide +kernel
theorem dX9_restOf_23 : decode cX9_restOf 23 = .ok (.invokevirtual 220, 3) := by decide +kernel
theorem dX9_restOf_26 : decode cX9_restOf 26 = .ok (.aload_n 0, 1) := by decide +kernel
theorem dX9_restOf_27 : decode cX9_restOf 27 = .ok (.iload_n 1, 1) := by decide +kernel
theorem dX9_restOf_28 : decode cX9_restOf 28 = .ok (.iload_n 2, 1) := by decide +kernel
theorem dX9_restOf_29 : decode cX9_restOf 29 = .ok (.iconst 3, 1) := by decide +kernel
theorem dX9_restOf_30 : decode cX9_restOf 30 = .ok (.invokevirtual 249, 3) := by decide +kernel
theorem dX9_restOf_33 : decode cX9_restOf 33 = .ok (.invokevirtual 223, 3) := by decide +kernel
theorem dX9_restOf_36 : decode cX9_restOf 36 = .ok (.ireturn, 1) := by decide +kernel
theorem dX9_rest_0 : decode cX9_rest 0 = .ok (.iload_n 1, 1) := by decide +kernel
theorem dX9_rest_1 : decode cX9_rest 1 = .ok (.invokestatic 174, 3) := by decide +kernel
theorem dX9_rest_4 : decode cX9_rest 4 = .ok (.ifCond .eq 10, 3) := by decide +kernel
theorem dX9_rest_7 : decode cX9_rest 7 = .ok (.iload_n 2, 1) := by decide +kernel
theorem dX9_rest_8 : decode cX9_rest 8 = .ok (.invokestatic 178, 3) := by decide +kernel
theorem dX9_rest_11 : decode cX9_rest 11 = .ok (.ifCond .ne 9, 3) := by decide +kernel
theorem dX9_rest_14 : decode cX9_rest 14 = .ok (.aload_n 0, 1) := by decide +kernel
theorem dX9_rest_15 : decode cX9_rest 15 = .ok (.iconst 1, 1) := by decide +kernel
theorem dX9_rest_16 : decode cX9_rest 16 = .ok (.invokevirtual 191, 3) := by decide +kernel
theorem dX9_rest_19 : decode cX9_rest 19 = .ok (.ireturn, 1) := by decide +kernel
theorem dX9_rest_20 : decode cX9_rest 20 = .ok (.aload_n 0, 1) := by decide +kernel
theorem dX9_rest_21 : decode cX9_rest 21 = .ok (.getfield 41, 3) := by decide +kernel
theorem dX9_rest_24 : decode cX9_rest 24 = .ok (.iload_n 1, 1) := by decide +kernel
theorem dX9_rest_25 : decode cX9_rest 25 = .ok (.iload_n 2, 1) := by decide +kernel
theorem dX9_rest_26 : decode cX9_rest 26 = .ok (.invokestatic 188, 3) := by decide +kernel
theorem dX9_rest_29 : decode cX9_rest 29 = .ok (.baload, 1) := by decide +kernel
theorem dX9_rest_30 : decode cX9_rest 30 = .ok (.ifCond .ne 10, 3) := by decide +kernel
theorem dX9_rest_33 : decode cX9_rest 33 = .ok (.aload_n 0, 1) := by decide +kernel
theorem dX9_rest_34 : decode cX9_rest 34 = .ok (.bipush 7, 2) := by decide +kernel
theorem dX9_rest_36 : decode cX9_rest 36 = .ok (.invokevirtual 191, 3) := by decide +kernel
theorem dX9_rest_39 : decode cX9_rest 39 = .ok (.ireturn, 1) := by decide +kernel
theorem dX9_rest_40 : decode cX9_rest 40 = .ok (.aload_n 0, 1) := by decide +kernel
theorem dX9_rest_41 : decode cX9_rest 41 = .ok (.iload_n 1, 1) := by decide +kernel
theorem dX9_rest_42 : decode cX9_rest 42 = .ok (.invokevirtual 239, 3) := by decide +kernel
theorem dX9_rest_45 : decode cX9_rest 45 = .ok (.ifCond .ne 10, 3) := by decide +kernel
theorem dX9_rest_48 : decode cX9_rest 48 = .ok (.aload_n 0, 1) := by decide +kernel
theorem dX9_rest_49 : decode cX9_rest 49 = .ok (.bipush 6, 2) := by decide +kernel
theorem dX9_rest_51 : decode cX9_rest 51 = .ok (.invokevirtual 191, 3) := by decide +kernel
theorem dX9_rest_54 : decode cX9_rest 54 = .ok (.ireturn, 1) := by decide +kernel
theorem dX9_rest_55 : decode cX9_rest 55 = .ok (.aload_n 0, 1) := by decide +kernel
theorem dX9_rest_56 : decode cX9_rest 56 = .ok (.aload_n 0, 1) := by decide +kernel
theorem dX9_rest_57 : decode cX9_rest 57 = .ok (.iload_n 1, 1) := by decide +kernel
theorem dX9_rest_58 : decode cX9_rest 58 = .ok (.iload_n 2, 1) := by decide +kernel
theorem dX9_rest_59 : decode cX9_rest 59 = .ok (.invokevirtual 256, 3) := by decide +kernel
theorem dX9_rest_62 : decode cX9_rest 62 = .ok (.aload_n 0, 1) := by decide +kernel
theorem dX9_rest_63 : decode cX9_rest 63 = .ok (.bipush 19, 2) := by decide +kernel
theorem dX9_rest_65 : decode cX9_rest 65 = .ok (.invokevirtual 236, 3) := by decide +kernel
theorem dX9_rest_68 : decode cX9_rest 68 = .ok (.invokevirtual 246, 3) := by decide +kernel
theorem dX9_rest_71 : decode cX9_rest 71 = .ok (.ireturn, 1) := by decide +kernel
theorem dX9_where_0 : decode cX9_where 0 = .ok (.iload_n 1, 1) := by decide +kernel
theorem dX9_where_1 : decode cX9_where 1 = .ok (.invokestatic 174, 3) := by decide +kernel
theorem dX9_where_4 : decode cX9_where 4 = .ok (.ifCond .ne 9, 3) := by decide +kernel
theorem dX9_where_7 : decode cX9_where 7 = .ok (.aload_n 0, 1) := by decide +kernel
theorem dX9_where_8 : decode cX9_where 8 = .ok (.iconst 1, 1) := by decide +kernel
theorem dX9_where_9 : decode cX9_where 9 = .ok (.invokevirtual 191, 3) := by decide +kernel
theorem dX9_where_12 : decode cX9_where 12 = .ok (.ireturn, 1) := by decide +kernel
theorem dX9_where_13 : decode cX9_where 13 = .ok (.aload_n 0, 1) := by decide +kernel
theorem dX9_where_14 : decode cX9_where 14 = .ok (.getfield 32, 3) := by decide +kernel
theorem dX9_where_17 : decode cX9_where 17 = .ok (.iload_n 1, 1) := by decide +kernel
theorem dX9_where_18 : decode cX9_where 18 = .ok (.iaload, 1) := by decide +kernel
theorem dX9_where_19 : decode cX9_where 19 = .ok (.iconst 3, 1) := by decide +kernel
theorem dX9_where_20 : decode cX9_where 20 = .ok (.if_icmp .ne 10, 3) := by decide +kernel
theorem dX9_where_23 : decode cX9_where 23 = .ok (.aload_n 0, 1) := by decide +kernel
theorem dX9_where_24 : decode cX9_where 24 = .ok (.bipush 8, 2) := by decide +kernel
theorem dX9_where_26 : decode cX9_where 26 = .ok (.invokevirtual 191, 3) := by decide +kernel
theorem dX9_where_29 : decode cX9_where 29 = .ok (.ireturn, 1) := by decide +kernel
theorem dX9_where_30 : decode cX9_where 30 = .ok (.iconst (-1), 1) := by decide +kernel
theorem dX9_where_31 : decode cX9_where 31 = .ok (.istore_n 2, 1) := by decide +kernel
theorem dX9_where_32 : decode cX9_where 32 = .ok (.iconst 1, 1) := by decide +kernel
theorem dX9_where_33 : decode cX9_where 33 = .ok (.istore_n 3, 1) := by decide +kernel
theorem dX9_where_34 : decode cX9_where 34 = .ok (.iload_n 3, 1) := by decide +kernel
theorem dX9_where_35 : decode cX9_where 35 = .ok (.bipush 40, 2) := by decide +kernel
theorem dX9_where_37 : decode cX9_where 37 = .ok (.if_icmp .ge 119, 3) := by decide +kernel
theorem dX9_where_40 : decode cX9_where 40 = .ok (.aload_n 0, 1) := by decide +kernel
theorem dX9_where_41 : decode cX9_where 41 = .ok (.iload_n 1, 1) := by decide +kernel
theorem dX9_where_42 : decode cX9_where 42 = .ok (.iload_n 3, 1) := by decide +kernel
theorem dX9_where_43 : decode cX9_where 43 = .ok (.invokevirtual 198, 3) := by decide +kernel
theorem dX9_where_46 : decode cX9_where 46 = .ok (.iconst (-1), 1) := by decide +kernel
theorem dX9_where_47 : decode cX9_where 47 = .ok (.if_icmp .eq 6, 3) := by decide +kernel
theorem dX9_where_50 : decode cX9_where 50 = .ok (.goto 100, 3) := by decide +kernel
theorem dX9_where_53 : decode cX9_where 53 = .ok (.aload_n 0, 1) := by decide +kernel
theorem dX9_where_54 : decode cX9_where 54 = .ok (.iload_n 1, 1) := by decide +kernel
theorem dX9_where_55 : decode cX9_where 55 = .ok (.iload_n 3, 1) := by decide +kernel
theorem dX9_where_56 : decode cX9_where 56 = .ok (.invokevirtual 201, 3) := by decide +kernel
theorem dX9_where_59 : decode cX9_where 59 = .ok (.aload_n 0, 1) := by decide +kernel
theorem dX9_where_60 : decode cX9_where 60 = .ok (.iload_n 1, 1) := by decide +kernel
theorem dX9_where_61 : decode cX9_where 61 = .ok (.invokevirtual 239, 3) := by decide +kernel
theorem dX9_where_64 : decode cX9_where 64 = .ok (.ifCond .eq 75, 3) := by decide +kernel
theorem dX9_where_67 : decode cX9_where 67 = .ok (.aload_n 0, 1) := by decide +kernel
theorem dX9_where_68 : decode cX9_where 68 = .ok (.invokevirtual 242, 3) := by decide +kernel
theorem dX9_where_71 : decode cX9_where 71 = .ok (.istore 4, 2) := by decide +kernel
theorem dX9_where_73 : decode cX9_where 73 = .ok (.aload_n 0, 1) := by decide +kernel
theorem dX9_where_74 : decode cX9_where 74 = .ok (.bipush 19, 2) := by decide +kernel
theorem dX9_where_76 : decode cX9_where 76 = .ok (.invokevirtual 236, 3) := by decide +kernel
theorem dX9_where_79 : decode cX9_where 79 = .ok (.istore 5, 2) := by decide +kernel
theorem dX9_where_81 : decode cX9_where 81 = .ok (.iload_n 2, 1) := by decide +kernel
theorem dX9_where_82 : decode cX9_where 82 = .ok (.iconst (-1), 1) := by decide +kernel
theorem dX9_where_83 : decode cX9_where 83 = .ok (.if_icmp .eq 38, 3) := by decide +kernel
theorem dX9_where_86 : decode cX9_where 86 = .ok (.aload_n 0, 1) := by decide +kernel
theorem dX9_where_87 : decode cX9_where 87 = .ok (.aload_n 0, 1) := by decide +kernel
theorem dX9_where_88 : decode cX9_where 88 = .ok (.aload_n 0, 1) := by decide +kernel
theorem dX9_where_89 : decode cX9_where 89 = .ok (.iload 4, 2) := by decide +kernel
theorem dX9_where_91 : decode cX9_where 91 = .ok (.aload_n 0, 1) := by decide +kernel
theorem dX9_where_92 : decode cX9_where 92 = .ok (.bipush 21, 2) := by decide +kernel
theorem dX9_where_94 : decode cX9_where 94 = .ok (.invokevirtual 236, 3) := by decide +kernel
theorem dX9_where_97 : decode cX9_where 97 = .ok (.invokevirtual 220, 3) := by decide +kernel
theorem dX9_where_100 : decode cX9_where 100 = .ok (.aload_n 0, 1) := by decide +kernel
theorem dX9_where_101 : decode cX9_where 101 = .ok (.aload_n 0, 1) := by decide +kernel
theorem dX9_where_102 : decode cX9_where 102 = .ok (.bipush 20, 2) := by decide +kernel
theorem dX9_where_104 : decode cX9_where 104 = .ok (.invokevirtual 236, 3) := by decide +kernel
theorem dX9_where_107 : decode cX9_where 107 = .ok (.iload 5, 2) := by decide +kernel
theorem dX9_where_109 : decode cX9_where 109 = .ok (.invokevirtual 220, 3) := by decide +kernel
theorem dX9_where_112 : decode cX9_where 112 = .ok (.invokevirtual 223, 3) := by decide +kernel
theorem dX9_where_115 : decode cX9_where 115 = .ok (.invokevirtual 105, 3) := by decide +kernel
theorem dX9_where_118 : decode cX9_where 118 = .ok (.ifCond .ge 21, 3) := by decide +kernel
theorem dX9_where_121 : decode cX9_where 121 = .ok (.iload_n 3, 1) := by decide +kernel
theorem dX9_where_122 : decode cX9_where 122 = .ok (.istore_n 2, 1) := by decide +kernel
theorem dX9_where_123 : decode cX9_where 123 = .ok (.aload_n 0, 1) := by decide +kernel
theorem dX9_where_124 : decode cX9_where 124 = .ok (.bipush 20, 2) := by decide +kernel
theorem dX9_where_126 : decode cX9_where 126 = .ok (.iload 4, 2) := by decide +kernel
theorem dX9_where_128 : decode cX9_where 128 = .ok (.invokevirtual 226, 3) := by decide +kernel
theorem dX9_where_131 : decode cX9_where 131 = .ok (.aload_n 0, 1) := by decide +kernel
theorem dX9_where_132 : decode cX9_where 132 = .ok (.bipush 21, 2) := by decide +kernel
theorem dX9_where_134 : decode cX9_where 134 = .ok (.iload 5, 2) := by decide +kernel
theorem dX9_where_136 : decode cX9_where 136 = .ok (.invokevirtual 226, 3) := by decide +kernel
theorem dX9_where_139 : decode cX9_where 139 = .ok (.aload_n 0, 1) := by decide +kernel
theorem dX9_where_140 : decode cX9_where 140 = .ok (.iload_n 1, 1) := by decide +kernel
theorem dX9_where_141 : decode cX9_where 141 = .ok (.aload_n 0, 1) := by decide +kernel
theorem dX9_where_142 : decode cX9_where 142 = .ok (.iload_n 1, 1) := by decide +kernel
theorem dX9_where_143 : decode cX9_where 143 = .ok (.iload_n 3, 1) := by decide +kernel
theorem dX9_where_144 : decode cX9_where 144 = .ok (.invokevirtual 198, 3) := by decide +kernel
theorem dX9_where_147 : decode cX9_where 147 = .ok (.invokevirtual 204, 3) := by decide +kernel
theorem dX9_where_150 : decode cX9_where 150 = .ok (.iinc 3 1, 3) := by decide +kernel
theorem dX9_where_153 : decode cX9_where 153 = .ok (.goto (-119), 3) := by decide +kernel
theorem dX9_where_156 : decode cX9_where 156 = .ok (.iload_n 2, 1) := by decide +kernel
theorem dX9_where_157 : decode cX9_where 157 = .ok (.iconst (-1), 1) := by decide +kernel
theorem dX9_where_158 : decode cX9_where 158 = .ok (.if_icmp .ne 10, 3) := by decide +kernel
theorem dX9_where_161 : decode cX9_where 161 = .ok (.aload_n 0, 1) := by decide +kernel
theorem dX9_where_162 : decode cX9_where 162 = .ok (.bipush 8, 2) := by decide +kernel
theorem dX9_where_164 : decode cX9_where 164 = .ok (.invokevirtual 191, 3) := by decide +kernel
theorem dX9_where_167 : decode cX9_where 167 = .ok (.ireturn, 1) := by decide +kernel
theorem dX9_where_168 : decode cX9_where 168 = .ok (.aload_n 0, 1) := by decide +kernel
theorem dX9_where_169 : decode cX9_where 169 = .ok (.iconst 0, 1) := by decide +kernel
theorem dX9_where_170 : decode cX9_where 170 = .ok (.putfield 82, 3) := by decide +kernel
theorem dX9_where_173 : decode cX9_where 173 = .ok (.iload_n 2, 1) := by decide +kernel
theorem dX9_where_174 : decode cX9_where 174 = .ok (.ireturn, 1) := by decide +kernel
theorem dX9_middle_0 : decode cX9_middle 0 = .ok (.iconst 0, 1) := by decide +kernel
theorem dX9_middle_1 : decode cX9_middle 1 = .ok (.istore_n 2, 1) := by decide +kernel
theorem dX9_middle_2 : decode cX9_middle 2 = .ok (.iconst 0, 1) := by decide +kernel
theorem dX9_middle_3 : decode cX9_middle 3 = .ok (.istore_n 3, 1) := by decide +kernel
theorem dX9_middle_4 : decode cX9_middle 4 = .ok (.iload_n 3, 1) := by decide +kernel
theorem dX9_middle_5 : decode cX9_middle 5 = .ok (.bipush 40, 2) := by decide +kernel
theorem dX9_middle_7 : decode cX9_middle 7 = .ok (.if_icmp .ge 58, 3) := by decide +kernel
theorem dX9_middle_10 : decode cX9_middle 10 = .ok (.aload_n 0, 1) := by decide +kernel
theorem dX9_middle_11 : decode cX9_middle 11 = .ok (.iload_n 1, 1) := by decide +kernel
theorem dX9_middle_12 : decode cX9_middle 12 = .ok (.iload_n 3, 1) := by decide +kernel
theorem dX9_middle_13 : decode cX9_middle 13 = .ok (.invokevirtual 194, 3) := by decide +kernel
theorem dX9_middle_16 : decode cX9_middle 16 = .ok (.ifCond .ne 6, 3) := by decide +kernel
theorem dX9_middle_19 : decode cX9_middle 19 = .ok (.goto 40, 3) := by decide +kernel
theorem dX9_middle_22 : decode cX9_middle 22 = .ok (.aload_n 0, 1) := by decide +kernel
theorem dX9_middle_23 : decode cX9_middle 23 = .ok (.iload_n 1, 1) := by decide +kernel
theorem dX9_middle_24 : decode cX9_middle 24 = .ok (.iload_n 3, 1) := by decide +kernel
theorem dX9_middle_25 : decode cX9_middle 25 = .ok (.invokevirtual 256, 3) := by decide +kernel
theorem dX9_middle_28 : decode cX9_middle 28 = .ok (.istore 4, 2) := by decide +kernel
theorem dX9_middle_30 : decode cX9_middle 30 = .ok (.aload_n 0, 1) := by decide +kernel
theorem dX9_middle_31 : decode cX9_middle 31 = .ok (.getfield 79, 3) := by decide +kernel
theorem dX9_middle_34 : decode cX9_middle 34 = .ok (.iload_n 3, 1) := by decide +kernel
theorem dX9_middle_35 : decode cX9_middle 35 = .ok (.aload_n 0, 1) := by decide +kernel
theorem dX9_middle_36 : decode cX9_middle 36 = .ok (.iload 4, 2) := by decide +kernel
theorem dX9_middle_38 : decode cX9_middle 38 = .ok (.invokevirtual 105, 3) := by decide +kernel
theorem dX9_middle_41 : decode cX9_middle 41 = .ok (.ifCond .ge 12, 3) := by decide +kernel
theorem dX9_middle_44 : decode cX9_middle 44 = .ok (.aload_n 0, 1) := by decide +kernel
theorem dX9_middle_45 : decode cX9_middle 45 = .ok (.iload 4, 2) := by decide +kernel
theorem dX9_middle_47 : decode cX9_middle 47 = .ok (.invokevirtual 122, 3) := by decide +kernel
theorem dX9_middle_50 : decode cX9_middle 50 = .ok (.goto 5, 3) := by decide +kernel
theorem dX9_middle_53 : decode cX9_middle 53 = .ok (.iload 4, 2) := by decide +kernel
theorem dX9_middle_55 : decode cX9_middle 55 = .ok (.iastore, 1) := by decide +kernel
theorem dX9_middle_56 : decode cX9_middle 56 = .ok (.iinc 2 1, 3) := by decide +kernel
theorem dX9_middle_59 : decode cX9_middle 59 = .ok (.iinc 3 1, 3) := by decide +kernel
theorem dX9_middle_62 : decode cX9_middle 62 = .ok (.goto (-58), 3) := by decide +kernel
theorem dX9_middle_65 : decode cX9_middle 65 = .ok (.iconst (-1), 1) := by decide +kernel
theorem dX9_middle_66 : decode cX9_middle 66 = .ok (.istore_n 3, 1) := by decide +kernel
theorem dX9_middle_67 : decode cX9_middle 67 = .ok (.iconst 0, 1) := by decide +kernel
theorem dX9_middle_68 : decode cX9_middle 68 = .ok (.istore 4, 2) := by decide +kernel
theorem dX9_middle_70 : decode cX9_middle 70 = .ok (.iload 4, 2) := by decide +kernel
theorem dX9_middle_72 : decode cX9_middle 72 = .ok (.bipush 40, 2) := by decide +kernel
theorem dX9_middle_74 : decode cX9_middle 74 = .ok (.if_icmp .ge 119, 3) := by decide +kernel
theorem dX9_middle_77 : decode cX9_middle 77 = .ok (.aload_n 0, 1) := by decide +kernel
theorem dX9_middle_78 : decode cX9_middle 78 = .ok (.iload_n 1, 1) := by decide +kernel
theorem dX9_middle_79 : decode cX9_middle 79 = .ok (.iload 4, 2) := by decide +kernel
theorem dX9_middle_81 : decode cX9_middle 81 = .ok (.invokevirtual 194, 3) := by decide +kernel
theorem dX9_middle_84 : decode cX9_middle 84 = .ok (.ifCond .ne 6, 3) := by decide +kernel
theorem dX9_middle_87 : decode cX9_middle 87 = .ok (.goto 100, 3) := by decide +kernel
theorem dX9_middle_90 : decode cX9_middle 90 = .ok (.iconst 0, 1) := by decide +kernel
theorem dX9_middle_91 : decode cX9_middle 91 = .ok (.istore 5, 2) := by decide +kernel
theorem dX9_middle_93 : decode cX9_middle 93 = .ok (.iconst 0, 1) := by decide +kernel
theorem dX9_middle_94 : decode cX9_middle 94 = .ok (.istore 6, 2) := by decide +kernel
theorem dX9_middle_96 : decode cX9_middle 96 = .ok (.iload 6, 2) := by decide +kernel
theorem dX9_middle_98 : decode cX9_middle 98 = .ok (.bipush 40, 2) := by decide +kernel
theorem dX9_middle_100 : decode cX9_middle 100 = .ok (.if_icmp .ge 47, 3) := by decide +kernel
theorem dX9_middle_103 : decode cX9_middle 103 = .ok (.aload_n 0, 1) := by decide +kernel
theorem dX9_middle_104 : decode cX9_middle 104 = .ok (.iload_n 1, 1) := by decide +kernel
theorem dX9_middle_105 : decode cX9_middle 105 = .ok (.iload 6, 2) := by decide +kernel
theorem dX9_middle_107 : decode cX9_middle 107 = .ok (.invokevirtual 194, 3) := by decide +kernel
theorem dX9_middle_110 : decode cX9_middle 110 = .ok (.ifCond .eq 31, 3) := by decide +kernel
theorem dX9_middle_113 : decode cX9_middle 113 = .ok (.aload_n 0, 1) := by decide +kernel
theorem dX9_middle_114 : decode cX9_middle 114 = .ok (.aload_n 0, 1) := by decide +kernel
theorem dX9_middle_115 : decode cX9_middle 115 = .ok (.aload_n 0, 1) := by decide +kernel
theorem dX9_middle_116 : decode cX9_middle 116 = .ok (.getfield 79, 3) := by decide +kernel
theorem dX9_middle_119 : decode cX9_middle 119 = .ok (.iload 6, 2) := by decide +kernel
theorem dX9_middle_121 : decode cX9_middle 121 = .ok (.iaload, 1) := by decide +kernel
theorem dX9_middle_122 : decode cX9_middle 122 = .ok (.aload_n 0, 1) := by decide +kernel
theorem dX9_middle_123 : decode cX9_middle 123 = .ok (.getfield 79, 3) := by decide +kernel
theorem dX9_middle_126 : decode cX9_middle 126 = .ok (.iload 4, 2) := by decide +kernel
theorem dX9_middle_128 : decode cX9_middle 128 = .ok (.iaload, 1) := by decide +kernel
theorem dX9_middle_129 : decode cX9_middle 129 = .ok (.invokevirtual 223, 3) := by decide +kernel
theorem dX9_middle_132 : decode cX9_middle 132 = .ok (.invokevirtual 105, 3) := by decide +kernel
theorem dX9_middle_135 : decode cX9_middle 135 = .ok (.ifCond .lt 6, 3) := by decide +kernel
theorem dX9_middle_138 : decode cX9_middle 138 = .ok (.iinc 5 1, 3) := by decide +kernel
theorem dX9_middle_141 : decode cX9_middle 141 = .ok (.iinc 6 1, 3) := by decide +kernel
theorem dX9_middle_144 : decode cX9_middle 144 = .ok (.goto (-48), 3) := by decide +kernel
theorem dX9_middle_147 : decode cX9_middle 147 = .ok (.iconst 2, 1) := by decide +kernel
theorem dX9_middle_148 : decode cX9_middle 148 = .ok (.iload 5, 2) := by decide +kernel
theorem dX9_middle_150 : decode cX9_middle 150 = .ok (.imul, 1) := by decide +kernel
theorem dX9_middle_151 : decode cX9_middle 151 = .ok (.iload_n 2, 1) := by decide +kernel
theorem dX9_middle_152 : decode cX9_middle 152 = .ok (.if_icmp .lt 35, 3) := by decide +kernel
theorem dX9_middle_155 : decode cX9_middle 155 = .ok (.iload_n 3, 1) := by decide +kernel
theorem dX9_middle_156 : decode cX9_middle 156 = .ok (.iconst (-1), 1) := by decide +kernel
theorem dX9_middle_157 : decode cX9_middle 157 = .ok (.if_icmp .eq 22, 3) := by decide +kernel
theorem dX9_middle_160 : decode cX9_middle 160 = .ok (.aload_n 0, 1) := by decide +kernel
theorem dX9_middle_161 : decode cX9_middle 161 = .ok (.aload_n 0, 1) := by decide +kernel
theorem dX9_middle_162 : decode cX9_middle 162 = .ok (.aload_n 0, 1) := by decide +kernel
theorem dX9_middle_163 : decode cX9_middle 163 = .ok (.getfield 79, 3) := by decide +kernel
theorem dX9_middle_166 : decode cX9_middle 166 = .ok (.iload 4, 2) := by decide +kernel
theorem dX9_middle_168 : decode cX9_middle 168 = .ok (.iaload, 1) := by decide +kernel
theorem dX9_middle_169 : decode cX9_middle 169 = .ok (.iload_n 3, 1) := by decide +kernel
theorem dX9_middle_170 : decode cX9_middle 170 = .ok (.invokevirtual 223, 3) := by decide +kernel
theorem dX9_middle_173 : decode cX9_middle 173 = .ok (.invokevirtual 105, 3) := by decide +kernel
theorem dX9_middle_176 : decode cX9_middle 176 = .ok (.ifCond .le 11, 3) := by decide +kernel
theorem dX9_middle_179 : decode cX9_middle 179 = .ok (.aload_n 0, 1) := by decide +kernel
theorem dX9_middle_180 : decode cX9_middle 180 = .ok (.getfield 79, 3) := by decide +kernel
theorem dX9_middle_183 : decode cX9_middle 183 = .ok (.iload 4, 2) := by decide +kernel
theorem dX9_middle_185 : decode cX9_middle 185 = .ok (.iaload, 1) := by decide +kernel
theorem dX9_middle_186 : decode cX9_middle 186 = .ok (.istore_n 3, 1) := by decide +kernel
theorem dX9_middle_187 : decode cX9_middle 187 = .ok (.iinc 4 1, 3) := by decide +kernel
theorem dX9_middle_190 : decode cX9_middle 190 = .ok (.goto (-120), 3) := by decide +kernel
theorem dX9_middle_193 : decode cX9_middle 193 = .ok (.iload_n 3, 1) := by decide +kernel
theorem dX9_middle_194 : decode cX9_middle 194 = .ok (.ireturn, 1) := by decide +kernel
theorem dX9_rounds_0 : decode cX9_rounds 0 = .ok (.iload_n 1, 1) := by decide +kernel
theorem dX9_rounds_1 : decode cX9_rounds 1 = .ok (.invokestatic 174, 3) := by decide +kernel
theorem dX9_rounds_4 : decode cX9_rounds 4 = .ok (.ifCond .ne 9, 3) := by decide +kernel
theorem dX9_rounds_7 : decode cX9_rounds 7 = .ok (.aload_n 0, 1) := by decide +kernel
theorem dX9_rounds_8 : decode cX9_rounds 8 = .ok (.iconst 1, 1) := by decide +kernel
theorem dX9_rounds_9 : decode cX9_rounds 9 = .ok (.invokevirtual 191, 3) := by decide +kernel
theorem dX9_rounds_12 : decode cX9_rounds 12 = .ok (.ireturn, 1) := by decide +kernel
theorem dX9_rounds_13 : decode cX9_rounds 13 = .ok (.iload_n 2, 1) := by decide +kernel
theorem dX9_rounds_14 : decode cX9_rounds 14 = .ok (.iconst 1, 1) := by decide +kernel
theorem dX9_rounds_15 : decode cX9_rounds 15 = .ok (.if_icmp .lt 22, 3) := by decide +kernel
theorem dX9_rounds_18 : decode cX9_rounds 18 = .ok (.iload_n 2, 1) := by decide +kernel
theorem dX9_rounds_19 : decode cX9_rounds 19 = .ok (.sipush 1000, 3) := by decide +kernel
theorem dX9_rounds_22 : decode cX9_rounds 22 = .ok (.if_icmp .gt 15, 3) := by decide +kernel
theorem dX9_rounds_25 : decode cX9_rounds 25 = .ok (.iload_n 3, 1) := by decide +kernel
theorem dX9_rounds_26 : decode cX9_rounds 26 = .ok (.iconst 1, 1) := by decide +kernel
theorem dX9_rounds_27 : decode cX9_rounds 27 = .ok (.if_icmp .lt 10, 3) := by decide +kernel
theorem dX9_rounds_30 : decode cX9_rounds 30 = .ok (.iload_n 3, 1) := by decide +kernel
theorem dX9_rounds_31 : decode cX9_rounds 31 = .ok (.sipush 1000, 3) := by decide +kernel
theorem dX9_rounds_34 : decode cX9_rounds 34 = .ok (.if_icmp .le 9, 3) := by decide +kernel
theorem dX9_rounds_37 : decode cX9_rounds 37 = .ok (.aload_n 0, 1) := by decide +kernel
theorem dX9_rounds_38 : decode cX9_rounds 38 = .ok (.iconst 2, 1) := by decide +kernel
theorem dX9_rounds_39 : decode cX9_rounds 39 = .ok (.invokevirtual 191, 3) := by decide +kernel
theorem dX9_rounds_42 : decode cX9_rounds 42 = .ok (.ireturn, 1) := by decide +kernel
theorem dX9_rounds_43 : decode cX9_rounds 43 = .ok (.iconst 0, 1) := by decide +kernel
theorem dX9_rounds_44 : decode cX9_rounds 44 = .ok (.istore 4, 2) := by decide +kernel
theorem dX9_rounds_46 : decode cX9_rounds 46 = .ok (.iconst 0, 1) := by decide +kernel
theorem dX9_rounds_47 : decode cX9_rounds 47 = .ok (.istore 5, 2) := by decide +kernel
theorem dX9_rounds_49 : decode cX9_rounds 49 = .ok (.iload 5, 2) := by decide +kernel
theorem dX9_rounds_51 : decode cX9_rounds 51 = .ok (.bipush 40, 2) := by decide +kernel
theorem dX9_rounds_53 : decode cX9_rounds 53 = .ok (.if_icmp .ge 35, 3) := by decide +kernel
theorem dX9_rounds_56 : decode cX9_rounds 56 = .ok (.iload 4, 2) := by decide +kernel
theorem dX9_rounds_58 : decode cX9_rounds 58 = .ok (.ifCond .ne 17, 3) := by decide +kernel
theorem dX9_rounds_61 : decode cX9_rounds 61 = .ok (.aload_n 0, 1) := by decide +kernel
theorem dX9_rounds_62 : decode cX9_rounds 62 = .ok (.getfield 41, 3) := by decide +kernel
theorem dX9_rounds_65 : decode cX9_rounds 65 = .ok (.iload_n 1, 1) := by decide +kernel
theorem dX9_rounds_66 : decode cX9_rounds 66 = .ok (.iload 5, 2) := by decide +kernel
theorem dX9_rounds_68 : decode cX9_rounds 68 = .ok (.invokestatic 188, 3) := by decide +kernel
theorem dX9_rounds_71 : decode cX9_rounds 71 = .ok (.baload, 1) := by decide +kernel
theorem dX9_rounds_72 : decode cX9_rounds 72 = .ok (.ifCond .eq 7, 3) := by decide +kernel
theorem dX9_rounds_75 : decode cX9_rounds 75 = .ok (.iconst 1, 1) := by decide +kernel
theorem dX9_rounds_76 : decode cX9_rounds 76 = .ok (.goto 4, 3) := by decide +kernel
theorem dX9_rounds_79 : decode cX9_rounds 79 = .ok (.iconst 0, 1) := by decide +kernel
theorem dX9_rounds_80 : decode cX9_rounds 80 = .ok (.istore 4, 2) := by decide +kernel
theorem dX9_rounds_82 : decode cX9_rounds 82 = .ok (.iinc 5 1, 3) := by decide +kernel
theorem dX9_rounds_85 : decode cX9_rounds 85 = .ok (.goto (-36), 3) := by decide +kernel
theorem dX9_rounds_88 : decode cX9_rounds 88 = .ok (.iload 4, 2) := by decide +kernel
theorem dX9_rounds_90 : decode cX9_rounds 90 = .ok (.ifCond .ne 10, 3) := by decide +kernel
theorem dX9_rounds_93 : decode cX9_rounds 93 = .ok (.aload_n 0, 1) := by decide +kernel
theorem dX9_rounds_94 : decode cX9_rounds 94 = .ok (.bipush 8, 2) := by decide +kernel
theorem dX9_rounds_96 : decode cX9_rounds 96 = .ok (.invokevirtual 191, 3) := by decide +kernel
theorem dX9_rounds_99 : decode cX9_rounds 99 = .ok (.ireturn, 1) := by decide +kernel
theorem dX9_rounds_100 : decode cX9_rounds 100 = .ok (.iconst 0, 1) := by decide +kernel
theorem dX9_rounds_101 : decode cX9_rounds 101 = .ok (.istore 5, 2) := by decide +kernel
theorem dX9_rounds_103 : decode cX9_rounds 103 = .ok (.iload 5, 2) := by decide +kernel
theorem dX9_rounds_105 : decode cX9_rounds 105 = .ok (.bipush 40, 2) := by decide +kernel
theorem dX9_rounds_107 : decode cX9_rounds 107 = .ok (.if_icmp .ge 39, 3) := by decide +kernel
theorem dX9_rounds_110 : decode cX9_rounds 110 = .ok (.aload_n 0, 1) := by decide +kernel
theorem dX9_rounds_111 : decode cX9_rounds 111 = .ok (.getfield 73, 3) := by decide +kernel
theorem dX9_rounds_114 : decode cX9_rounds 114 = .ok (.iload 5, 2) := by decide +kernel
theorem dX9_rounds_116 : decode cX9_rounds 116 = .ok (.aload_n 0, 1) := by decide +kernel
theorem dX9_rounds_117 : decode cX9_rounds 117 = .ok (.getfield 45, 3) := by decide +kernel
theorem dX9_rounds_120 : decode cX9_rounds 120 = .ok (.iload_n 1, 1) := by decide +kernel
theorem dX9_rounds_121 : decode cX9_rounds 121 = .ok (.iload 5, 2) := by decide +kernel
theorem dX9_rounds_123 : decode cX9_rounds 123 = .ok (.invokestatic 188, 3) := by decide +kernel
theorem dX9_rounds_126 : decode cX9_rounds 126 = .ok (.baload, 1) := by decide +kernel
theorem dX9_rounds_127 : decode cX9_rounds 127 = .ok (.bastore, 1) := by decide +kernel
theorem dX9_rounds_128 : decode cX9_rounds 128 = .ok (.aload_n 0, 1) := by decide +kernel
theorem dX9_rounds_129 : decode cX9_rounds 129 = .ok (.getfield 45, 3) := by decide +kernel
theorem dX9_rounds_132 : decode cX9_rounds 132 = .ok (.iload_n 1, 1) := by decide +kernel
theorem dX9_rounds_133 : decode cX9_rounds 133 = .ok (.iload 5, 2) := by decide +kernel
theorem dX9_rounds_135 : decode cX9_rounds 135 = .ok (.invokestatic 188, 3) := by decide +kernel
theorem dX9_rounds_138 : decode cX9_rounds 138 = .ok (.iconst 0, 1) := by decide +kernel
theorem dX9_rounds_139 : decode cX9_rounds 139 = .ok (.bastore, 1) := by decide +kernel
theorem dX9_rounds_140 : decode cX9_rounds 140 = .ok (.iinc 5 1, 3) := by decide +kernel
theorem dX9_rounds_143 : decode cX9_rounds 143 = .ok (.goto (-40), 3) := by decide +kernel
theorem dX9_rounds_146 : decode cX9_rounds 146 = .ok (.iconst 1, 1) := by decide +kernel
theorem dX9_rounds_147 : decode cX9_rounds 147 = .ok (.istore 5, 2) := by decide +kernel
theorem dX9_rounds_149 : decode cX9_rounds 149 = .ok (.iconst 0, 1) := by decide +kernel
theorem dX9_rounds_150 : decode cX9_rounds 150 = .ok (.istore 6, 2) := by decide +kernel
theorem dX9_rounds_152 : decode cX9_rounds 152 = .ok (.iload 6, 2) := by decide +kernel
theorem dX9_rounds_154 : decode cX9_rounds 154 = .ok (.iconst 5, 1) := by decide +kernel
theorem dX9_rounds_155 : decode cX9_rounds 155 = .ok (.if_icmp .ge 72, 3) := by decide +kernel
theorem dX9_rounds_158 : decode cX9_rounds 158 = .ok (.iload 5, 2) := by decide +kernel
theorem dX9_rounds_160 : decode cX9_rounds 160 = .ok (.ifCond .eq 67, 3) := by decide +kernel
theorem dX9_rounds_163 : decode cX9_rounds 163 = .ok (.aload_n 0, 1) := by decide +kernel
theorem dX9_rounds_164 : decode cX9_rounds 164 = .ok (.iload_n 1, 1) := by decide +kernel
theorem dX9_rounds_165 : decode cX9_rounds 165 = .ok (.invokevirtual 239, 3) := by decide +kernel
theorem dX9_rounds_168 : decode cX9_rounds 168 = .ok (.ifCond .ne 44, 3) := by decide +kernel
theorem dX9_rounds_171 : decode cX9_rounds 171 = .ok (.iconst 0, 1) := by decide +kernel
theorem dX9_rounds_172 : decode cX9_rounds 172 = .ok (.istore 7, 2) := by decide +kernel
theorem dX9_rounds_174 : decode cX9_rounds 174 = .ok (.iload 7, 2) := by decide +kernel
theorem dX9_rounds_176 : decode cX9_rounds 176 = .ok (.bipush 40, 2) := by decide +kernel
theorem dX9_rounds_178 : decode cX9_rounds 178 = .ok (.if_icmp .ge 27, 3) := by decide +kernel
theorem dX9_rounds_181 : decode cX9_rounds 181 = .ok (.aload_n 0, 1) := by decide +kernel
theorem dX9_rounds_182 : decode cX9_rounds 182 = .ok (.getfield 45, 3) := by decide +kernel
theorem dX9_rounds_185 : decode cX9_rounds 185 = .ok (.iload_n 1, 1) := by decide +kernel
theorem dX9_rounds_186 : decode cX9_rounds 186 = .ok (.iload 7, 2) := by decide +kernel
theorem dX9_rounds_188 : decode cX9_rounds 188 = .ok (.invokestatic 188, 3) := by decide +kernel
theorem dX9_rounds_191 : decode cX9_rounds 191 = .ok (.aload_n 0, 1) := by decide +kernel
theorem dX9_rounds_192 : decode cX9_rounds 192 = .ok (.getfield 73, 3) := by decide +kernel
theorem dX9_rounds_195 : decode cX9_rounds 195 = .ok (.iload 7, 2) := by decide +kernel
theorem dX9_rounds_197 : decode cX9_rounds 197 = .ok (.baload, 1) := by decide +kernel
theorem dX9_rounds_198 : decode cX9_rounds 198 = .ok (.bastore, 1) := by decide +kernel
theorem dX9_rounds_199 : decode cX9_rounds 199 = .ok (.iinc 7 1, 3) := by decide +kernel
theorem dX9_rounds_202 : decode cX9_rounds 202 = .ok (.goto (-28), 3) := by decide +kernel
theorem dX9_rounds_205 : decode cX9_rounds 205 = .ok (.aload_n 0, 1) := by decide +kernel
theorem dX9_rounds_206 : decode cX9_rounds 206 = .ok (.bipush 6, 2) := by decide +kernel
theorem dX9_rounds_208 : decode cX9_rounds 208 = .ok (.invokevirtual 191, 3) := by decide +kernel
theorem dX9_rounds_211 : decode cX9_rounds 211 = .ok (.ireturn, 1) := by decide +kernel
theorem dX9_rounds_212 : decode cX9_rounds 212 = .ok (.aload_n 0, 1) := by decide +kernel
theorem dX9_rounds_213 : decode cX9_rounds 213 = .ok (.iload_n 1, 1) := by decide +kernel
theorem dX9_rounds_214 : decode cX9_rounds 214 = .ok (.iload_n 2, 1) := by decide +kernel
theorem dX9_rounds_215 : decode cX9_rounds 215 = .ok (.iload_n 3, 1) := by decide +kernel
theorem dX9_rounds_216 : decode cX9_rounds 216 = .ok (.invokevirtual 259, 3) := by decide +kernel
theorem dX9_rounds_219 : decode cX9_rounds 219 = .ok (.istore 5, 2) := by decide +kernel
theorem dX9_rounds_221 : decode cX9_rounds 221 = .ok (.iinc 6 1, 3) := by decide +kernel
theorem dX9_rounds_224 : decode cX9_rounds 224 = .ok (.goto (-72), 3) := by decide +kernel
theorem dX9_rounds_227 : decode cX9_rounds 227 = .ok (.aload_n 0, 1) := by decide +kernel
theorem dX9_rounds_228 : decode cX9_rounds 228 = .ok (.iconst 0, 1) := by decide +kernel
theorem dX9_rounds_229 : decode cX9_rounds 229 = .ok (.putfield 82, 3) := by decide +kernel
theorem dX9_rounds_232 : decode cX9_rounds 232 = .ok (.iconst 0, 1) := by decide +kernel
theorem dX9_rounds_233 : decode cX9_rounds 233 = .ok (.istore 6, 2) := by decide +kernel
theorem dX9_rounds_235 : decode cX9_rounds 235 = .ok (.iconst 0, 1) := by decide +kernel
theorem dX9_rounds_236 : decode cX9_rounds 236 = .ok (.istore 7, 2) := by decide +kernel
theorem dX9_rounds_238 : decode cX9_rounds 238 = .ok (.iload 7, 2) := by decide +kernel
theorem dX9_rounds_240 : decode cX9_rounds 240 = .ok (.bipush 40, 2) := by decide +kernel
theorem dX9_rounds_242 : decode cX9_rounds 242 = .ok (.if_icmp .ge 33, 3) := by decide +kernel
theorem dX9_rounds_245 : decode cX9_rounds 245 = .ok (.iload 6, 2) := by decide +kernel
theorem dX9_rounds_247 : decode cX9_rounds 247 = .ok (.aload_n 0, 1) := by decide +kernel
theorem dX9_rounds_248 : decode cX9_rounds 248 = .ok (.getfield 45, 3) := by decide +kernel
theorem dX9_rounds_251 : decode cX9_rounds 251 = .ok (.iload_n 1, 1) := by decide +kernel
theorem dX9_rounds_252 : decode cX9_rounds 252 = .ok (.iload 7, 2) := by decide +kernel
theorem dX9_rounds_254 : decode cX9_rounds 254 = .ok (.invokestatic 188, 3) := by decide +kernel
theorem dX9_rounds_257 : decode cX9_rounds 257 = .ok (.baload, 1) := by decide +kernel
theorem dX9_rounds_258 : decode cX9_rounds 258 = .ok (.ifCond .eq 7, 3) := by decide +kernel
theorem dX9_rounds_261 : decode cX9_rounds 261 = .ok (.iconst 1, 1) := by decide +kernel
theorem dX9_rounds_262 : decode cX9_rounds 262 = .ok (.goto 4, 3) := by decide +kernel
theorem dX9_rounds_265 : decode cX9_rounds 265 = .ok (.iconst 0, 1) := by decide +kernel
theorem dX9_rounds_266 : decode cX9_rounds 266 = .ok (.iadd, 1) := by decide +kernel
theorem dX9_rounds_267 : decode cX9_rounds 267 = .ok (.istore 6, 2) := by decide +kernel
theorem dX9_rounds_269 : decode cX9_rounds 269 = .ok (.iinc 7 1, 3) := by decide +kernel
theorem dX9_rounds_272 : decode cX9_rounds 272 = .ok (.goto (-34), 3) := by decide +kernel
theorem dX9_rounds_275 : decode cX9_rounds 275 = .ok (.iload 6, 2) := by decide +kernel
theorem dX9_rounds_277 : decode cX9_rounds 277 = .ok (.ireturn, 1) := by decide +kernel
theorem dX9_round_0 : decode cX9_round 0 = .ok (.aload_n 0, 1) := by decide +kernel
theorem dX9_round_1 : decode cX9_round 1 = .ok (.aload_n 0, 1) := by decide +kernel
theorem dX9_round_2 : decode cX9_round 2 = .ok (.iload_n 2, 1) := by decide +kernel
theorem dX9_round_3 : decode cX9_round 3 = .ok (.i2l, 1) := by decide +kernel
theorem dX9_round_4 : decode cX9_round 4 = .ok (.invokevirtual 118, 3) := by decide +kernel
theorem dX9_round_7 : decode cX9_round 7 = .ok (.aload_n 0, 1) := by decide +kernel
theorem dX9_round_8 : decode cX9_round 8 = .ok (.iload_n 1, 1) := by decide +kernel
theorem dX9_round_9 : decode cX9_round 9 = .ok (.invokevirtual 263, 3) := by decide +kernel
theorem dX9_round_12 : decode cX9_round 12 = .ok (.invokevirtual 220, 3) := by decide +kernel
theorem dX9_round_15 : decode cX9_round 15 = .ok (.istore 4, 2) := by decide +kernel
theorem dX9_round_17 : decode cX9_round 17 = .ok (.iconst 0, 1) := by decide +kernel
theorem dX9_round_18 : decode cX9_round 18 = .ok (.istore 5, 2) := by decide +kernel
theorem dX9_round_20 : decode cX9_round 20 = .ok (.iconst 0, 1) := by decide +kernel
theorem dX9_round_21 : decode cX9_round 21 = .ok (.istore 6, 2) := by decide +kernel
theorem dX9_round_23 : decode cX9_round 23 = .ok (.iload 6, 2) := by decide +kernel
theorem dX9_round_25 : decode cX9_round 25 = .ok (.bipush 40, 2) := by decide +kernel
theorem dX9_round_27 : decode cX9_round 27 = .ok (.if_icmp .ge 83, 3) := by decide +kernel
theorem dX9_round_30 : decode cX9_round 30 = .ok (.aload_n 0, 1) := by decide +kernel
theorem dX9_round_31 : decode cX9_round 31 = .ok (.getfield 76, 3) := by decide +kernel
theorem dX9_round_34 : decode cX9_round 34 = .ok (.iload 6, 2) := by decide +kernel
theorem dX9_round_36 : decode cX9_round 36 = .ok (.aload_n 0, 1) := by decide +kernel
theorem dX9_round_37 : decode cX9_round 37 = .ok (.iload_n 1, 1) := by decide +kernel
theorem dX9_round_38 : decode cX9_round 38 = .ok (.iload 6, 2) := by decide +kernel
theorem dX9_round_40 : decode cX9_round 40 = .ok (.invokevirtual 194, 3) := by decide +kernel
theorem dX9_round_43 : decode cX9_round 43 = .ok (.ifCond .eq 37, 3) := by decide +kernel
theorem dX9_round_46 : decode cX9_round 46 = .ok (.aload_n 0, 1) := by decide +kernel
theorem dX9_round_47 : decode cX9_round 47 = .ok (.aload_n 0, 1) := by decide +kernel
theorem dX9_round_48 : decode cX9_round 48 = .ok (.aload_n 0, 1) := by decide +kernel
theorem dX9_round_49 : decode cX9_round 49 = .ok (.aload_n 0, 1) := by decide +kernel
theorem dX9_round_50 : decode cX9_round 50 = .ok (.iload_n 3, 1) := by decide +kernel
theorem dX9_round_51 : decode cX9_round 51 = .ok (.i2l, 1) := by decide +kernel
theorem dX9_round_52 : decode cX9_round 52 = .ok (.invokevirtual 118, 3) := by decide +kernel
theorem dX9_round_55 : decode cX9_round 55 = .ok (.aload_n 0, 1) := by decide +kernel
theorem dX9_round_56 : decode cX9_round 56 = .ok (.getfield 79, 3) := by decide +kernel
theorem dX9_round_59 : decode cX9_round 59 = .ok (.iload 6, 2) := by decide +kernel
theorem dX9_round_61 : decode cX9_round 61 = .ok (.iaload, 1) := by decide +kernel
theorem dX9_round_62 : decode cX9_round 62 = .ok (.invokevirtual 220, 3) := by decide +kernel
theorem dX9_round_65 : decode cX9_round 65 = .ok (.iload 4, 2) := by decide +kernel
theorem dX9_round_67 : decode cX9_round 67 = .ok (.invokevirtual 223, 3) := by decide +kernel
theorem dX9_round_70 : decode cX9_round 70 = .ok (.invokevirtual 105, 3) := by decide +kernel
theorem dX9_round_73 : decode cX9_round 73 = .ok (.ifCond .le 7, 3) := by decide +kernel
theorem dX9_round_76 : decode cX9_round 76 = .ok (.iconst 1, 1) := by decide +kernel
theorem dX9_round_77 : decode cX9_round 77 = .ok (.goto 4, 3) := by decide +kernel
theorem dX9_round_80 : decode cX9_round 80 = .ok (.iconst 0, 1) := by decide +kernel
theorem dX9_round_81 : decode cX9_round 81 = .ok (.bastore, 1) := by decide +kernel
theorem dX9_round_82 : decode cX9_round 82 = .ok (.iload 5, 2) := by decide +kernel
theorem dX9_round_84 : decode cX9_round 84 = .ok (.ifCond .ne 13, 3) := by decide +kernel
theorem dX9_round_87 : decode cX9_round 87 = .ok (.aload_n 0, 1) := by decide +kernel
theorem dX9_round_88 : decode cX9_round 88 = .ok (.getfield 76, 3) := by decide +kernel
theorem dX9_round_91 : decode cX9_round 91 = .ok (.iload 6, 2) := by decide +kernel
theorem dX9_round_93 : decode cX9_round 93 = .ok (.baload, 1) := by decide +kernel
theorem dX9_round_94 : decode cX9_round 94 = .ok (.ifCond .eq 7, 3) := by decide +kernel
theorem dX9_round_97 : decode cX9_round 97 = .ok (.iconst 1, 1) := by decide +kernel
theorem dX9_round_98 : decode cX9_round 98 = .ok (.goto 4, 3) := by decide +kernel
theorem dX9_round_101 : decode cX9_round 101 = .ok (.iconst 0, 1) := by decide +kernel
theorem dX9_round_102 : decode cX9_round 102 = .ok (.istore 5, 2) := by decide +kernel
theorem dX9_round_104 : decode cX9_round 104 = .ok (.iinc 6 1, 3) := by decide +kernel
theorem dX9_round_107 : decode cX9_round 107 = .ok (.goto (-84), 3) := by decide +kernel
theorem dX9_round_110 : decode cX9_round 110 = .ok (.iconst 0, 1) := by decide +kernel
theorem dX9_round_111 : decode cX9_round 111 = .ok (.istore 6, 2) := by decide +kernel
theorem dX9_round_113 : decode cX9_round 113 = .ok (.iload 6, 2) := by decide +kernel
theorem dX9_round_115 : decode cX9_round 115 = .ok (.bipush 40, 2) := by decide +kernel
theorem dX9_round_117 : decode cX9_round 117 = .ok (.if_icmp .ge 31, 3) := by decide +kernel
theorem dX9_round_120 : decode cX9_round 120 = .ok (.aload_n 0, 1) := by decide +kernel
theorem dX9_round_121 : decode cX9_round 121 = .ok (.getfield 76, 3) := by decide +kernel
theorem dX9_round_124 : decode cX9_round 124 = .ok (.iload 6, 2) := by decide +kernel
theorem dX9_round_126 : decode cX9_round 126 = .ok (.baload, 1) := by decide +kernel
theorem dX9_round_127 : decode cX9_round 127 = .ok (.ifCond .eq 15, 3) := by decide +kernel
theorem dX9_round_130 : decode cX9_round 130 = .ok (.aload_n 0, 1) := by decide +kernel
theorem dX9_round_131 : decode cX9_round 131 = .ok (.getfield 45, 3) := by decide +kernel
theorem dX9_round_134 : decode cX9_round 134 = .ok (.iload_n 1, 1) := by decide +kernel
theorem dX9_round_135 : decode cX9_round 135 = .ok (.iload 6, 2) := by decide +kernel
theorem dX9_round_137 : decode cX9_round 137 = .ok (.invokestatic 188, 3) := by decide +kernel
theorem dX9_round_140 : decode cX9_round 140 = .ok (.iconst 1, 1) := by decide +kernel
theorem dX9_round_141 : decode cX9_round 141 = .ok (.bastore, 1) := by decide +kernel
theorem dX9_round_142 : decode cX9_round 142 = .ok (.iinc 6 1, 3) := by decide +kernel
theorem dX9_round_145 : decode cX9_round 145 = .ok (.goto (-32), 3) := by decide +kernel
theorem dX9_round_148 : decode cX9_round 148 = .ok (.iload 5, 2) := by decide +kernel
theorem dX9_round_150 : decode cX9_round 150 = .ok (.ireturn, 1) := by decide +kernel
theorem dX9_pull_0 : decode cX9_pull 0 = .ok (.iload_n 1, 1) := by decide +kernel
theorem dX9_pull_1 : decode cX9_pull 1 = .ok (.invokestatic 174, 3) := by decide +kernel
theorem dX9_pull_4 : decode cX9_pull 4 = .ok (.ifCond .eq 17, 3) := by decide +kernel
theorem dX9_pull_7 : decode cX9_pull 7 = .ok (.iload_n 2, 1) := by decide +kernel
theorem dX9_pull_8 : decode cX9_pull 8 = .ok (.invokestatic 178, 3) := by decide +kernel
theorem dX9_pull_11 : decode cX9_pull 11 = .ok (.ifCond .eq 10, 3) := by decide +kernel
theorem dX9_pull_14 : decode cX9_pull 14 = .ok (.iload_n 3, 1) := by decide +kernel
theorem dX9_pull_15 : decode cX9_pull 15 = .ok (.invokestatic 253, 3) := by decide +kernel
theorem dX9_pull_18 : decode cX9_pull 18 = .ok (.ifCond .ne 9, 3) := by decide +kernel
theorem dX9_pull_21 : decode cX9_pull 21 = .ok (.aload_n 0, 1) := by decide +kernel
theorem dX9_pull_22 : decode cX9_pull 22 = .ok (.iconst 1, 1) := by decide +kernel
theorem dX9_pull_23 : decode cX9_pull 23 = .ok (.invokevirtual 191, 3) := by decide +kernel
theorem dX9_pull_26 : decode cX9_pull 26 = .ok (.ireturn, 1) := by decide +kernel
theorem dX9_pull_27 : decode cX9_pull 27 = .ok (.aload_n 0, 1) := by decide +kernel
theorem dX9_pull_28 : decode cX9_pull 28 = .ok (.iload_n 1, 1) := by decide +kernel
theorem dX9_pull_29 : decode cX9_pull 29 = .ok (.iload_n 2, 1) := by decide +kernel
theorem dX9_pull_30 : decode cX9_pull 30 = .ok (.invokevirtual 194, 3) := by decide +kernel
theorem dX9_pull_33 : decode cX9_pull 33 = .ok (.ifCond .ne 10, 3) := by decide +kernel
theorem dX9_pull_36 : decode cX9_pull 36 = .ok (.aload_n 0, 1) := by decide +kernel
theorem dX9_pull_37 : decode cX9_pull 37 = .ok (.bipush 7, 2) := by decide +kernel
theorem dX9_pull_39 : decode cX9_pull 39 = .ok (.invokevirtual 191, 3) := by decide +kernel
theorem dX9_pull_42 : decode cX9_pull 42 = .ok (.ireturn, 1) := by decide +kernel
theorem dX9_pull_43 : decode cX9_pull 43 = .ok (.aload_n 0, 1) := by decide +kernel
theorem dX9_pull_44 : decode cX9_pull 44 = .ok (.iload_n 1, 1) := by decide +kernel
theorem dX9_pull_45 : decode cX9_pull 45 = .ok (.invokevirtual 229, 3) := by decide +kernel
theorem dX9_pull_48 : decode cX9_pull 48 = .ok (.aload_n 0, 1) := by decide +kernel
theorem dX9_pull_49 : decode cX9_pull 49 = .ok (.iload_n 1, 1) := by decide +kernel
theorem dX9_pull_50 : decode cX9_pull 50 = .ok (.iload_n 2, 1) := by decide +kernel
theorem dX9_pull_51 : decode cX9_pull 51 = .ok (.invokevirtual 213, 3) := by decide +kernel
theorem dX9_pull_54 : decode cX9_pull 54 = .ok (.iconst 0, 1) := by decide +kernel
theorem dX9_pull_55 : decode cX9_pull 55 = .ok (.istore 4, 2) := by decide +kernel
theorem dX9_pull_57 : decode cX9_pull 57 = .ok (.iload 4, 2) := by decide +kernel
theorem dX9_pull_59 : decode cX9_pull 59 = .ok (.aload_n 0, 1) := by decide +kernel
theorem dX9_pull_60 : decode cX9_pull 60 = .ok (.getfield 207, 3) := by decide +kernel
theorem dX9_pull_63 : decode cX9_pull 63 = .ok (.if_icmp .ge 24, 3) := by decide +kernel
theorem dX9_pull_66 : decode cX9_pull 66 = .ok (.aload_n 0, 1) := by decide +kernel
theorem dX9_pull_67 : decode cX9_pull 67 = .ok (.getfield 64, 3) := by decide +kernel
theorem dX9_pull_70 : decode cX9_pull 70 = .ok (.iload 4, 2) := by decide +kernel
theorem dX9_pull_72 : decode cX9_pull 72 = .ok (.aload_n 0, 1) := by decide +kernel
theorem dX9_pull_73 : decode cX9_pull 73 = .ok (.getfield 54, 3) := by decide +kernel
theorem dX9_pull_76 : decode cX9_pull 76 = .ok (.iload 4, 2) := by decide +kernel
theorem dX9_pull_78 : decode cX9_pull 78 = .ok (.iaload, 1) := by decide +kernel
theorem dX9_pull_79 : decode cX9_pull 79 = .ok (.i2l, 1) := by decide +kernel
theorem dX9_pull_80 : decode cX9_pull 80 = .ok (.lastore, 1) := by decide +kernel
theorem dX9_pull_81 : decode cX9_pull 81 = .ok (.iinc 4 1, 3) := by decide +kernel
theorem dX9_pull_84 : decode cX9_pull 84 = .ok (.goto (-27), 3) := by decide +kernel
theorem dX9_pull_87 : decode cX9_pull 87 = .ok (.aload_n 0, 1) := by decide +kernel
theorem dX9_pull_88 : decode cX9_pull 88 = .ok (.invokevirtual 232, 3) := by decide +kernel
theorem dX9_pull_91 : decode cX9_pull 91 = .ok (.ifCond .ne 10, 3) := by decide +kernel
theorem dX9_pull_94 : decode cX9_pull 94 = .ok (.aload_n 0, 1) := by decide +kernel
theorem dX9_pull_95 : decode cX9_pull 95 = .ok (.bipush 6, 2) := by decide +kernel
theorem dX9_pull_97 : decode cX9_pull 97 = .ok (.invokevirtual 191, 3) := by decide +kernel
theorem dX9_pull_100 : decode cX9_pull 100 = .ok (.ireturn, 1) := by decide +kernel
theorem dX9_pull_101 : decode cX9_pull 101 = .ok (.aload_n 0, 1) := by decide +kernel
theorem dX9_pull_102 : decode cX9_pull 102 = .ok (.aload_n 0, 1) := by decide +kernel
theorem dX9_pull_103 : decode cX9_pull 103 = .ok (.iload_n 1, 1) := by decide +kernel
theorem dX9_pull_104 : decode cX9_pull 104 = .ok (.iload_n 3, 1) := by decide +kernel
theorem dX9_pull_105 : decode cX9_pull 105 = .ok (.iconst 3, 1) := by decide +kernel
theorem dX9_pull_106 : decode cX9_pull 106 = .ok (.invokevirtual 249, 3) := by decide +kernel
theorem dX9_pull_109 : decode cX9_pull 109 = .ok (.aload_n 0, 1) := by decide +kernel
theorem dX9_pull_110 : decode cX9_pull 110 = .ok (.bipush 19, 2) := by decide +kernel
theorem dX9_pull_112 : decode cX9_pull 112 = .ok (.invokevirtual 236, 3) := by decide +kernel
theorem dX9_pull_115 : decode cX9_pull 115 = .ok (.invokevirtual 246, 3) := by decide +kernel
theorem dX9_pull_118 : decode cX9_pull 118 = .ok (.ireturn, 1) := by decide +kernel
theorem dX9_right_0 : decode cX9_right 0 = .ok (.iload_n 3, 1) := by decide +kernel
theorem dX9_right_1 : decode cX9_right 1 = .ok (.iconst (-1), 1) := by decide +kernel
theorem dX9_right_2 : decode cX9_right 2 = .ok (.if_icmp .eq 7, 3) := by decide +kernel
theorem dX9_right_5 : decode cX9_right 5 = .ok (.iconst 1, 1) := by decide +kernel
theorem dX9_right_6 : decode cX9_right 6 = .ok (.goto 4, 3) := by decide +kernel
theorem dX9_right_9 : decode cX9_right 9 = .ok (.iconst 0, 1) := by decide +kernel
theorem dX9_right_10 : decode cX9_right 10 = .ok (.istore 7, 2) := by decide +kernel
theorem dX9_right_12 : decode cX9_right 12 = .ok (.iload_n 1, 1) := by decide +kernel
theorem dX9_right_13 : decode cX9_right 13 = .ok (.invokestatic 174, 3) := by decide +kernel
theorem dX9_right_16 : decode cX9_right 16 = .ok (.ifCond .eq 62, 3) := by decide +kernel
theorem dX9_right_19 : decode cX9_right 19 = .ok (.iload_n 2, 1) := by decide +kernel
theorem dX9_right_20 : decode cX9_right 20 = .ok (.invokestatic 174, 3) := by decide +kernel
theorem dX9_right_23 : decode cX9_right 23 = .ok (.ifCond .eq 55, 3) := by decide +kernel
theorem dX9_right_26 : decode cX9_right 26 = .ok (.iload 7, 2) := by decide +kernel
theorem dX9_right_28 : decode cX9_right 28 = .ok (.ifCond .eq 10, 3) := by decide +kernel
theorem dX9_right_31 : decode cX9_right 31 = .ok (.iload_n 3, 1) := by decide +kernel
theorem dX9_right_32 : decode cX9_right 32 = .ok (.invokestatic 174, 3) := by decide +kernel
theorem dX9_right_35 : decode cX9_right 35 = .ok (.ifCond .eq 43, 3) := by decide +kernel
theorem dX9_right_38 : decode cX9_right 38 = .ok (.iload 4, 2) := by decide +kernel
theorem dX9_right_40 : decode cX9_right 40 = .ok (.invokestatic 174, 3) := by decide +kernel
theorem dX9_right_43 : decode cX9_right 43 = .ok (.ifCond .eq 35, 3) := by decide +kernel
theorem dX9_right_46 : decode cX9_right 46 = .ok (.iload 6, 2) := by decide +kernel
theorem dX9_right_48 : decode cX9_right 48 = .ok (.invokestatic 253, 3) := by decide +kernel
theorem dX9_right_51 : decode cX9_right 51 = .ok (.ifCond .eq 27, 3) := by decide +kernel
theorem dX9_right_54 : decode cX9_right 54 = .ok (.iload 5, 2) := by decide +kernel
theorem dX9_right_56 : decode cX9_right 56 = .ok (.ifCond .lt 22, 3) := by decide +kernel
theorem dX9_right_59 : decode cX9_right 59 = .ok (.iload 5, 2) := by decide +kernel
theorem dX9_right_61 : decode cX9_right 61 = .ok (.iload 7, 2) := by decide +kernel
theorem dX9_right_63 : decode cX9_right 63 = .ok (.ifCond .eq 7, 3) := by decide +kernel
theorem dX9_right_66 : decode cX9_right 66 = .ok (.iconst 3, 1) := by decide +kernel
theorem dX9_right_67 : decode cX9_right 67 = .ok (.goto 4, 3) := by decide +kernel
theorem dX9_right_70 : decode cX9_right 70 = .ok (.iconst 2, 1) := by decide +kernel
theorem dX9_right_71 : decode cX9_right 71 = .ok (.if_icmp .ge 7, 3) := by decide +kernel
theorem dX9_right_74 : decode cX9_right 74 = .ok (.iconst 1, 1) := by decide +kernel
theorem dX9_right_75 : decode cX9_right 75 = .ok (.goto 4, 3) := by decide +kernel
theorem dX9_right_78 : decode cX9_right 78 = .ok (.iconst 0, 1) := by decide +kernel
theorem dX9_right_79 : decode cX9_right 79 = .ok (.istore 8, 2) := by decide +kernel
theorem dX9_right_81 : decode cX9_right 81 = .ok (.iload 8, 2) := by decide +kernel
theorem dX9_right_83 : decode cX9_right 83 = .ok (.ifCond .eq 45, 3) := by decide +kernel
theorem dX9_right_86 : decode cX9_right 86 = .ok (.iload_n 1, 1) := by decide +kernel
theorem dX9_right_87 : decode cX9_right 87 = .ok (.iload_n 2, 1) := by decide +kernel
theorem dX9_right_88 : decode cX9_right 88 = .ok (.if_icmp .eq 40, 3) := by decide +kernel
theorem dX9_right_91 : decode cX9_right 91 = .ok (.iload_n 1, 1) := by decide +kernel
theorem dX9_right_92 : decode cX9_right 92 = .ok (.iload 4, 2) := by decide +kernel
theorem dX9_right_94 : decode cX9_right 94 = .ok (.if_icmp .eq 34, 3) := by decide +kernel
theorem dX9_right_97 : decode cX9_right 97 = .ok (.iload_n 2, 1) := by decide +kernel
theorem dX9_right_98 : decode cX9_right 98 = .ok (.iload 4, 2) := by decide +kernel
theorem dX9_right_100 : decode cX9_right 100 = .ok (.if_icmp .eq 28, 3) := by decide +kernel
theorem dX9_right_103 : decode cX9_right 103 = .ok (.iload 7, 2) := by decide +kernel
theorem dX9_right_105 : decode cX9_right 105 = .ok (.ifCond .eq 19, 3) := by decide +kernel
theorem dX9_right_108 : decode cX9_right 108 = .ok (.iload_n 3, 1) := by decide +kernel
theorem dX9_right_109 : decode cX9_right 109 = .ok (.iload_n 1, 1) := by decide +kernel
theorem dX9_right_110 : decode cX9_right 110 = .ok (.if_icmp .eq 18, 3) := by decide +kernel
theorem dX9_right_113 : decode cX9_right 113 = .ok (.iload_n 3, 1) := by decide +kernel
theorem dX9_right_114 : decode cX9_right 114 = .ok (.iload_n 2, 1) := by decide +kernel
theorem dX9_right_115 : decode cX9_right 115 = .ok (.if_icmp .eq 13, 3) := by decide +kernel
theorem dX9_right_118 : decode cX9_right 118 = .ok (.iload_n 3, 1) := by decide +kernel
theorem dX9_right_119 : decode cX9_right 119 = .ok (.iload 4, 2) := by decide +kernel
theorem dX9_right_121 : decode cX9_right 121 = .ok (.if_icmp .eq 7, 3) := by decide +kernel
theorem dX9_right_124 : decode cX9_right 124 = .ok (.iconst 1, 1) := by decide +kernel
theorem dX9_right_125 : decode cX9_right 125 = .ok (.goto 4, 3) := by decide +kernel
theorem dX9_right_128 : decode cX9_right 128 = .ok (.iconst 0, 1) := by decide +kernel
theorem dX9_right_129 : decode cX9_right 129 = .ok (.istore 8, 2) := by decide +kernel
theorem dX9_right_131 : decode cX9_right 131 = .ok (.iload 8, 2) := by decide +kernel
theorem dX9_right_133 : decode cX9_right 133 = .ok (.ifCond .ne 9, 3) := by decide +kernel
theorem dX9_right_136 : decode cX9_right 136 = .ok (.aload_n 0, 1) := by decide +kernel
theorem dX9_right_137 : decode cX9_right 137 = .ok (.iconst 1, 1) := by decide +kernel
theorem dX9_right_138 : decode cX9_right 138 = .ok (.invokevirtual 191, 3) := by decide +kernel
theorem dX9_right_141 : decode cX9_right 141 = .ok (.ireturn, 1) := by decide +kernel
theorem dX9_right_142 : decode cX9_right 142 = .ok (.iload 7, 2) := by decide +kernel
theorem dX9_right_144 : decode cX9_right 144 = .ok (.ifCond .eq 7, 3) := by decide +kernel
theorem dX9_right_147 : decode cX9_right 147 = .ok (.iconst 3, 1) := by decide +kernel
theorem dX9_right_148 : decode cX9_right 148 = .ok (.goto 4, 3) := by decide +kernel
theorem dX9_right_151 : decode cX9_right 151 = .ok (.iconst 2, 1) := by decide +kernel
theorem dX9_right_152 : decode cX9_right 152 = .ok (.istore 9, 2) := by decide +kernel
theorem dX9_right_154 : decode cX9_right 154 = .ok (.iconst 0, 1) := by decide +kernel
theorem dX9_right_155 : decode cX9_right 155 = .ok (.istore 10, 2) := by decide +kernel
theorem dX9_right_157 : decode cX9_right 157 = .ok (.iload 10, 2) := by decide +kernel
theorem dX9_right_159 : decode cX9_right 159 = .ok (.iload 9, 2) := by decide +kernel
theorem dX9_right_161 : decode cX9_right 161 = .ok (.if_icmp .gt 98, 3) := by decide +kernel
theorem dX9_right_164 : decode cX9_right 164 = .ok (.iload 10, 2) := by decide +kernel
theorem dX9_right_166 : decode cX9_right 166 = .ok (.iload 9, 2) := by decide +kernel
theorem dX9_right_168 : decode cX9_right 168 = .ok (.if_icmp .ne 8, 3) := by decide +kernel
theorem dX9_right_171 : decode cX9_right 171 = .ok (.iload 4, 2) := by decide +kernel
theorem dX9_right_173 : decode cX9_right 173 = .ok (.goto 23, 3) := by decide +kernel
theorem dX9_right_176 : decode cX9_right 176 = .ok (.iload 10, 2) := by decide +kernel
theorem dX9_right_178 : decode cX9_right 178 = .ok (.ifCond .ne 7, 3) := by decide +kernel
theorem dX9_right_181 : decode cX9_right 181 = .ok (.iload_n 1, 1) := by decide +kernel
theorem dX9_right_182 : decode cX9_right 182 = .ok (.goto 14, 3) := by decide +kernel
theorem dX9_right_185 : decode cX9_right 185 = .ok (.iload 10, 2) := by decide +kernel
theorem dX9_right_187 : decode cX9_right 187 = .ok (.iconst 1, 1) := by decide +kernel
theorem dX9_right_188 : decode cX9_right 188 = .ok (.if_icmp .ne 7, 3) := by decide +kernel
theorem dX9_right_191 : decode cX9_right 191 = .ok (.iload_n 2, 1) := by decide +kernel
theorem dX9_right_192 : decode cX9_right 192 = .ok (.goto 4, 3) := by decide +kernel
theorem dX9_right_195 : decode cX9_right 195 = .ok (.iload_n 3, 1) := by decide +kernel
theorem dX9_right_196 : decode cX9_right 196 = .ok (.istore 11, 2) := by decide +kernel
theorem dX9_right_198 : decode cX9_right 198 = .ok (.aload_n 0, 1) := by decide +kernel
theorem dX9_right_199 : decode cX9_right 199 = .ok (.iload 11, 2) := by decide +kernel
theorem dX9_right_201 : decode cX9_right 201 = .ok (.invokevirtual 239, 3) := by decide +kernel
theorem dX9_right_204 : decode cX9_right 204 = .ok (.ifCond .ne 10, 3) := by decide +kernel
theorem dX9_right_207 : decode cX9_right 207 = .ok (.aload_n 0, 1) := by decide +kernel
theorem dX9_right_208 : decode cX9_right 208 = .ok (.bipush 6, 2) := by decide +kernel
theorem dX9_right_210 : decode cX9_right 210 = .ok (.invokevirtual 191, 3) := by decide +kernel
theorem dX9_right_213 : decode cX9_right 213 = .ok (.ireturn, 1) := by decide +kernel
theorem dX9_right_214 : decode cX9_right 214 = .ok (.aload_n 0, 1) := by decide +kernel
theorem dX9_right_215 : decode cX9_right 215 = .ok (.bipush 22, 2) := by decide +kernel
theorem dX9_right_217 : decode cX9_right 217 = .ok (.iconst 2, 1) := by decide +kernel
theorem dX9_right_218 : decode cX9_right 218 = .ok (.iload 10, 2) := by decide +kernel
theorem dX9_right_220 : decode cX9_right 220 = .ok (.imul, 1) := by decide +kernel
theorem dX9_right_221 : decode cX9_right 221 = .ok (.iadd, 1) := by decide +kernel
theorem dX9_right_222 : decode cX9_right 222 = .ok (.aload_n 0, 1) := by decide +kernel
theorem dX9_right_223 : decode cX9_right 223 = .ok (.iload 11, 2) := by decide +kernel
theorem dX9_right_225 : decode cX9_right 225 = .ok (.iload 6, 2) := by decide +kernel
theorem dX9_right_227 : decode cX9_right 227 = .ok (.iconst 3, 1) := by decide +kernel
theorem dX9_right_228 : decode cX9_right 228 = .ok (.invokevirtual 249, 3) := by decide +kernel
theorem dX9_right_231 : decode cX9_right 231 = .ok (.invokevirtual 226, 3) := by decide +kernel
theorem dX9_right_234 : decode cX9_right 234 = .ok (.aload_n 0, 1) := by decide +kernel
theorem dX9_right_235 : decode cX9_right 235 = .ok (.bipush 22, 2) := by decide +kernel
theorem dX9_right_237 : decode cX9_right 237 = .ok (.iconst 2, 1) := by decide +kernel
theorem dX9_right_238 : decode cX9_right 238 = .ok (.iload 10, 2) := by decide +kernel
theorem dX9_right_240 : decode cX9_right 240 = .ok (.imul, 1) := by decide +kernel
theorem dX9_right_241 : decode cX9_right 241 = .ok (.iadd, 1) := by decide +kernel
theorem dX9_right_242 : decode cX9_right 242 = .ok (.iconst 1, 1) := by decide +kernel
theorem dX9_right_243 : decode cX9_right 243 = .ok (.iadd, 1) := by decide +kernel
theorem dX9_right_244 : decode cX9_right 244 = .ok (.aload_n 0, 1) := by decide +kernel
theorem dX9_right_245 : decode cX9_right 245 = .ok (.bipush 19, 2) := by decide +kernel
theorem dX9_right_247 : decode cX9_right 247 = .ok (.invokevirtual 236, 3) := by decide +kernel
theorem dX9_right_250 : decode cX9_right 250 = .ok (.invokevirtual 226, 3) := by decide +kernel
theorem dX9_right_253 : decode cX9_right 253 = .ok (.iinc 10 1, 3) := by decide +kernel
theorem dX9_right_256 : decode cX9_right 256 = .ok (.goto (-99), 3) := by decide +kernel
theorem dX9_right_259 : decode cX9_right 259 = .ok (.aload_n 0, 1) := by decide +kernel
theorem dX9_right_260 : decode cX9_right 260 = .ok (.iconst 0, 1) := by decide +kernel
theorem dX9_right_261 : decode cX9_right 261 = .ok (.putfield 86, 3) := by decide +kernel
theorem dX9_right_264 : decode cX9_right 264 = .ok (.aload_n 0, 1) := by decide +kernel
theorem dX9_right_265 : decode cX9_right 265 = .ok (.bipush 22, 2) := by decide +kernel
theorem dX9_right_267 : decode cX9_right 267 = .ok (.iconst 2, 1) := by decide +kernel
theorem dX9_right_268 : decode cX9_right 268 = .ok (.iload 9, 2) := by decide +kernel
theorem dX9_right_270 : decode cX9_right 270 = .ok (.imul, 1) := by decide +kernel
theorem dX9_right_271 : decode cX9_right 271 = .ok (.iadd, 1) := by decide +kernel
theorem dX9_right_272 : decode cX9_right 272 = .ok (.invokevirtual 236, 3) := by decide +kernel
theorem dX9_right_275 : decode cX9_right 275 = .ok (.istore 10, 2) := by decide +kernel
theorem dX9_right_277 : decode cX9_right 277 = .ok (.aload_n 0, 1) := by decide +kernel
theorem dX9_right_278 : decode cX9_right 278 = .ok (.bipush 22, 2) := by decide +kernel
theorem dX9_right_280 : decode cX9_right 280 = .ok (.iconst 2, 1) := by decide +kernel
theorem dX9_right_281 : decode cX9_right 281 = .ok (.iload 9, 2) := by decide +kernel
theorem dX9_right_283 : decode cX9_right 283 = .ok (.imul, 1) := by decide +kernel
theorem dX9_right_284 : decode cX9_right 284 = .ok (.iadd, 1) := by decide +kernel
theorem dX9_right_285 : decode cX9_right 285 = .ok (.iconst 1, 1) := by decide +kernel
theorem dX9_right_286 : decode cX9_right 286 = .ok (.iadd, 1) := by decide +kernel
theorem dX9_right_287 : decode cX9_right 287 = .ok (.invokevirtual 236, 3) := by decide +kernel
theorem dX9_right_290 : decode cX9_right 290 = .ok (.istore 11, 2) := by decide +kernel
theorem dX9_right_292 : decode cX9_right 292 = .ok (.iconst 0, 1) := by decide +kernel
theorem dX9_right_293 : decode cX9_right 293 = .ok (.istore 12, 2) := by decide +kernel
theorem dX9_right_295 : decode cX9_right 295 = .ok (.iload 12, 2) := by decide +kernel
theorem dX9_right_297 : decode cX9_right 297 = .ok (.iload 9, 2) := by decide +kernel
theorem dX9_right_299 : decode cX9_right 299 = .ok (.if_icmp .ge 69, 3) := by decide +kernel
theorem dX9_right_302 : decode cX9_right 302 = .ok (.aload_n 0, 1) := by decide +kernel
theorem dX9_right_303 : decode cX9_right 303 = .ok (.bipush 22, 2) := by decide +kernel
theorem dX9_right_305 : decode cX9_right 305 = .ok (.iconst 2, 1) := by decide +kernel
theorem dX9_right_306 : decode cX9_right 306 = .ok (.iload 12, 2) := by decide +kernel
theorem dX9_right_308 : decode cX9_right 308 = .ok (.imul, 1) := by decide +kernel
theorem dX9_right_309 : decode cX9_right 309 = .ok (.iadd, 1) := by decide +kernel
theorem dX9_right_310 : decode cX9_right 310 = .ok (.invokevirtual 236, 3) := by decide +kernel
theorem dX9_right_313 : decode cX9_right 313 = .ok (.istore 13, 2) := by decide +kernel
theorem dX9_right_315 : decode cX9_right 315 = .ok (.aload_n 0, 1) := by decide +kernel
theorem dX9_right_316 : decode cX9_right 316 = .ok (.bipush 22, 2) := by decide +kernel
theorem dX9_right_318 : decode cX9_right 318 = .ok (.iconst 2, 1) := by decide +kernel
theorem dX9_right_319 : decode cX9_right 319 = .ok (.iload 12, 2) := by decide +kernel
theorem dX9_right_321 : decode cX9_right 321 = .ok (.imul, 1) := by decide +kernel
theorem dX9_right_322 : decode cX9_right 322 = .ok (.iadd, 1) := by decide +kernel
theorem dX9_right_323 : decode cX9_right 323 = .ok (.iconst 1, 1) := by decide +kernel
theorem dX9_right_324 : decode cX9_right 324 = .ok (.iadd, 1) := by decide +kernel
theorem dX9_right_325 : decode cX9_right 325 = .ok (.invokevirtual 236, 3) := by decide +kernel
theorem dX9_right_328 : decode cX9_right 328 = .ok (.istore 14, 2) := by decide +kernel
theorem dX9_right_330 : decode cX9_right 330 = .ok (.aload_n 0, 1) := by decide +kernel
theorem dX9_right_331 : decode cX9_right 331 = .ok (.aload_n 0, 1) := by decide +kernel
theorem dX9_right_332 : decode cX9_right 332 = .ok (.iload 10, 2) := by decide +kernel
theorem dX9_right_334 : decode cX9_right 334 = .ok (.iload 14, 2) := by decide +kernel
theorem dX9_right_336 : decode cX9_right 336 = .ok (.invokevirtual 220, 3) := by decide +kernel
theorem dX9_right_339 : decode cX9_right 339 = .ok (.aload_n 0, 1) := by decide +kernel
theorem dX9_right_340 : decode cX9_right 340 = .ok (.iload 13, 2) := by decide +kernel
theorem dX9_right_342 : decode cX9_right 342 = .ok (.iload 11, 2) := by decide +kernel
theorem dX9_right_344 : decode cX9_right 344 = .ok (.invokevirtual 220, 3) := by decide +kernel
theorem dX9_right_347 : decode cX9_right 347 = .ok (.invokevirtual 223, 3) := by decide +kernel
theorem dX9_right_350 : decode cX9_right 350 = .ok (.istore 10, 2) := by decide +kernel
theorem dX9_right_352 : decode cX9_right 352 = .ok (.aload_n 0, 1) := by decide +kernel
theorem dX9_right_353 : decode cX9_right 353 = .ok (.iload 11, 2) := by decide +kernel
theorem dX9_right_355 : decode cX9_right 355 = .ok (.iload 14, 2) := by decide +kernel
theorem dX9_right_357 : decode cX9_right 357 = .ok (.invokevirtual 220, 3) := by decide +kernel
theorem dX9_right_360 : decode cX9_right 360 = .ok (.istore 11, 2) := by decide +kernel
theorem dX9_right_362 : decode cX9_right 362 = .ok (.iinc 12 1, 3) := by decide +kernel
theorem dX9_right_365 : decode cX9_right 365 = .ok (.goto (-70), 3) := by decide +kernel
theorem dX9_right_368 : decode cX9_right 368 = .ok (.aload_n 0, 1) := by decide +kernel
theorem dX9_right_369 : decode cX9_right 369 = .ok (.bipush 22, 2) := by decide +kernel
theorem dX9_right_371 : decode cX9_right 371 = .ok (.iconst 2, 1) := by decide +kernel
theorem dX9_right_372 : decode cX9_right 372 = .ok (.iload 5, 2) := by decide +kernel
theorem dX9_right_374 : decode cX9_right 374 = .ok (.imul, 1) := by decide +kernel
theorem dX9_right_375 : decode cX9_right 375 = .ok (.iadd, 1) := by decide +kernel
theorem dX9_right_376 : decode cX9_right 376 = .ok (.invokevirtual 236, 3) := by decide +kernel
theorem dX9_right_379 : decode cX9_right 379 = .ok (.istore 12, 2) := by decide +kernel
theorem dX9_right_381 : decode cX9_right 381 = .ok (.aload_n 0, 1) := by decide +kernel
theorem dX9_right_382 : decode cX9_right 382 = .ok (.bipush 22, 2) := by decide +kernel
theorem dX9_right_384 : decode cX9_right 384 = .ok (.iconst 2, 1) := by decide +kernel
theorem dX9_right_385 : decode cX9_right 385 = .ok (.iload 5, 2) := by decide +kernel
theorem dX9_right_387 : decode cX9_right 387 = .ok (.imul, 1) := by decide +kernel
theorem dX9_right_388 : decode cX9_right 388 = .ok (.iadd, 1) := by decide +kernel
theorem dX9_right_389 : decode cX9_right 389 = .ok (.iconst 1, 1) := by decide +kernel
theorem dX9_right_390 : decode cX9_right 390 = .ok (.iadd, 1) := by decide +kernel
theorem dX9_right_391 : decode cX9_right 391 = .ok (.invokevirtual 236, 3) := by decide +kernel
theorem dX9_right_394 : decode cX9_right 394 = .ok (.istore 13, 2) := by decide +kernel
theorem dX9_right_396 : decode cX9_right 396 = .ok (.aload_n 0, 1) := by decide +kernel
theorem dX9_right_397 : decode cX9_right 397 = .ok (.iload 11, 2) := by decide +kernel
theorem dX9_right_399 : decode cX9_right 399 = .ok (.aload_n 0, 1) := by decide +kernel
theorem dX9_right_400 : decode cX9_right 400 = .ok (.iload 9, 2) := by decide +kernel
theorem dX9_right_402 : decode cX9_right 402 = .ok (.i2l, 1) := by decide +kernel
theorem dX9_right_403 : decode cX9_right 403 = .ok (.invokevirtual 118, 3) := by decide +kernel
theorem dX9_right_406 : decode cX9_right 406 = .ok (.invokevirtual 220, 3) := by decide +kernel
theorem dX9_right_409 : decode cX9_right 409 = .ok (.istore 14, 2) := by decide +kernel
theorem dX9_right_411 : decode cX9_right 411 = .ok (.aload_n 0, 1) := by decide +kernel
theorem dX9_right_412 : decode cX9_right 412 = .ok (.aload_n 0, 1) := by decide +kernel
theorem dX9_right_413 : decode cX9_right 413 = .ok (.aload_n 0, 1) := by decide +kernel
theorem dX9_right_414 : decode cX9_right 414 = .ok (.iload 12, 2) := by decide +kernel
theorem dX9_right_416 : decode cX9_right 416 = .ok (.iload 14, 2) := by decide +kernel
theorem dX9_right_418 : decode cX9_right 418 = .ok (.invokevirtual 220, 3) := by decide +kernel
theorem dX9_right_421 : decode cX9_right 421 = .ok (.aload_n 0, 1) := by decide +kernel
theorem dX9_right_422 : decode cX9_right 422 = .ok (.iload 10, 2) := by decide +kernel
theorem dX9_right_424 : decode cX9_right 424 = .ok (.iload 13, 2) := by decide +kernel
theorem dX9_right_426 : decode cX9_right 426 = .ok (.invokevirtual 220, 3) := by decide +kernel
theorem dX9_right_429 : decode cX9_right 429 = .ok (.invokevirtual 125, 3) := by decide +kernel
theorem dX9_right_432 : decode cX9_right 432 = .ok (.aload_n 0, 1) := by decide +kernel
theorem dX9_right_433 : decode cX9_right 433 = .ok (.iload 13, 2) := by decide +kernel
theorem dX9_right_435 : decode cX9_right 435 = .ok (.iload 14, 2) := by decide +kernel
theorem dX9_right_437 : decode cX9_right 437 = .ok (.invokevirtual 220, 3) := by decide +kernel
theorem dX9_right_440 : decode cX9_right 440 = .ok (.invokevirtual 246, 3) := by decide +kernel
theorem dX9_right_443 : decode cX9_right 443 = .ok (.ireturn, 1) := by decide +kernel
theorem dJ9_abs_067f4_0 : decode cJ9_abs_067f4 0 = .ok (.lload_n 0, 1) := by decide +kernel
theorem dJ9_abs_067f4_1 : decode cJ9_abs_067f4 1 = .ok (.lconst 0, 1) := by decide +kernel
theorem dJ9_abs_067f4_2 : decode cJ9_abs_067f4 2 = .ok (.lcmp, 1) := by decide +kernel
theorem dJ9_abs_067f4_3 : decode cJ9_abs_067f4 3 = .ok (.ifCond .ge 8, 3) := by decide +kernel
theorem dJ9_abs_067f4_6 : decode cJ9_abs_067f4 6 = .ok (.lload_n 0, 1) := by decide +kernel
theorem dJ9_abs_067f4_7 : decode cJ9_abs_067f4 7 = .ok (.lneg, 1) := by decide +kernel
theorem dJ9_abs_067f4_8 : decode cJ9_abs_067f4 8 = .ok (.goto 4, 3) := by decide +kernel
theorem dJ9_abs_067f4_11 : decode cJ9_abs_067f4 11 = .ok (.lload_n 0, 1) := by decide +kernel
theorem dJ9_abs_067f4_12 : decode cJ9_abs_067f4 12 = .ok (.lreturn, 1) := by decide +kernel
theorem dJ9_max_7cf53_0 : decode cJ9_max_7cf53 0 = .ok (.iload_n 0, 1) := by decide +kernel
theorem dJ9_max_7cf53_1 : decode cJ9_max_7cf53 1 = .ok (.iload_n 1, 1) := by decide +kernel
theorem dJ9_max_7cf53_2 : decode cJ9_max_7cf53 2 = .ok (.if_icmp .lt 7, 3) := by decide +kernel
theorem dJ9_max_7cf53_5 : decode cJ9_max_7cf53 5 = .ok (.iload_n 0, 1) := by decide +kernel
theorem dJ9_max_7cf53_6 : decode cJ9_max_7cf53 6 = .ok (.goto 4, 3) := by decide +kernel
theorem dJ9_max_7cf53_9 : decode cJ9_max_7cf53 9 = .ok (.iload_n 1, 1) := by decide +kernel
theorem dJ9_max_7cf53_10 : decode cJ9_max_7cf53 10 = .ok (.ireturn, 1) := by decide +kernel
theorem dJ9_min_7cf53_0 : decode cJ9_min_7cf53 0 = .ok (.iload_n 0, 1) := by decide +kernel
theorem dJ9_min_7cf53_1 : decode cJ9_min_7cf53 1 = .ok (.iload_n 1, 1) := by decide +kernel
theorem dJ9_min_7cf53_2 : decode cJ9_min_7cf53 2 = .ok (.if_icmp .gt 7, 3) := by decide +kernel
theorem dJ9_min_7cf53_5 : decode cJ9_min_7cf53 5 = .ok (.iload_n 0, 1) := by decide +kernel
theorem dJ9_min_7cf53_6 : decode cJ9_min_7cf53 6 = .ok (.goto 4, 3) := by decide +kernel
theorem dJ9_min_7cf53_9 : decode cJ9_min_7cf53 9 = .ok (.iload_n 1, 1) := by decide +kernel
theorem dJ9_min_7cf53_10 : decode cJ9_min_7cf53 10 = .ok (.ireturn, 1) := by decide +kernel
theorem dJ9_min_f86c9_0 : decode cJ9_min_f86c9 0 = .ok (.lload_n 0, 1) := by decide +kernel
theorem dJ9_min_f86c9_1 : decode cJ9_min_f86c9 1 = .ok (.lload_n 2, 1) := by decide +kernel
theorem dJ9_min_f86c9_2 : decode cJ9_min_f86c9 2 = .ok (.lcmp, 1) := by decide +kernel
theorem dJ9_min_f86c9_3 : decode cJ9_min_f86c9 3 = .ok (.ifCond .gt 7, 3) := by decide +kernel
theorem dJ9_min_f86c9_6 : decode cJ9_min_f86c9 6 = .ok (.lload_n 0, 1) := by decide +kernel
theorem dJ9_min_f86c9_7 : decode cJ9_min_f86c9 7 = .ok (.goto 4, 3) := by decide +kernel
theorem dJ9_min_f86c9_10 : decode cJ9_min_f86c9 10 = .ok (.lload_n 2, 1) := by decide +kernel
theorem dJ9_min_f86c9_11 : decode cJ9_min_f86c9 11 = .ok (.lreturn, 1) := by decide +kernel
theorem dJ7_fill_d0a16_0 : decode cJ7_fill_d0a16 0 = .ok (.iconst 0, 1) := by decide +kernel
theorem dJ7_fill_d0a16_1 : decode cJ7_fill_d0a16 1 = .ok (.istore_n 3, 1) := by decide +kernel
theorem dJ7_fill_d0a16_2 : decode cJ7_fill_d0a16 2 = .ok (.aload_n 0, 1) := by decide +kernel
theorem dJ7_fill_d0a16_3 : decode cJ7_fill_d0a16 3 = .ok (.arraylength, 1) := by decide +kernel
theorem dJ7_fill_d0a16_4 : decode cJ7_fill_d0a16 4 = .ok (.istore 4, 2) := by decide +kernel
theorem dJ7_fill_d0a16_6 : decode cJ7_fill_d0a16 6 = .ok (.iload_n 3, 1) := by decide +kernel
theorem dJ7_fill_d0a16_7 : decode cJ7_fill_d0a16 7 = .ok (.iload 4, 2) := by decide +kernel
theorem dJ7_fill_d0a16_9 : decode cJ7_fill_d0a16 9 = .ok (.if_icmp .ge 13, 3) := by decide +kernel
theorem dJ7_fill_d0a16_12 : decode cJ7_fill_d0a16 12 = .ok (.aload_n 0, 1) := by decide +kernel
theorem dJ7_fill_d0a16_13 : decode cJ7_fill_d0a16 13 = .ok (.iload_n 3, 1) := by decide +kernel
theorem dJ7_fill_d0a16_14 : decode cJ7_fill_d0a16 14 = .ok (.lload_n 1, 1) := by decide +kernel
theorem dJ7_fill_d0a16_15 : decode cJ7_fill_d0a16 15 = .ok (.lastore, 1) := by decide +kernel
theorem dJ7_fill_d0a16_16 : decode cJ7_fill_d0a16 16 = .ok (.iinc 3 1, 3) := by decide +kernel
theorem dJ7_fill_d0a16_19 : decode cJ7_fill_d0a16 19 = .ok (.goto (-13), 3) := by decide +kernel
theorem dJ7_fill_d0a16_22 : decode cJ7_fill_d0a16 22 = .ok (.return_, 1) := by decide +kernel
theorem dL_law_0 : decode cL_law 0 = .ok (.new 7, 3) := by decide +kernel
theorem dL_law_3 : decode cL_law 3 = .ok (.dup, 1) := by decide +kernel
theorem dL_law_4 : decode cL_law 4 = .ok (.invokespecial 9, 3) := by decide +kernel
theorem dL_law_7 : decode cL_law 7 = .ok (.astore_n 1, 1) := by decide +kernel
theorem dL_law_8 : decode cL_law 8 = .ok (.new 10, 3) := by decide +kernel
theorem dL_law_11 : decode cL_law 11 = .ok (.dup, 1) := by decide +kernel
theorem dL_law_12 : decode cL_law 12 = .ok (.invokespecial 12, 3) := by decide +kernel
theorem dL_law_15 : decode cL_law 15 = .ok (.astore_n 2, 1) := by decide +kernel
theorem dL_law_16 : decode cL_law 16 = .ok (.iconst 0, 1) := by decide +kernel
theorem dL_law_17 : decode cL_law 17 = .ok (.istore_n 3, 1) := by decide +kernel
theorem dL_law_18 : decode cL_law 18 = .ok (.iload_n 3, 1) := by decide +kernel
theorem dL_law_19 : decode cL_law 19 = .ok (.aload_n 0, 1) := by decide +kernel
theorem dL_law_20 : decode cL_law 20 = .ok (.arraylength, 1) := by decide +kernel
theorem dL_law_21 : decode cL_law 21 = .ok (.bipush 7, 2) := by decide +kernel
theorem dL_law_23 : decode cL_law 23 = .ok (.isub, 1) := by decide +kernel
theorem dL_law_24 : decode cL_law 24 = .ok (.if_icmp .gt 1069, 3) := by decide +kernel
theorem dL_law_27 : decode cL_law 27 = .ok (.aload_n 0, 1) := by decide +kernel
theorem dL_law_28 : decode cL_law 28 = .ok (.iload_n 3, 1) := by decide +kernel
theorem dL_law_29 : decode cL_law 29 = .ok (.iaload, 1) := by decide +kernel
theorem dL_law_30 : decode cL_law 30 = .ok (.bipush 31, 2) := by decide +kernel
theorem dL_law_32 : decode cL_law 32 = .ok (.iand, 1) := by decide +kernel
theorem dL_law_33 : decode cL_law 33 = .ok (.tableswitch 1054 0 24 #[115, 128, 151, 194, 257, 290, 323, 356, 415, 448, 481, 504, 547, 570, 629, 662, 695, 728, 761, 794, 837, 870, 893, 936, 979], 115) := by decide +kernel
theorem dL_law_148 : decode cL_law 148 = .ok (.aload_n 1, 1) := by decide +kernel
theorem dL_law_149 : decode cL_law 149 = .ok (.invokevirtual 13, 3) := by decide +kernel
theorem dL_law_152 : decode cL_law 152 = .ok (.aload_n 2, 1) := by decide +kernel
theorem dL_law_153 : decode cL_law 153 = .ok (.invokevirtual 17, 3) := by decide +kernel
theorem dL_law_156 : decode cL_law 156 = .ok (.if_icmp .eq 931, 3) := by decide +kernel
theorem dL_law_159 : decode cL_law 159 = .ok (.iconst 0, 1) := by decide +kernel
theorem dL_law_160 : decode cL_law 160 = .ok (.ireturn, 1) := by decide +kernel
theorem dL_law_161 : decode cL_law 161 = .ok (.aload_n 1, 1) := by decide +kernel
theorem dL_law_162 : decode cL_law 162 = .ok (.aload_n 0, 1) := by decide +kernel
theorem dL_law_163 : decode cL_law 163 = .ok (.iload_n 3, 1) := by decide +kernel
theorem dL_law_164 : decode cL_law 164 = .ok (.iconst 1, 1) := by decide +kernel
theorem dL_law_165 : decode cL_law 165 = .ok (.iadd, 1) := by decide +kernel
theorem dL_law_166 : decode cL_law 166 = .ok (.iaload, 1) := by decide +kernel
theorem dL_law_167 : decode cL_law 167 = .ok (.invokevirtual 18, 3) := by decide +kernel
theorem dL_law_170 : decode cL_law 170 = .ok (.aload_n 2, 1) := by decide +kernel
theorem dL_law_171 : decode cL_law 171 = .ok (.aload_n 0, 1) := by decide +kernel
theorem dL_law_172 : decode cL_law 172 = .ok (.iload_n 3, 1) := by decide +kernel
theorem dL_law_173 : decode cL_law 173 = .ok (.iconst 1, 1) := by decide +kernel
theorem dL_law_174 : decode cL_law 174 = .ok (.iadd, 1) := by decide +kernel
theorem dL_law_175 : decode cL_law 175 = .ok (.iaload, 1) := by decide +kernel
theorem dL_law_176 : decode cL_law 176 = .ok (.invokevirtual 22, 3) := by decide +kernel
theorem dL_law_179 : decode cL_law 179 = .ok (.if_icmp .eq 908, 3) := by decide +kernel
theorem dL_law_182 : decode cL_law 182 = .ok (.iconst 0, 1) := by decide +kernel
theorem dL_law_183 : decode cL_law 183 = .ok (.ireturn, 1) := by decide +kernel
theorem dL_law_184 : decode cL_law 184 = .ok (.aload_n 1, 1) := by decide +kernel
theorem dL_law_185 : decode cL_law 185 = .ok (.aload_n 0, 1) := by decide +kernel
theorem dL_law_186 : decode cL_law 186 = .ok (.iload_n 3, 1) := by decide +kernel
theorem dL_law_187 : decode cL_law 187 = .ok (.iconst 1, 1) := by decide +kernel
theorem dL_law_188 : decode cL_law 188 = .ok (.iadd, 1) := by decide +kernel
theorem dL_law_189 : decode cL_law 189 = .ok (.iaload, 1) := by decide +kernel
theorem dL_law_190 : decode cL_law 190 = .ok (.aload_n 0, 1) := by decide +kernel
theorem dL_law_191 : decode cL_law 191 = .ok (.iload_n 3, 1) := by decide +kernel
theorem dL_law_192 : decode cL_law 192 = .ok (.iconst 2, 1) := by decide +kernel
theorem dL_law_193 : decode cL_law 193 = .ok (.iadd, 1) := by decide +kernel
theorem dL_law_194 : decode cL_law 194 = .ok (.iaload, 1) := by decide +kernel
theorem dL_law_195 : decode cL_law 195 = .ok (.aload_n 0, 1) := by decide +kernel
theorem dL_law_196 : decode cL_law 196 = .ok (.iload_n 3, 1) := by decide +kernel
theorem dL_law_197 : decode cL_law 197 = .ok (.iconst 3, 1) := by decide +kernel
theorem dL_law_198 : decode cL_law 198 = .ok (.iadd, 1) := by decide +kernel
theorem dL_law_199 : decode cL_law 199 = .ok (.iaload, 1) := by decide +kernel
theorem dL_law_200 : decode cL_law 200 = .ok (.invokevirtual 23, 3) := by decide +kernel
theorem dL_law_203 : decode cL_law 203 = .ok (.aload_n 2, 1) := by decide +kernel
theorem dL_law_204 : decode cL_law 204 = .ok (.aload_n 0, 1) := by decide +kernel
theorem dL_law_205 : decode cL_law 205 = .ok (.iload_n 3, 1) := by decide +kernel
theorem dL_law_206 : decode cL_law 206 = .ok (.iconst 1, 1) := by decide +kernel
theorem dL_law_207 : decode cL_law 207 = .ok (.iadd, 1) := by decide +kernel
theorem dL_law_208 : decode cL_law 208 = .ok (.iaload, 1) := by decide +kernel
theorem dL_law_209 : decode cL_law 209 = .ok (.aload_n 0, 1) := by decide +kernel
theorem dL_law_210 : decode cL_law 210 = .ok (.iload_n 3, 1) := by decide +kernel
theorem dL_law_211 : decode cL_law 211 = .ok (.iconst 2, 1) := by decide +kernel
theorem dL_law_212 : decode cL_law 212 = .ok (.iadd, 1) := by decide +kernel
theorem dL_law_213 : decode cL_law 213 = .ok (.iaload, 1) := by decide +kernel
theorem dL_law_214 : decode cL_law 214 = .ok (.aload_n 0, 1) := by decide +kernel
theorem dL_law_215 : decode cL_law 215 = .ok (.iload_n 3, 1) := by decide +kernel
theorem dL_law_216 : decode cL_law 216 = .ok (.iconst 3, 1) := by decide +kernel
theorem dL_law_217 : decode cL_law 217 = .ok (.iadd, 1) := by decide +kernel
theorem dL_law_218 : decode cL_law 218 = .ok (.iaload, 1) := by decide +kernel
theorem dL_law_219 : decode cL_law 219 = .ok (.invokevirtual 27, 3) := by decide +kernel
theorem dL_law_222 : decode cL_law 222 = .ok (.if_icmp .eq 865, 3) := by decide +kernel
theorem dL_law_225 : decode cL_law 225 = .ok (.iconst 0, 1) := by decide +kernel
theorem dL_law_226 : decode cL_law 226 = .ok (.ireturn, 1) := by decide +kernel
theorem dL_law_227 : decode cL_law 227 = .ok (.aload_n 1, 1) := by decide +kernel
theorem dL_law_228 : decode cL_law 228 = .ok (.aload_n 0, 1) := by decide +kernel
theorem dL_law_229 : decode cL_law 229 = .ok (.iload_n 3, 1) := by decide +kernel
theorem dL_law_230 : decode cL_law 230 = .ok (.iconst 1, 1) := by decide +kernel
theorem dL_law_231 : decode cL_law 231 = .ok (.iadd, 1) := by decide +kernel
theorem dL_law_232 : decode cL_law 232 = .ok (.iaload, 1) := by decide +kernel
theorem dL_law_233 : decode cL_law 233 = .ok (.aload_n 0, 1) := by decide +kernel
theorem dL_law_234 : decode cL_law 234 = .ok (.iload_n 3, 1) := by decide +kernel
theorem dL_law_235 : decode cL_law 235 = .ok (.iconst 2, 1) := by decide +kernel
theorem dL_law_236 : decode cL_law 236 = .ok (.iadd, 1) := by decide +kernel
theorem dL_law_237 : decode cL_law 237 = .ok (.iaload, 1) := by decide +kernel
theorem dL_law_238 : decode cL_law 238 = .ok (.aload_n 0, 1) := by decide +kernel
theorem dL_law_239 : decode cL_law 239 = .ok (.iload_n 3, 1) := by decide +kernel
theorem dL_law_240 : decode cL_law 240 = .ok (.iconst 3, 1) := by decide +kernel
theorem dL_law_241 : decode cL_law 241 = .ok (.iadd, 1) := by decide +kernel
theorem dL_law_242 : decode cL_law 242 = .ok (.iaload, 1) := by decide +kernel
theorem dL_law_243 : decode cL_law 243 = .ok (.aload_n 0, 1) := by decide +kernel
theorem dL_law_244 : decode cL_law 244 = .ok (.iload_n 3, 1) := by decide +kernel
theorem dL_law_245 : decode cL_law 245 = .ok (.iconst 4, 1) := by decide +kernel
theorem dL_law_246 : decode cL_law 246 = .ok (.iadd, 1) := by decide +kernel
theorem dL_law_247 : decode cL_law 247 = .ok (.iaload, 1) := by decide +kernel
theorem dL_law_248 : decode cL_law 248 = .ok (.aload_n 0, 1) := by decide +kernel
theorem dL_law_249 : decode cL_law 249 = .ok (.iload_n 3, 1) := by decide +kernel
theorem dL_law_250 : decode cL_law 250 = .ok (.iconst 5, 1) := by decide +kernel
theorem dL_law_251 : decode cL_law 251 = .ok (.iadd, 1) := by decide +kernel
theorem dL_law_252 : decode cL_law 252 = .ok (.iaload, 1) := by decide +kernel
theorem dL_law_253 : decode cL_law 253 = .ok (.invokevirtual 28, 3) := by decide +kernel
theorem dL_law_256 : decode cL_law 256 = .ok (.aload_n 2, 1) := by decide +kernel
theorem dL_law_257 : decode cL_law 257 = .ok (.aload_n 0, 1) := by decide +kernel
theorem dL_law_258 : decode cL_law 258 = .ok (.iload_n 3, 1) := by decide +kernel
theorem dL_law_259 : decode cL_law 259 = .ok (.iconst 1, 1) := by decide +kernel
theorem dL_law_260 : decode cL_law 260 = .ok (.iadd, 1) := by decide +kernel
theorem dL_law_261 : decode cL_law 261 = .ok (.iaload, 1) := by decide +kernel
theorem dL_law_262 : decode cL_law 262 = .ok (.aload_n 0, 1) := by decide +kernel
theorem dL_law_263 : decode cL_law 263 = .ok (.iload_n 3, 1) := by decide +kernel
theorem dL_law_264 : decode cL_law 264 = .ok (.iconst 2, 1) := by decide +kernel
theorem dL_law_265 : decode cL_law 265 = .ok (.iadd, 1) := by decide +kernel
theorem dL_law_266 : decode cL_law 266 = .ok (.iaload, 1) := by decide +kernel
theorem dL_law_267 : decode cL_law 267 = .ok (.aload_n 0, 1) := by decide +kernel
theorem dL_law_268 : decode cL_law 268 = .ok (.iload_n 3, 1) := by decide +kernel
theorem dL_law_269 : decode cL_law 269 = .ok (.iconst 3, 1) := by decide +kernel
theorem dL_law_270 : decode cL_law 270 = .ok (.iadd, 1) := by decide +kernel
theorem dL_law_271 : decode cL_law 271 = .ok (.iaload, 1) := by decide +kernel
theorem dL_law_272 : decode cL_law 272 = .ok (.aload_n 0, 1) := by decide +kernel
theorem dL_law_273 : decode cL_law 273 = .ok (.iload_n 3, 1) := by decide +kernel
theorem dL_law_274 : decode cL_law 274 = .ok (.iconst 4, 1) := by decide +kernel
theorem dL_law_275 : decode cL_law 275 = .ok (.iadd, 1) := by decide +kernel
theorem dL_law_276 : decode cL_law 276 = .ok (.iaload, 1) := by decide +kernel
theorem dL_law_277 : decode cL_law 277 = .ok (.aload_n 0, 1) := by decide +kernel
theorem dL_law_278 : decode cL_law 278 = .ok (.iload_n 3, 1) := by decide +kernel
theorem dL_law_279 : decode cL_law 279 = .ok (.iconst 5, 1) := by decide +kernel
theorem dL_law_280 : decode cL_law 280 = .ok (.iadd, 1) := by decide +kernel
theorem dL_law_281 : decode cL_law 281 = .ok (.iaload, 1) := by decide +kernel
theorem dL_law_282 : decode cL_law 282 = .ok (.invokevirtual 32, 3) := by decide +kernel
theorem dL_law_285 : decode cL_law 285 = .ok (.if_icmp .eq 802, 3) := by decide +kernel
theorem dL_law_288 : decode cL_law 288 = .ok (.iconst 0, 1) := by decide +kernel
theorem dL_law_289 : decode cL_law 289 = .ok (.ireturn, 1) := by decide +kernel
theorem dL_law_290 : decode cL_law 290 = .ok (.aload_n 1, 1) := by decide +kernel
theorem dL_law_291 : decode cL_law 291 = .ok (.aload_n 0, 1) := by decide +kernel
theorem dL_law_292 : decode cL_law 292 = .ok (.iload_n 3, 1) := by decide +kernel
theorem dL_law_293 : decode cL_law 293 = .ok (.iconst 1, 1) := by decide +kernel
theorem dL_law_294 : decode cL_law 294 = .ok (.iadd, 1) := by decide +kernel
theorem dL_law_295 : decode cL_law 295 = .ok (.iaload, 1) := by decide +kernel
theorem dL_law_296 : decode cL_law 296 = .ok (.aload_n 0, 1) := by decide +kernel
theorem dL_law_297 : decode cL_law 297 = .ok (.iload_n 3, 1) := by decide +kernel
theorem dL_law_298 : decode cL_law 298 = .ok (.iconst 2, 1) := by decide +kernel
theorem dL_law_299 : decode cL_law 299 = .ok (.iadd, 1) := by decide +kernel
theorem dL_law_300 : decode cL_law 300 = .ok (.iaload, 1) := by decide +kernel
theorem dL_law_301 : decode cL_law 301 = .ok (.invokevirtual 33, 3) := by decide +kernel
theorem dL_law_304 : decode cL_law 304 = .ok (.aload_n 2, 1) := by decide +kernel
theorem dL_law_305 : decode cL_law 305 = .ok (.aload_n 0, 1) := by decide +kernel
theorem dL_law_306 : decode cL_law 306 = .ok (.iload_n 3, 1) := by decide +kernel
theorem dL_law_307 : decode cL_law 307 = .ok (.iconst 1, 1) := by decide +kernel
theorem dL_law_308 : decode cL_law 308 = .ok (.iadd, 1) := by decide +kernel
theorem dL_law_309 : decode cL_law 309 = .ok (.iaload, 1) := by decide +kernel
theorem dL_law_310 : decode cL_law 310 = .ok (.aload_n 0, 1) := by decide +kernel
theorem dL_law_311 : decode cL_law 311 = .ok (.iload_n 3, 1) := by decide +kernel
theorem dL_law_312 : decode cL_law 312 = .ok (.iconst 2, 1) := by decide +kernel
theorem dL_law_313 : decode cL_law 313 = .ok (.iadd, 1) := by decide +kernel
theorem dL_law_314 : decode cL_law 314 = .ok (.iaload, 1) := by decide +kernel
theorem dL_law_315 : decode cL_law 315 = .ok (.invokevirtual 37, 3) := by decide +kernel
theorem dL_law_318 : decode cL_law 318 = .ok (.if_icmp .eq 769, 3) := by decide +kernel
theorem dL_law_321 : decode cL_law 321 = .ok (.iconst 0, 1) := by decide +kernel
theorem dL_law_322 : decode cL_law 322 = .ok (.ireturn, 1) := by decide +kernel
theorem dL_law_323 : decode cL_law 323 = .ok (.aload_n 1, 1) := by decide +kernel
theorem dL_law_324 : decode cL_law 324 = .ok (.aload_n 0, 1) := by decide +kernel
theorem dL_law_325 : decode cL_law 325 = .ok (.iload_n 3, 1) := by decide +kernel
theorem dL_law_326 : decode cL_law 326 = .ok (.iconst 1, 1) := by decide +kernel
theorem dL_law_327 : decode cL_law 327 = .ok (.iadd, 1) := by decide +kernel
theorem dL_law_328 : decode cL_law 328 = .ok (.iaload, 1) := by decide +kernel
theorem dL_law_329 : decode cL_law 329 = .ok (.aload_n 0, 1) := by decide +kernel
theorem dL_law_330 : decode cL_law 330 = .ok (.iload_n 3, 1) := by decide +kernel
theorem dL_law_331 : decode cL_law 331 = .ok (.iconst 2, 1) := by decide +kernel
theorem dL_law_332 : decode cL_law 332 = .ok (.iadd, 1) := by decide +kernel
theorem dL_law_333 : decode cL_law 333 = .ok (.iaload, 1) := by decide +kernel
theorem dL_law_334 : decode cL_law 334 = .ok (.invokevirtual 38, 3) := by decide +kernel
theorem dL_law_337 : decode cL_law 337 = .ok (.aload_n 2, 1) := by decide +kernel
theorem dL_law_338 : decode cL_law 338 = .ok (.aload_n 0, 1) := by decide +kernel
theorem dL_law_339 : decode cL_law 339 = .ok (.iload_n 3, 1) := by decide +kernel
theorem dL_law_340 : decode cL_law 340 = .ok (.iconst 1, 1) := by decide +kernel
theorem dL_law_341 : decode cL_law 341 = .ok (.iadd, 1) := by decide +kernel
theorem dL_law_342 : decode cL_law 342 = .ok (.iaload, 1) := by decide +kernel
theorem dL_law_343 : decode cL_law 343 = .ok (.aload_n 0, 1) := by decide +kernel
theorem dL_law_344 : decode cL_law 344 = .ok (.iload_n 3, 1) := by decide +kernel
theorem dL_law_345 : decode cL_law 345 = .ok (.iconst 2, 1) := by decide +kernel
theorem dL_law_346 : decode cL_law 346 = .ok (.iadd, 1) := by decide +kernel
theorem dL_law_347 : decode cL_law 347 = .ok (.iaload, 1) := by decide +kernel
theorem dL_law_348 : decode cL_law 348 = .ok (.invokevirtual 42, 3) := by decide +kernel
theorem dL_law_351 : decode cL_law 351 = .ok (.if_icmp .eq 736, 3) := by decide +kernel
theorem dL_law_354 : decode cL_law 354 = .ok (.iconst 0, 1) := by decide +kernel
theorem dL_law_355 : decode cL_law 355 = .ok (.ireturn, 1) := by decide +kernel
theorem dL_law_356 : decode cL_law 356 = .ok (.aload_n 1, 1) := by decide +kernel
theorem dL_law_357 : decode cL_law 357 = .ok (.aload_n 0, 1) := by decide +kernel
theorem dL_law_358 : decode cL_law 358 = .ok (.iload_n 3, 1) := by decide +kernel
theorem dL_law_359 : decode cL_law 359 = .ok (.iconst 1, 1) := by decide +kernel
theorem dL_law_360 : decode cL_law 360 = .ok (.iadd, 1) := by decide +kernel
theorem dL_law_361 : decode cL_law 361 = .ok (.iaload, 1) := by decide +kernel
theorem dL_law_362 : decode cL_law 362 = .ok (.aload_n 0, 1) := by decide +kernel
theorem dL_law_363 : decode cL_law 363 = .ok (.iload_n 3, 1) := by decide +kernel
theorem dL_law_364 : decode cL_law 364 = .ok (.iconst 2, 1) := by decide +kernel
theorem dL_law_365 : decode cL_law 365 = .ok (.iadd, 1) := by decide +kernel
theorem dL_law_366 : decode cL_law 366 = .ok (.iaload, 1) := by decide +kernel
theorem dL_law_367 : decode cL_law 367 = .ok (.invokevirtual 43, 3) := by decide +kernel
theorem dL_law_370 : decode cL_law 370 = .ok (.aload_n 2, 1) := by decide +kernel
theorem dL_law_371 : decode cL_law 371 = .ok (.aload_n 0, 1) := by decide +kernel
theorem dL_law_372 : decode cL_law 372 = .ok (.iload_n 3, 1) := by decide +kernel
theorem dL_law_373 : decode cL_law 373 = .ok (.iconst 1, 1) := by decide +kernel
theorem dL_law_374 : decode cL_law 374 = .ok (.iadd, 1) := by decide +kernel
theorem dL_law_375 : decode cL_law 375 = .ok (.iaload, 1) := by decide +kernel
theorem dL_law_376 : decode cL_law 376 = .ok (.aload_n 0, 1) := by decide +kernel
theorem dL_law_377 : decode cL_law 377 = .ok (.iload_n 3, 1) := by decide +kernel
theorem dL_law_378 : decode cL_law 378 = .ok (.iconst 2, 1) := by decide +kernel
theorem dL_law_379 : decode cL_law 379 = .ok (.iadd, 1) := by decide +kernel
theorem dL_law_380 : decode cL_law 380 = .ok (.iaload, 1) := by decide +kernel
theorem dL_law_381 : decode cL_law 381 = .ok (.invokevirtual 46, 3) := by decide +kernel
theorem dL_law_384 : decode cL_law 384 = .ok (.if_icmp .eq 703, 3) := by decide +kernel
theorem dL_law_387 : decode cL_law 387 = .ok (.iconst 0, 1) := by decide +kernel
theorem dL_law_388 : decode cL_law 388 = .ok (.ireturn, 1) := by decide +kernel
theorem dL_law_389 : decode cL_law 389 = .ok (.aload_n 1, 1) := by decide +kernel
theorem dL_law_390 : decode cL_law 390 = .ok (.aload_n 0, 1) := by decide +kernel
theorem dL_law_391 : decode cL_law 391 = .ok (.iload_n 3, 1) := by decide +kernel
theorem dL_law_392 : decode cL_law 392 = .ok (.iconst 1, 1) := by decide +kernel
theorem dL_law_393 : decode cL_law 393 = .ok (.iadd, 1) := by decide +kernel
theorem dL_law_394 : decode cL_law 394 = .ok (.iaload, 1) := by decide +kernel
theorem dL_law_395 : decode cL_law 395 = .ok (.aload_n 0, 1) := by decide +kernel
theorem dL_law_396 : decode cL_law 396 = .ok (.iload_n 3, 1) := by decide +kernel
theorem dL_law_397 : decode cL_law 397 = .ok (.iconst 2, 1) := by decide +kernel
theorem dL_law_398 : decode cL_law 398 = .ok (.iadd, 1) := by decide +kernel
theorem dL_law_399 : decode cL_law 399 = .ok (.iaload, 1) := by decide +kernel
theorem dL_law_400 : decode cL_law 400 = .ok (.ifCond .eq 7, 3) := by decide +kernel
theorem dL_law_403 : decode cL_law 403 = .ok (.iconst 1, 1) := by decide +kernel
theorem dL_law_404 : decode cL_law 404 = .ok (.goto 4, 3) := by decide +kernel
theorem dL_law_407 : decode cL_law 407 = .ok (.iconst 0, 1) := by decide +kernel
theorem dL_law_408 : decode cL_law 408 = .ok (.aload_n 0, 1) := by decide +kernel
theorem dL_law_409 : decode cL_law 409 = .ok (.iload_n 3, 1) := by decide +kernel
theorem dL_law_410 : decode cL_law 410 = .ok (.iconst 3, 1) := by decide +kernel
theorem dL_law_411 : decode cL_law 411 = .ok (.iadd, 1) := by decide +kernel
theorem dL_law_412 : decode cL_law 412 = .ok (.iaload, 1) := by decide +kernel
theorem dL_law_413 : decode cL_law 413 = .ok (.invokevirtual 47, 3) := by decide +kernel
theorem dL_law_416 : decode cL_law 416 = .ok (.aload_n 2, 1) := by decide +kernel
theorem dL_law_417 : decode cL_law 417 = .ok (.aload_n 0, 1) := by decide +kernel
theorem dL_law_418 : decode cL_law 418 = .ok (.iload_n 3, 1) := by decide +kernel
theorem dL_law_419 : decode cL_law 419 = .ok (.iconst 1, 1) := by decide +kernel
theorem dL_law_420 : decode cL_law 420 = .ok (.iadd, 1) := by decide +kernel
theorem dL_law_421 : decode cL_law 421 = .ok (.iaload, 1) := by decide +kernel
theorem dL_law_422 : decode cL_law 422 = .ok (.aload_n 0, 1) := by decide +kernel
theorem dL_law_423 : decode cL_law 423 = .ok (.iload_n 3, 1) := by decide +kernel
theorem dL_law_424 : decode cL_law 424 = .ok (.iconst 2, 1) := by decide +kernel
theorem dL_law_425 : decode cL_law 425 = .ok (.iadd, 1) := by decide +kernel
theorem dL_law_426 : decode cL_law 426 = .ok (.iaload, 1) := by decide +kernel
theorem dL_law_427 : decode cL_law 427 = .ok (.ifCond .eq 7, 3) := by decide +kernel
theorem dL_law_430 : decode cL_law 430 = .ok (.iconst 1, 1) := by decide +kernel
theorem dL_law_431 : decode cL_law 431 = .ok (.goto 4, 3) := by decide +kernel
theorem dL_law_434 : decode cL_law 434 = .ok (.iconst 0, 1) := by decide +kernel
theorem dL_law_435 : decode cL_law 435 = .ok (.aload_n 0, 1) := by decide +kernel
theorem dL_law_436 : decode cL_law 436 = .ok (.iload_n 3, 1) := by decide +kernel
theorem dL_law_437 : decode cL_law 437 = .ok (.iconst 3, 1) := by decide +kernel
theorem dL_law_438 : decode cL_law 438 = .ok (.iadd, 1) := by decide +kernel
theorem dL_law_439 : decode cL_law 439 = .ok (.iaload, 1) := by decide +kernel
theorem dL_law_440 : decode cL_law 440 = .ok (.invokevirtual 51, 3) := by decide +kernel
theorem dL_law_443 : decode cL_law 443 = .ok (.if_icmp .eq 644, 3) := by decide +kernel
theorem dL_law_446 : decode cL_law 446 = .ok (.iconst 0, 1) := by decide +kernel
theorem dL_law_447 : decode cL_law 447 = .ok (.ireturn, 1) := by decide +kernel
theorem dL_law_448 : decode cL_law 448 = .ok (.aload_n 1, 1) := by decide +kernel
theorem dL_law_449 : decode cL_law 449 = .ok (.aload_n 0, 1) := by decide +kernel
theorem dL_law_450 : decode cL_law 450 = .ok (.iload_n 3, 1) := by decide +kernel
theorem dL_law_451 : decode cL_law 451 = .ok (.iconst 1, 1) := by decide +kernel
theorem dL_law_452 : decode cL_law 452 = .ok (.iadd, 1) := by decide +kernel
theorem dL_law_453 : decode cL_law 453 = .ok (.iaload, 1) := by decide +kernel
theorem dL_law_454 : decode cL_law 454 = .ok (.aload_n 0, 1) := by decide +kernel
theorem dL_law_455 : decode cL_law 455 = .ok (.iload_n 3, 1) := by decide +kernel
theorem dL_law_456 : decode cL_law 456 = .ok (.iconst 2, 1) := by decide +kernel
theorem dL_law_457 : decode cL_law 457 = .ok (.iadd, 1) := by decide +kernel
theorem dL_law_458 : decode cL_law 458 = .ok (.iaload, 1) := by decide +kernel
theorem dL_law_459 : decode cL_law 459 = .ok (.invokevirtual 52, 3) := by decide +kernel
theorem dL_law_462 : decode cL_law 462 = .ok (.aload_n 2, 1) := by decide +kernel
theorem dL_law_463 : decode cL_law 463 = .ok (.aload_n 0, 1) := by decide +kernel
theorem dL_law_464 : decode cL_law 464 = .ok (.iload_n 3, 1) := by decide +kernel
theorem dL_law_465 : decode cL_law 465 = .ok (.iconst 1, 1) := by decide +kernel
theorem dL_law_466 : decode cL_law 466 = .ok (.iadd, 1) := by decide +kernel
theorem dL_law_467 : decode cL_law 467 = .ok (.iaload, 1) := by decide +kernel
theorem dL_law_468 : decode cL_law 468 = .ok (.aload_n 0, 1) := by decide +kernel
theorem dL_law_469 : decode cL_law 469 = .ok (.iload_n 3, 1) := by decide +kernel
theorem dL_law_470 : decode cL_law 470 = .ok (.iconst 2, 1) := by decide +kernel
theorem dL_law_471 : decode cL_law 471 = .ok (.iadd, 1) := by decide +kernel
theorem dL_law_472 : decode cL_law 472 = .ok (.iaload, 1) := by decide +kernel
theorem dL_law_473 : decode cL_law 473 = .ok (.invokevirtual 55, 3) := by decide +kernel
theorem dL_law_476 : decode cL_law 476 = .ok (.if_icmp .eq 611, 3) := by decide +kernel
theorem dL_law_479 : decode cL_law 479 = .ok (.iconst 0, 1) := by decide +kernel
theorem dL_law_480 : decode cL_law 480 = .ok (.ireturn, 1) := by decide +kernel
theorem dL_law_481 : decode cL_law 481 = .ok (.aload_n 1, 1) := by decide +kernel
theorem dL_law_482 : decode cL_law 482 = .ok (.aload_n 0, 1) := by decide +kernel
theorem dL_law_483 : decode cL_law 483 = .ok (.iload_n 3, 1) := by decide +kernel
theorem dL_law_484 : decode cL_law 484 = .ok (.iconst 1, 1) := by decide +kernel
theorem dL_law_485 : decode cL_law 485 = .ok (.iadd, 1) := by decide +kernel
theorem dL_law_486 : decode cL_law 486 = .ok (.iaload, 1) := by decide +kernel
theorem dL_law_487 : decode cL_law 487 = .ok (.aload_n 0, 1) := by decide +kernel
theorem dL_law_488 : decode cL_law 488 = .ok (.iload_n 3, 1) := by decide +kernel
theorem dL_law_489 : decode cL_law 489 = .ok (.iconst 2, 1) := by decide +kernel
theorem dL_law_490 : decode cL_law 490 = .ok (.iadd, 1) := by decide +kernel
theorem dL_law_491 : decode cL_law 491 = .ok (.iaload, 1) := by decide +kernel
theorem dL_law_492 : decode cL_law 492 = .ok (.invokevirtual 56, 3) := by decide +kernel
theorem dL_law_495 : decode cL_law 495 = .ok (.aload_n 2, 1) := by decide +kernel
theorem dL_law_496 : decode cL_law 496 = .ok (.aload_n 0, 1) := by decide +kernel
theorem dL_law_497 : decode cL_law 497 = .ok (.iload_n 3, 1) := by decide +kernel
theorem dL_law_498 : decode cL_law 498 = .ok (.iconst 1, 1) := by decide +kernel
theorem dL_law_499 : decode cL_law 499 = .ok (.iadd, 1) := by decide +kernel
theorem dL_law_500 : decode cL_law 500 = .ok (.iaload, 1) := by decide +kernel
theorem dL_law_501 : decode cL_law 501 = .ok (.aload_n 0, 1) := by decide +kernel
theorem dL_law_502 : decode cL_law 502 = .ok (.iload_n 3, 1) := by decide +kernel
theorem dL_law_503 : decode cL_law 503 = .ok (.iconst 2, 1) := by decide +kernel
theorem dL_law_504 : decode cL_law 504 = .ok (.iadd, 1) := by decide +kernel
theorem dL_law_505 : decode cL_law 505 = .ok (.iaload, 1) := by decide +kernel
theorem dL_law_506 : decode cL_law 506 = .ok (.invokevirtual 59, 3) := by decide +kernel
theorem dL_law_509 : decode cL_law 509 = .ok (.if_icmp .eq 578, 3) := by decide +kernel
theorem dL_law_512 : decode cL_law 512 = .ok (.iconst 0, 1) := by decide +kernel
theorem dL_law_513 : decode cL_law 513 = .ok (.ireturn, 1) := by decide +kernel
theorem dL_law_514 : decode cL_law 514 = .ok (.aload_n 1, 1) := by decide +kernel
theorem dL_law_515 : decode cL_law 515 = .ok (.aload_n 0, 1) := by decide +kernel
theorem dL_law_516 : decode cL_law 516 = .ok (.iload_n 3, 1) := by decide +kernel
theorem dL_law_517 : decode cL_law 517 = .ok (.iconst 1, 1) := by decide +kernel
theorem dL_law_518 : decode cL_law 518 = .ok (.iadd, 1) := by decide +kernel
theorem dL_law_519 : decode cL_law 519 = .ok (.iaload, 1) := by decide +kernel
theorem dL_law_520 : decode cL_law 520 = .ok (.invokevirtual 60, 3) := by decide +kernel
theorem dL_law_523 : decode cL_law 523 = .ok (.aload_n 2, 1) := by decide +kernel
theorem dL_law_524 : decode cL_law 524 = .ok (.aload_n 0, 1) := by decide +kernel
theorem dL_law_525 : decode cL_law 525 = .ok (.iload_n 3, 1) := by decide +kernel
theorem dL_law_526 : decode cL_law 526 = .ok (.iconst 1, 1) := by decide +kernel
theorem dL_law_527 : decode cL_law 527 = .ok (.iadd, 1) := by decide +kernel
theorem dL_law_528 : decode cL_law 528 = .ok (.iaload, 1) := by decide +kernel
theorem dL_law_529 : decode cL_law 529 = .ok (.invokevirtual 63, 3) := by decide +kernel
theorem dL_law_532 : decode cL_law 532 = .ok (.if_icmp .eq 555, 3) := by decide +kernel
theorem dL_law_535 : decode cL_law 535 = .ok (.iconst 0, 1) := by decide +kernel
theorem dL_law_536 : decode cL_law 536 = .ok (.ireturn, 1) := by decide +kernel
theorem dL_law_537 : decode cL_law 537 = .ok (.aload_n 1, 1) := by decide +kernel
theorem dL_law_538 : decode cL_law 538 = .ok (.aload_n 0, 1) := by decide +kernel
theorem dL_law_539 : decode cL_law 539 = .ok (.iload_n 3, 1) := by decide +kernel
theorem dL_law_540 : decode cL_law 540 = .ok (.iconst 1, 1) := by decide +kernel
theorem dL_law_541 : decode cL_law 541 = .ok (.iadd, 1) := by decide +kernel
theorem dL_law_542 : decode cL_law 542 = .ok (.iaload, 1) := by decide +kernel
theorem dL_law_543 : decode cL_law 543 = .ok (.aload_n 0, 1) := by decide +kernel
theorem dL_law_544 : decode cL_law 544 = .ok (.iload_n 3, 1) := by decide +kernel
theorem dL_law_545 : decode cL_law 545 = .ok (.iconst 2, 1) := by decide +kernel
theorem dL_law_546 : decode cL_law 546 = .ok (.iadd, 1) := by decide +kernel
theorem dL_law_547 : decode cL_law 547 = .ok (.iaload, 1) := by decide +kernel
theorem dL_law_548 : decode cL_law 548 = .ok (.aload_n 0, 1) := by decide +kernel
theorem dL_law_549 : decode cL_law 549 = .ok (.iload_n 3, 1) := by decide +kernel
theorem dL_law_550 : decode cL_law 550 = .ok (.iconst 3, 1) := by decide +kernel
theorem dL_law_551 : decode cL_law 551 = .ok (.iadd, 1) := by decide +kernel
theorem dL_law_552 : decode cL_law 552 = .ok (.iaload, 1) := by decide +kernel
theorem dL_law_553 : decode cL_law 553 = .ok (.invokevirtual 64, 3) := by decide +kernel
theorem dL_law_556 : decode cL_law 556 = .ok (.aload_n 2, 1) := by decide +kernel
theorem dL_law_557 : decode cL_law 557 = .ok (.aload_n 0, 1) := by decide +kernel
theorem dL_law_558 : decode cL_law 558 = .ok (.iload_n 3, 1) := by decide +kernel
theorem dL_law_559 : decode cL_law 559 = .ok (.iconst 1, 1) := by decide +kernel
theorem dL_law_560 : decode cL_law 560 = .ok (.iadd, 1) := by decide +kernel
theorem dL_law_561 : decode cL_law 561 = .ok (.iaload, 1) := by decide +kernel
theorem dL_law_562 : decode cL_law 562 = .ok (.aload_n 0, 1) := by decide +kernel
theorem dL_law_563 : decode cL_law 563 = .ok (.iload_n 3, 1) := by decide +kernel
theorem dL_law_564 : decode cL_law 564 = .ok (.iconst 2, 1) := by decide +kernel
theorem dL_law_565 : decode cL_law 565 = .ok (.iadd, 1) := by decide +kernel
theorem dL_law_566 : decode cL_law 566 = .ok (.iaload, 1) := by decide +kernel
theorem dL_law_567 : decode cL_law 567 = .ok (.aload_n 0, 1) := by decide +kernel
theorem dL_law_568 : decode cL_law 568 = .ok (.iload_n 3, 1) := by decide +kernel
theorem dL_law_569 : decode cL_law 569 = .ok (.iconst 3, 1) := by decide +kernel
theorem dL_law_570 : decode cL_law 570 = .ok (.iadd, 1) := by decide +kernel
theorem dL_law_571 : decode cL_law 571 = .ok (.iaload, 1) := by decide +kernel
theorem dL_law_572 : decode cL_law 572 = .ok (.invokevirtual 67, 3) := by decide +kernel
theorem dL_law_575 : decode cL_law 575 = .ok (.if_icmp .eq 512, 3) := by decide +kernel
theorem dL_law_578 : decode cL_law 578 = .ok (.iconst 0, 1) := by decide +kernel
theorem dL_law_579 : decode cL_law 579 = .ok (.ireturn, 1) := by decide +kernel
theorem dL_law_580 : decode cL_law 580 = .ok (.aload_n 1, 1) := by decide +kernel
theorem dL_law_581 : decode cL_law 581 = .ok (.aload_n 0, 1) := by decide +kernel
theorem dL_law_582 : decode cL_law 582 = .ok (.iload_n 3, 1) := by decide +kernel
theorem dL_law_583 : decode cL_law 583 = .ok (.iconst 1, 1) := by decide +kernel
theorem dL_law_584 : decode cL_law 584 = .ok (.iadd, 1) := by decide +kernel
theorem dL_law_585 : decode cL_law 585 = .ok (.iaload, 1) := by decide +kernel
theorem dL_law_586 : decode cL_law 586 = .ok (.invokevirtual 68, 3) := by decide +kernel
theorem dL_law_589 : decode cL_law 589 = .ok (.aload_n 2, 1) := by decide +kernel
theorem dL_law_590 : decode cL_law 590 = .ok (.aload_n 0, 1) := by decide +kernel
theorem dL_law_591 : decode cL_law 591 = .ok (.iload_n 3, 1) := by decide +kernel
theorem dL_law_592 : decode cL_law 592 = .ok (.iconst 1, 1) := by decide +kernel
theorem dL_law_593 : decode cL_law 593 = .ok (.iadd, 1) := by decide +kernel
theorem dL_law_594 : decode cL_law 594 = .ok (.iaload, 1) := by decide +kernel
theorem dL_law_595 : decode cL_law 595 = .ok (.invokevirtual 72, 3) := by decide +kernel
theorem dL_law_598 : decode cL_law 598 = .ok (.if_icmp .eq 489, 3) := by decide +kernel
theorem dL_law_601 : decode cL_law 601 = .ok (.iconst 0, 1) := by decide +kernel
theorem dL_law_602 : decode cL_law 602 = .ok (.ireturn, 1) := by decide +kernel
theorem dL_law_603 : decode cL_law 603 = .ok (.aload_n 1, 1) := by decide +kernel
theorem dL_law_604 : decode cL_law 604 = .ok (.aload_n 0, 1) := by decide +kernel
theorem dL_law_605 : decode cL_law 605 = .ok (.iload_n 3, 1) := by decide +kernel
theorem dL_law_606 : decode cL_law 606 = .ok (.iconst 1, 1) := by decide +kernel
theorem dL_law_607 : decode cL_law 607 = .ok (.iadd, 1) := by decide +kernel
theorem dL_law_608 : decode cL_law 608 = .ok (.iaload, 1) := by decide +kernel
theorem dL_law_609 : decode cL_law 609 = .ok (.aload_n 0, 1) := by decide +kernel
theorem dL_law_610 : decode cL_law 610 = .ok (.iload_n 3, 1) := by decide +kernel
theorem dL_law_611 : decode cL_law 611 = .ok (.iconst 2, 1) := by decide +kernel
theorem dL_law_612 : decode cL_law 612 = .ok (.iadd, 1) := by decide +kernel
theorem dL_law_613 : decode cL_law 613 = .ok (.iaload, 1) := by decide +kernel
theorem dL_law_614 : decode cL_law 614 = .ok (.aload_n 0, 1) := by decide +kernel
theorem dL_law_615 : decode cL_law 615 = .ok (.iload_n 3, 1) := by decide +kernel
theorem dL_law_616 : decode cL_law 616 = .ok (.iconst 3, 1) := by decide +kernel
theorem dL_law_617 : decode cL_law 617 = .ok (.iadd, 1) := by decide +kernel
theorem dL_law_618 : decode cL_law 618 = .ok (.iaload, 1) := by decide +kernel
theorem dL_law_619 : decode cL_law 619 = .ok (.ifCond .eq 7, 3) := by decide +kernel
theorem dL_law_622 : decode cL_law 622 = .ok (.iconst 1, 1) := by decide +kernel
theorem dL_law_623 : decode cL_law 623 = .ok (.goto 4, 3) := by decide +kernel
theorem dL_law_626 : decode cL_law 626 = .ok (.iconst 0, 1) := by decide +kernel
theorem dL_law_627 : decode cL_law 627 = .ok (.invokevirtual 73, 3) := by decide +kernel
theorem dL_law_630 : decode cL_law 630 = .ok (.aload_n 2, 1) := by decide +kernel
theorem dL_law_631 : decode cL_law 631 = .ok (.aload_n 0, 1) := by decide +kernel
theorem dL_law_632 : decode cL_law 632 = .ok (.iload_n 3, 1) := by decide +kernel
theorem dL_law_633 : decode cL_law 633 = .ok (.iconst 1, 1) := by decide +kernel
theorem dL_law_634 : decode cL_law 634 = .ok (.iadd, 1) := by decide +kernel
theorem dL_law_635 : decode cL_law 635 = .ok (.iaload, 1) := by decide +kernel
theorem dL_law_636 : decode cL_law 636 = .ok (.aload_n 0, 1) := by decide +kernel
theorem dL_law_637 : decode cL_law 637 = .ok (.iload_n 3, 1) := by decide +kernel
theorem dL_law_638 : decode cL_law 638 = .ok (.iconst 2, 1) := by decide +kernel
theorem dL_law_639 : decode cL_law 639 = .ok (.iadd, 1) := by decide +kernel
theorem dL_law_640 : decode cL_law 640 = .ok (.iaload, 1) := by decide +kernel
theorem dL_law_641 : decode cL_law 641 = .ok (.aload_n 0, 1) := by decide +kernel
theorem dL_law_642 : decode cL_law 642 = .ok (.iload_n 3, 1) := by decide +kernel
theorem dL_law_643 : decode cL_law 643 = .ok (.iconst 3, 1) := by decide +kernel
theorem dL_law_644 : decode cL_law 644 = .ok (.iadd, 1) := by decide +kernel
theorem dL_law_645 : decode cL_law 645 = .ok (.iaload, 1) := by decide +kernel
theorem dL_law_646 : decode cL_law 646 = .ok (.ifCond .eq 7, 3) := by decide +kernel
theorem dL_law_649 : decode cL_law 649 = .ok (.iconst 1, 1) := by decide +kernel
theorem dL_law_650 : decode cL_law 650 = .ok (.goto 4, 3) := by decide +kernel
theorem dL_law_653 : decode cL_law 653 = .ok (.iconst 0, 1) := by decide +kernel
theorem dL_law_654 : decode cL_law 654 = .ok (.invokevirtual 77, 3) := by decide +kernel
theorem dL_law_657 : decode cL_law 657 = .ok (.if_icmp .eq 430, 3) := by decide +kernel
theorem dL_law_660 : decode cL_law 660 = .ok (.iconst 0, 1) := by decide +kernel
theorem dL_law_661 : decode cL_law 661 = .ok (.ireturn, 1) := by decide +kernel
theorem dL_law_662 : decode cL_law 662 = .ok (.aload_n 1, 1) := by decide +kernel
theorem dL_law_663 : decode cL_law 663 = .ok (.aload_n 0, 1) := by decide +kernel
theorem dL_law_664 : decode cL_law 664 = .ok (.iload_n 3, 1) := by decide +kernel
theorem dL_law_665 : decode cL_law 665 = .ok (.iconst 1, 1) := by decide +kernel
theorem dL_law_666 : decode cL_law 666 = .ok (.iadd, 1) := by decide +kernel
theorem dL_law_667 : decode cL_law 667 = .ok (.iaload, 1) := by decide +kernel
theorem dL_law_668 : decode cL_law 668 = .ok (.aload_n 0, 1) := by decide +kernel
theorem dL_law_669 : decode cL_law 669 = .ok (.iload_n 3, 1) := by decide +kernel
theorem dL_law_670 : decode cL_law 670 = .ok (.iconst 2, 1) := by decide +kernel
theorem dL_law_671 : decode cL_law 671 = .ok (.iadd, 1) := by decide +kernel
theorem dL_law_672 : decode cL_law 672 = .ok (.iaload, 1) := by decide +kernel
theorem dL_law_673 : decode cL_law 673 = .ok (.invokevirtual 78, 3) := by decide +kernel
theorem dL_law_676 : decode cL_law 676 = .ok (.aload_n 2, 1) := by decide +kernel
theorem dL_law_677 : decode cL_law 677 = .ok (.aload_n 0, 1) := by decide +kernel
theorem dL_law_678 : decode cL_law 678 = .ok (.iload_n 3, 1) := by decide +kernel
theorem dL_law_679 : decode cL_law 679 = .ok (.iconst 1, 1) := by decide +kernel
theorem dL_law_680 : decode cL_law 680 = .ok (.iadd, 1) := by decide +kernel
theorem dL_law_681 : decode cL_law 681 = .ok (.iaload, 1) := by decide +kernel
theorem dL_law_682 : decode cL_law 682 = .ok (.aload_n 0, 1) := by decide +kernel
theorem dL_law_683 : decode cL_law 683 = .ok (.iload_n 3, 1) := by decide +kernel
theorem dL_law_684 : decode cL_law 684 = .ok (.iconst 2, 1) := by decide +kernel
theorem dL_law_685 : decode cL_law 685 = .ok (.iadd, 1) := by decide +kernel
theorem dL_law_686 : decode cL_law 686 = .ok (.iaload, 1) := by decide +kernel
theorem dL_law_687 : decode cL_law 687 = .ok (.invokevirtual 81, 3) := by decide +kernel
theorem dL_law_690 : decode cL_law 690 = .ok (.if_icmp .eq 397, 3) := by decide +kernel
theorem dL_law_693 : decode cL_law 693 = .ok (.iconst 0, 1) := by decide +kernel
theorem dL_law_694 : decode cL_law 694 = .ok (.ireturn, 1) := by decide +kernel
theorem dL_law_695 : decode cL_law 695 = .ok (.aload_n 1, 1) := by decide +kernel
theorem dL_law_696 : decode cL_law 696 = .ok (.aload_n 0, 1) := by decide +kernel
theorem dL_law_697 : decode cL_law 697 = .ok (.iload_n 3, 1) := by decide +kernel
theorem dL_law_698 : decode cL_law 698 = .ok (.iconst 1, 1) := by decide +kernel
theorem dL_law_699 : decode cL_law 699 = .ok (.iadd, 1) := by decide +kernel
theorem dL_law_700 : decode cL_law 700 = .ok (.iaload, 1) := by decide +kernel
theorem dL_law_701 : decode cL_law 701 = .ok (.aload_n 0, 1) := by decide +kernel
theorem dL_law_702 : decode cL_law 702 = .ok (.iload_n 3, 1) := by decide +kernel
theorem dL_law_703 : decode cL_law 703 = .ok (.iconst 2, 1) := by decide +kernel
theorem dL_law_704 : decode cL_law 704 = .ok (.iadd, 1) := by decide +kernel
theorem dL_law_705 : decode cL_law 705 = .ok (.iaload, 1) := by decide +kernel
theorem dL_law_706 : decode cL_law 706 = .ok (.invokevirtual 82, 3) := by decide +kernel
theorem dL_law_709 : decode cL_law 709 = .ok (.aload_n 2, 1) := by decide +kernel
theorem dL_law_710 : decode cL_law 710 = .ok (.aload_n 0, 1) := by decide +kernel
theorem dL_law_711 : decode cL_law 711 = .ok (.iload_n 3, 1) := by decide +kernel
theorem dL_law_712 : decode cL_law 712 = .ok (.iconst 1, 1) := by decide +kernel
theorem dL_law_713 : decode cL_law 713 = .ok (.iadd, 1) := by decide +kernel
theorem dL_law_714 : decode cL_law 714 = .ok (.iaload, 1) := by decide +kernel
theorem dL_law_715 : decode cL_law 715 = .ok (.aload_n 0, 1) := by decide +kernel
theorem dL_law_716 : decode cL_law 716 = .ok (.iload_n 3, 1) := by decide +kernel
theorem dL_law_717 : decode cL_law 717 = .ok (.iconst 2, 1) := by decide +kernel
theorem dL_law_718 : decode cL_law 718 = .ok (.iadd, 1) := by decide +kernel
theorem dL_law_719 : decode cL_law 719 = .ok (.iaload, 1) := by decide +kernel
theorem dL_law_720 : decode cL_law 720 = .ok (.invokevirtual 85, 3) := by decide +kernel
theorem dL_law_723 : decode cL_law 723 = .ok (.if_icmp .eq 364, 3) := by decide +kernel
theorem dL_law_726 : decode cL_law 726 = .ok (.iconst 0, 1) := by decide +kernel
theorem dL_law_727 : decode cL_law 727 = .ok (.ireturn, 1) := by decide +kernel
theorem dL_law_728 : decode cL_law 728 = .ok (.aload_n 1, 1) := by decide +kernel
theorem dL_law_729 : decode cL_law 729 = .ok (.aload_n 0, 1) := by decide +kernel
theorem dL_law_730 : decode cL_law 730 = .ok (.iload_n 3, 1) := by decide +kernel
theorem dL_law_731 : decode cL_law 731 = .ok (.iconst 1, 1) := by decide +kernel
theorem dL_law_732 : decode cL_law 732 = .ok (.iadd, 1) := by decide +kernel
theorem dL_law_733 : decode cL_law 733 = .ok (.iaload, 1) := by decide +kernel
theorem dL_law_734 : decode cL_law 734 = .ok (.aload_n 0, 1) := by decide +kernel
theorem dL_law_735 : decode cL_law 735 = .ok (.iload_n 3, 1) := by decide +kernel
theorem dL_law_736 : decode cL_law 736 = .ok (.iconst 2, 1) := by decide +kernel
theorem dL_law_737 : decode cL_law 737 = .ok (.iadd, 1) := by decide +kernel
theorem dL_law_738 : decode cL_law 738 = .ok (.iaload, 1) := by decide +kernel
theorem dL_law_739 : decode cL_law 739 = .ok (.invokevirtual 86, 3) := by decide +kernel
theorem dL_law_742 : decode cL_law 742 = .ok (.aload_n 2, 1) := by decide +kernel
theorem dL_law_743 : decode cL_law 743 = .ok (.aload_n 0, 1) := by decide +kernel
theorem dL_law_744 : decode cL_law 744 = .ok (.iload_n 3, 1) := by decide +kernel
theorem dL_law_745 : decode cL_law 745 = .ok (.iconst 1, 1) := by decide +kernel
theorem dL_law_746 : decode cL_law 746 = .ok (.iadd, 1) := by decide +kernel
theorem dL_law_747 : decode cL_law 747 = .ok (.iaload, 1) := by decide +kernel
theorem dL_law_748 : decode cL_law 748 = .ok (.aload_n 0, 1) := by decide +kernel
theorem dL_law_749 : decode cL_law 749 = .ok (.iload_n 3, 1) := by decide +kernel
theorem dL_law_750 : decode cL_law 750 = .ok (.iconst 2, 1) := by decide +kernel
theorem dL_law_751 : decode cL_law 751 = .ok (.iadd, 1) := by decide +kernel
theorem dL_law_752 : decode cL_law 752 = .ok (.iaload, 1) := by decide +kernel
theorem dL_law_753 : decode cL_law 753 = .ok (.invokevirtual 89, 3) := by decide +kernel
theorem dL_law_756 : decode cL_law 756 = .ok (.if_icmp .eq 331, 3) := by decide +kernel
theorem dL_law_759 : decode cL_law 759 = .ok (.iconst 0, 1) := by decide +kernel
theorem dL_law_760 : decode cL_law 760 = .ok (.ireturn, 1) := by decide +kernel
theorem dL_law_761 : decode cL_law 761 = .ok (.aload_n 1, 1) := by decide +kernel
theorem dL_law_762 : decode cL_law 762 = .ok (.aload_n 0, 1) := by decide +kernel
theorem dL_law_763 : decode cL_law 763 = .ok (.iload_n 3, 1) := by decide +kernel
theorem dL_law_764 : decode cL_law 764 = .ok (.iconst 1, 1) := by decide +kernel
theorem dL_law_765 : decode cL_law 765 = .ok (.iadd, 1) := by decide +kernel
theorem dL_law_766 : decode cL_law 766 = .ok (.iaload, 1) := by decide +kernel
theorem dL_law_767 : decode cL_law 767 = .ok (.aload_n 0, 1) := by decide +kernel
theorem dL_law_768 : decode cL_law 768 = .ok (.iload_n 3, 1) := by decide +kernel
theorem dL_law_769 : decode cL_law 769 = .ok (.iconst 2, 1) := by decide +kernel
theorem dL_law_770 : decode cL_law 770 = .ok (.iadd, 1) := by decide +kernel
theorem dL_law_771 : decode cL_law 771 = .ok (.iaload, 1) := by decide +kernel
theorem dL_law_772 : decode cL_law 772 = .ok (.invokevirtual 90, 3) := by decide +kernel
theorem dL_law_775 : decode cL_law 775 = .ok (.aload_n 2, 1) := by decide +kernel
theorem dL_law_776 : decode cL_law 776 = .ok (.aload_n 0, 1) := by decide +kernel
theorem dL_law_777 : decode cL_law 777 = .ok (.iload_n 3, 1) := by decide +kernel
theorem dL_law_778 : decode cL_law 778 = .ok (.iconst 1, 1) := by decide +kernel
theorem dL_law_779 : decode cL_law 779 = .ok (.iadd, 1) := by decide +kernel
theorem dL_law_780 : decode cL_law 780 = .ok (.iaload, 1) := by decide +kernel
theorem dL_law_781 : decode cL_law 781 = .ok (.aload_n 0, 1) := by decide +kernel
theorem dL_law_782 : decode cL_law 782 = .ok (.iload_n 3, 1) := by decide +kernel
theorem dL_law_783 : decode cL_law 783 = .ok (.iconst 2, 1) := by decide +kernel
theorem dL_law_784 : decode cL_law 784 = .ok (.iadd, 1) := by decide +kernel
theorem dL_law_785 : decode cL_law 785 = .ok (.iaload, 1) := by decide +kernel
theorem dL_law_786 : decode cL_law 786 = .ok (.invokevirtual 93, 3) := by decide +kernel
theorem dL_law_789 : decode cL_law 789 = .ok (.if_icmp .eq 298, 3) := by decide +kernel
theorem dL_law_792 : decode cL_law 792 = .ok (.iconst 0, 1) := by decide +kernel
theorem dL_law_793 : decode cL_law 793 = .ok (.ireturn, 1) := by decide +kernel
theorem dL_law_794 : decode cL_law 794 = .ok (.aload_n 1, 1) := by decide +kernel
theorem dL_law_795 : decode cL_law 795 = .ok (.aload_n 0, 1) := by decide +kernel
theorem dL_law_796 : decode cL_law 796 = .ok (.iload_n 3, 1) := by decide +kernel
theorem dL_law_797 : decode cL_law 797 = .ok (.iconst 1, 1) := by decide +kernel
theorem dL_law_798 : decode cL_law 798 = .ok (.iadd, 1) := by decide +kernel
theorem dL_law_799 : decode cL_law 799 = .ok (.iaload, 1) := by decide +kernel
theorem dL_law_800 : decode cL_law 800 = .ok (.aload_n 0, 1) := by decide +kernel
theorem dL_law_801 : decode cL_law 801 = .ok (.iload_n 3, 1) := by decide +kernel
theorem dL_law_802 : decode cL_law 802 = .ok (.iconst 2, 1) := by decide +kernel
theorem dL_law_803 : decode cL_law 803 = .ok (.iadd, 1) := by decide +kernel
theorem dL_law_804 : decode cL_law 804 = .ok (.iaload, 1) := by decide +kernel
theorem dL_law_805 : decode cL_law 805 = .ok (.invokevirtual 94, 3) := by decide +kernel
theorem dL_law_808 : decode cL_law 808 = .ok (.aload_n 2, 1) := by decide +kernel
theorem dL_law_809 : decode cL_law 809 = .ok (.aload_n 0, 1) := by decide +kernel
theorem dL_law_810 : decode cL_law 810 = .ok (.iload_n 3, 1) := by decide +kernel
theorem dL_law_811 : decode cL_law 811 = .ok (.iconst 1, 1) := by decide +kernel
theorem dL_law_812 : decode cL_law 812 = .ok (.iadd, 1) := by decide +kernel
theorem dL_law_813 : decode cL_law 813 = .ok (.iaload, 1) := by decide +kernel
theorem dL_law_814 : decode cL_law 814 = .ok (.aload_n 0, 1) := by decide +kernel
theorem dL_law_815 : decode cL_law 815 = .ok (.iload_n 3, 1) := by decide +kernel
theorem dL_law_816 : decode cL_law 816 = .ok (.iconst 2, 1) := by decide +kernel
theorem dL_law_817 : decode cL_law 817 = .ok (.iadd, 1) := by decide +kernel
theorem dL_law_818 : decode cL_law 818 = .ok (.iaload, 1) := by decide +kernel
theorem dL_law_819 : decode cL_law 819 = .ok (.invokevirtual 97, 3) := by decide +kernel
theorem dL_law_822 : decode cL_law 822 = .ok (.if_icmp .eq 265, 3) := by decide +kernel
theorem dL_law_825 : decode cL_law 825 = .ok (.iconst 0, 1) := by decide +kernel
theorem dL_law_826 : decode cL_law 826 = .ok (.ireturn, 1) := by decide +kernel
theorem dL_law_827 : decode cL_law 827 = .ok (.aload_n 1, 1) := by decide +kernel
theorem dL_law_828 : decode cL_law 828 = .ok (.aload_n 0, 1) := by decide +kernel
theorem dL_law_829 : decode cL_law 829 = .ok (.iload_n 3, 1) := by decide +kernel
theorem dL_law_830 : decode cL_law 830 = .ok (.iconst 1, 1) := by decide +kernel
theorem dL_law_831 : decode cL_law 831 = .ok (.iadd, 1) := by decide +kernel
theorem dL_law_832 : decode cL_law 832 = .ok (.iaload, 1) := by decide +kernel
theorem dL_law_833 : decode cL_law 833 = .ok (.aload_n 0, 1) := by decide +kernel
theorem dL_law_834 : decode cL_law 834 = .ok (.iload_n 3, 1) := by decide +kernel
theorem dL_law_835 : decode cL_law 835 = .ok (.iconst 2, 1) := by decide +kernel
theorem dL_law_836 : decode cL_law 836 = .ok (.iadd, 1) := by decide +kernel
theorem dL_law_837 : decode cL_law 837 = .ok (.iaload, 1) := by decide +kernel
theorem dL_law_838 : decode cL_law 838 = .ok (.aload_n 0, 1) := by decide +kernel
theorem dL_law_839 : decode cL_law 839 = .ok (.iload_n 3, 1) := by decide +kernel
theorem dL_law_840 : decode cL_law 840 = .ok (.iconst 3, 1) := by decide +kernel
theorem dL_law_841 : decode cL_law 841 = .ok (.iadd, 1) := by decide +kernel
theorem dL_law_842 : decode cL_law 842 = .ok (.iaload, 1) := by decide +kernel
theorem dL_law_843 : decode cL_law 843 = .ok (.invokevirtual 98, 3) := by decide +kernel
theorem dL_law_846 : decode cL_law 846 = .ok (.aload_n 2, 1) := by decide +kernel
theorem dL_law_847 : decode cL_law 847 = .ok (.aload_n 0, 1) := by decide +kernel
theorem dL_law_848 : decode cL_law 848 = .ok (.iload_n 3, 1) := by decide +kernel
theorem dL_law_849 : decode cL_law 849 = .ok (.iconst 1, 1) := by decide +kernel
theorem dL_law_850 : decode cL_law 850 = .ok (.iadd, 1) := by decide +kernel
theorem dL_law_851 : decode cL_law 851 = .ok (.iaload, 1) := by decide +kernel
theorem dL_law_852 : decode cL_law 852 = .ok (.aload_n 0, 1) := by decide +kernel
theorem dL_law_853 : decode cL_law 853 = .ok (.iload_n 3, 1) := by decide +kernel
theorem dL_law_854 : decode cL_law 854 = .ok (.iconst 2, 1) := by decide +kernel
theorem dL_law_855 : decode cL_law 855 = .ok (.iadd, 1) := by decide +kernel
theorem dL_law_856 : decode cL_law 856 = .ok (.iaload, 1) := by decide +kernel
theorem dL_law_857 : decode cL_law 857 = .ok (.aload_n 0, 1) := by decide +kernel
theorem dL_law_858 : decode cL_law 858 = .ok (.iload_n 3, 1) := by decide +kernel
theorem dL_law_859 : decode cL_law 859 = .ok (.iconst 3, 1) := by decide +kernel
theorem dL_law_860 : decode cL_law 860 = .ok (.iadd, 1) := by decide +kernel
theorem dL_law_861 : decode cL_law 861 = .ok (.iaload, 1) := by decide +kernel
theorem dL_law_862 : decode cL_law 862 = .ok (.invokevirtual 102, 3) := by decide +kernel
theorem dL_law_865 : decode cL_law 865 = .ok (.if_icmp .eq 222, 3) := by decide +kernel
theorem dL_law_868 : decode cL_law 868 = .ok (.iconst 0, 1) := by decide +kernel
theorem dL_law_869 : decode cL_law 869 = .ok (.ireturn, 1) := by decide +kernel
theorem dL_law_870 : decode cL_law 870 = .ok (.aload_n 1, 1) := by decide +kernel
theorem dL_law_871 : decode cL_law 871 = .ok (.aload_n 0, 1) := by decide +kernel
theorem dL_law_872 : decode cL_law 872 = .ok (.iload_n 3, 1) := by decide +kernel
theorem dL_law_873 : decode cL_law 873 = .ok (.iconst 1, 1) := by decide +kernel
theorem dL_law_874 : decode cL_law 874 = .ok (.iadd, 1) := by decide +kernel
theorem dL_law_875 : decode cL_law 875 = .ok (.iaload, 1) := by decide +kernel
theorem dL_law_876 : decode cL_law 876 = .ok (.aload_n 0, 1) := by decide +kernel
theorem dL_law_877 : decode cL_law 877 = .ok (.iload_n 3, 1) := by decide +kernel
theorem dL_law_878 : decode cL_law 878 = .ok (.iconst 2, 1) := by decide +kernel
theorem dL_law_879 : decode cL_law 879 = .ok (.iadd, 1) := by decide +kernel
theorem dL_law_880 : decode cL_law 880 = .ok (.iaload, 1) := by decide +kernel
theorem dL_law_881 : decode cL_law 881 = .ok (.invokevirtual 103, 3) := by decide +kernel
theorem dL_law_884 : decode cL_law 884 = .ok (.aload_n 2, 1) := by decide +kernel
theorem dL_law_885 : decode cL_law 885 = .ok (.aload_n 0, 1) := by decide +kernel
theorem dL_law_886 : decode cL_law 886 = .ok (.iload_n 3, 1) := by decide +kernel
theorem dL_law_887 : decode cL_law 887 = .ok (.iconst 1, 1) := by decide +kernel
theorem dL_law_888 : decode cL_law 888 = .ok (.iadd, 1) := by decide +kernel
theorem dL_law_889 : decode cL_law 889 = .ok (.iaload, 1) := by decide +kernel
theorem dL_law_890 : decode cL_law 890 = .ok (.aload_n 0, 1) := by decide +kernel
theorem dL_law_891 : decode cL_law 891 = .ok (.iload_n 3, 1) := by decide +kernel
theorem dL_law_892 : decode cL_law 892 = .ok (.iconst 2, 1) := by decide +kernel
theorem dL_law_893 : decode cL_law 893 = .ok (.iadd, 1) := by decide +kernel
theorem dL_law_894 : decode cL_law 894 = .ok (.iaload, 1) := by decide +kernel
theorem dL_law_895 : decode cL_law 895 = .ok (.invokevirtual 106, 3) := by decide +kernel
theorem dL_law_898 : decode cL_law 898 = .ok (.if_icmp .eq 189, 3) := by decide +kernel
theorem dL_law_901 : decode cL_law 901 = .ok (.iconst 0, 1) := by decide +kernel
theorem dL_law_902 : decode cL_law 902 = .ok (.ireturn, 1) := by decide +kernel
theorem dL_law_903 : decode cL_law 903 = .ok (.aload_n 1, 1) := by decide +kernel
theorem dL_law_904 : decode cL_law 904 = .ok (.aload_n 0, 1) := by decide +kernel
theorem dL_law_905 : decode cL_law 905 = .ok (.iload_n 3, 1) := by decide +kernel
theorem dL_law_906 : decode cL_law 906 = .ok (.iconst 1, 1) := by decide +kernel
theorem dL_law_907 : decode cL_law 907 = .ok (.iadd, 1) := by decide +kernel
theorem dL_law_908 : decode cL_law 908 = .ok (.iaload, 1) := by decide +kernel
theorem dL_law_909 : decode cL_law 909 = .ok (.invokevirtual 107, 3) := by decide +kernel
theorem dL_law_912 : decode cL_law 912 = .ok (.aload_n 2, 1) := by decide +kernel
theorem dL_law_913 : decode cL_law 913 = .ok (.aload_n 0, 1) := by decide +kernel
theorem dL_law_914 : decode cL_law 914 = .ok (.iload_n 3, 1) := by decide +kernel
theorem dL_law_915 : decode cL_law 915 = .ok (.iconst 1, 1) := by decide +kernel
theorem dL_law_916 : decode cL_law 916 = .ok (.iadd, 1) := by decide +kernel
theorem dL_law_917 : decode cL_law 917 = .ok (.iaload, 1) := by decide +kernel
theorem dL_law_918 : decode cL_law 918 = .ok (.invokevirtual 110, 3) := by decide +kernel
theorem dL_law_921 : decode cL_law 921 = .ok (.if_icmp .eq 166, 3) := by decide +kernel
theorem dL_law_924 : decode cL_law 924 = .ok (.iconst 0, 1) := by decide +kernel
theorem dL_law_925 : decode cL_law 925 = .ok (.ireturn, 1) := by decide +kernel
theorem dL_law_926 : decode cL_law 926 = .ok (.aload_n 1, 1) := by decide +kernel
theorem dL_law_927 : decode cL_law 927 = .ok (.aload_n 0, 1) := by decide +kernel
theorem dL_law_928 : decode cL_law 928 = .ok (.iload_n 3, 1) := by decide +kernel
theorem dL_law_929 : decode cL_law 929 = .ok (.iconst 1, 1) := by decide +kernel
theorem dL_law_930 : decode cL_law 930 = .ok (.iadd, 1) := by decide +kernel
theorem dL_law_931 : decode cL_law 931 = .ok (.iaload, 1) := by decide +kernel
theorem dL_law_932 : decode cL_law 932 = .ok (.aload_n 0, 1) := by decide +kernel
theorem dL_law_933 : decode cL_law 933 = .ok (.iload_n 3, 1) := by decide +kernel
theorem dL_law_934 : decode cL_law 934 = .ok (.iconst 2, 1) := by decide +kernel
theorem dL_law_935 : decode cL_law 935 = .ok (.iadd, 1) := by decide +kernel
theorem dL_law_936 : decode cL_law 936 = .ok (.iaload, 1) := by decide +kernel
theorem dL_law_937 : decode cL_law 937 = .ok (.aload_n 0, 1) := by decide +kernel
theorem dL_law_938 : decode cL_law 938 = .ok (.iload_n 3, 1) := by decide +kernel
theorem dL_law_939 : decode cL_law 939 = .ok (.iconst 3, 1) := by decide +kernel
theorem dL_law_940 : decode cL_law 940 = .ok (.iadd, 1) := by decide +kernel
theorem dL_law_941 : decode cL_law 941 = .ok (.iaload, 1) := by decide +kernel
theorem dL_law_942 : decode cL_law 942 = .ok (.invokevirtual 111, 3) := by decide +kernel
theorem dL_law_945 : decode cL_law 945 = .ok (.aload_n 2, 1) := by decide +kernel
theorem dL_law_946 : decode cL_law 946 = .ok (.aload_n 0, 1) := by decide +kernel
theorem dL_law_947 : decode cL_law 947 = .ok (.iload_n 3, 1) := by decide +kernel
theorem dL_law_948 : decode cL_law 948 = .ok (.iconst 1, 1) := by decide +kernel
theorem dL_law_949 : decode cL_law 949 = .ok (.iadd, 1) := by decide +kernel
theorem dL_law_950 : decode cL_law 950 = .ok (.iaload, 1) := by decide +kernel
theorem dL_law_951 : decode cL_law 951 = .ok (.aload_n 0, 1) := by decide +kernel
theorem dL_law_952 : decode cL_law 952 = .ok (.iload_n 3, 1) := by decide +kernel
theorem dL_law_953 : decode cL_law 953 = .ok (.iconst 2, 1) := by decide +kernel
theorem dL_law_954 : decode cL_law 954 = .ok (.iadd, 1) := by decide +kernel
theorem dL_law_955 : decode cL_law 955 = .ok (.iaload, 1) := by decide +kernel
theorem dL_law_956 : decode cL_law 956 = .ok (.aload_n 0, 1) := by decide +kernel
theorem dL_law_957 : decode cL_law 957 = .ok (.iload_n 3, 1) := by decide +kernel
theorem dL_law_958 : decode cL_law 958 = .ok (.iconst 3, 1) := by decide +kernel
theorem dL_law_959 : decode cL_law 959 = .ok (.iadd, 1) := by decide +kernel
theorem dL_law_960 : decode cL_law 960 = .ok (.iaload, 1) := by decide +kernel
theorem dL_law_961 : decode cL_law 961 = .ok (.invokevirtual 114, 3) := by decide +kernel
theorem dL_law_964 : decode cL_law 964 = .ok (.if_icmp .eq 123, 3) := by decide +kernel
theorem dL_law_967 : decode cL_law 967 = .ok (.iconst 0, 1) := by decide +kernel
theorem dL_law_968 : decode cL_law 968 = .ok (.ireturn, 1) := by decide +kernel
theorem dL_law_969 : decode cL_law 969 = .ok (.aload_n 1, 1) := by decide +kernel
theorem dL_law_970 : decode cL_law 970 = .ok (.aload_n 0, 1) := by decide +kernel
theorem dL_law_971 : decode cL_law 971 = .ok (.iload_n 3, 1) := by decide +kernel
theorem dL_law_972 : decode cL_law 972 = .ok (.iconst 1, 1) := by decide +kernel
theorem dL_law_973 : decode cL_law 973 = .ok (.iadd, 1) := by decide +kernel
theorem dL_law_974 : decode cL_law 974 = .ok (.iaload, 1) := by decide +kernel
theorem dL_law_975 : decode cL_law 975 = .ok (.aload_n 0, 1) := by decide +kernel
theorem dL_law_976 : decode cL_law 976 = .ok (.iload_n 3, 1) := by decide +kernel
theorem dL_law_977 : decode cL_law 977 = .ok (.iconst 2, 1) := by decide +kernel
theorem dL_law_978 : decode cL_law 978 = .ok (.iadd, 1) := by decide +kernel
theorem dL_law_979 : decode cL_law 979 = .ok (.iaload, 1) := by decide +kernel
theorem dL_law_980 : decode cL_law 980 = .ok (.aload_n 0, 1) := by decide +kernel
theorem dL_law_981 : decode cL_law 981 = .ok (.iload_n 3, 1) := by decide +kernel
theorem dL_law_982 : decode cL_law 982 = .ok (.iconst 3, 1) := by decide +kernel
theorem dL_law_983 : decode cL_law 983 = .ok (.iadd, 1) := by decide +kernel
theorem dL_law_984 : decode cL_law 984 = .ok (.iaload, 1) := by decide +kernel
theorem dL_law_985 : decode cL_law 985 = .ok (.invokevirtual 115, 3) := by decide +kernel
theorem dL_law_988 : decode cL_law 988 = .ok (.aload_n 2, 1) := by decide +kernel
theorem dL_law_989 : decode cL_law 989 = .ok (.aload_n 0, 1) := by decide +kernel
theorem dL_law_990 : decode cL_law 990 = .ok (.iload_n 3, 1) := by decide +kernel
theorem dL_law_991 : decode cL_law 991 = .ok (.iconst 1, 1) := by decide +kernel
theorem dL_law_992 : decode cL_law 992 = .ok (.iadd, 1) := by decide +kernel
theorem dL_law_993 : decode cL_law 993 = .ok (.iaload, 1) := by decide +kernel
theorem dL_law_994 : decode cL_law 994 = .ok (.aload_n 0, 1) := by decide +kernel
theorem dL_law_995 : decode cL_law 995 = .ok (.iload_n 3, 1) := by decide +kernel
theorem dL_law_996 : decode cL_law 996 = .ok (.iconst 2, 1) := by decide +kernel
theorem dL_law_997 : decode cL_law 997 = .ok (.iadd, 1) := by decide +kernel
theorem dL_law_998 : decode cL_law 998 = .ok (.iaload, 1) := by decide +kernel
theorem dL_law_999 : decode cL_law 999 = .ok (.aload_n 0, 1) := by decide +kernel
theorem dL_law_1000 : decode cL_law 1000 = .ok (.iload_n 3, 1) := by decide +kernel
theorem dL_law_1001 : decode cL_law 1001 = .ok (.iconst 3, 1) := by decide +kernel
theorem dL_law_1002 : decode cL_law 1002 = .ok (.iadd, 1) := by decide +kernel
theorem dL_law_1003 : decode cL_law 1003 = .ok (.iaload, 1) := by decide +kernel
theorem dL_law_1004 : decode cL_law 1004 = .ok (.invokevirtual 118, 3) := by decide +kernel
theorem dL_law_1007 : decode cL_law 1007 = .ok (.if_icmp .eq 80, 3) := by decide +kernel
theorem dL_law_1010 : decode cL_law 1010 = .ok (.iconst 0, 1) := by decide +kernel
theorem dL_law_1011 : decode cL_law 1011 = .ok (.ireturn, 1) := by decide +kernel
theorem dL_law_1012 : decode cL_law 1012 = .ok (.aload_n 1, 1) := by decide +kernel
theorem dL_law_1013 : decode cL_law 1013 = .ok (.aload_n 0, 1) := by decide +kernel
theorem dL_law_1014 : decode cL_law 1014 = .ok (.iload_n 3, 1) := by decide +kernel
theorem dL_law_1015 : decode cL_law 1015 = .ok (.iconst 1, 1) := by decide +kernel
theorem dL_law_1016 : decode cL_law 1016 = .ok (.iadd, 1) := by decide +kernel
theorem dL_law_1017 : decode cL_law 1017 = .ok (.iaload, 1) := by decide +kernel
theorem dL_law_1018 : decode cL_law 1018 = .ok (.aload_n 0, 1) := by decide +kernel
theorem dL_law_1019 : decode cL_law 1019 = .ok (.iload_n 3, 1) := by decide +kernel
theorem dL_law_1020 : decode cL_law 1020 = .ok (.iconst 2, 1) := by decide +kernel
theorem dL_law_1021 : decode cL_law 1021 = .ok (.iadd, 1) := by decide +kernel
theorem dL_law_1022 : decode cL_law 1022 = .ok (.iaload, 1) := by decide +kernel
theorem dL_law_1023 : decode cL_law 1023 = .ok (.aload_n 0, 1) := by decide +kernel
theorem dL_law_1024 : decode cL_law 1024 = .ok (.iload_n 3, 1) := by decide +kernel
theorem dL_law_1025 : decode cL_law 1025 = .ok (.iconst 3, 1) := by decide +kernel
theorem dL_law_1026 : decode cL_law 1026 = .ok (.iadd, 1) := by decide +kernel
theorem dL_law_1027 : decode cL_law 1027 = .ok (.iaload, 1) := by decide +kernel
theorem dL_law_1028 : decode cL_law 1028 = .ok (.aload_n 0, 1) := by decide +kernel
theorem dL_law_1029 : decode cL_law 1029 = .ok (.iload_n 3, 1) := by decide +kernel
theorem dL_law_1030 : decode cL_law 1030 = .ok (.iconst 4, 1) := by decide +kernel
theorem dL_law_1031 : decode cL_law 1031 = .ok (.iadd, 1) := by decide +kernel
theorem dL_law_1032 : decode cL_law 1032 = .ok (.iaload, 1) := by decide +kernel
theorem dL_law_1033 : decode cL_law 1033 = .ok (.aload_n 0, 1) := by decide +kernel
theorem dL_law_1034 : decode cL_law 1034 = .ok (.iload_n 3, 1) := by decide +kernel
theorem dL_law_1035 : decode cL_law 1035 = .ok (.iconst 5, 1) := by decide +kernel
theorem dL_law_1036 : decode cL_law 1036 = .ok (.iadd, 1) := by decide +kernel
theorem dL_law_1037 : decode cL_law 1037 = .ok (.iaload, 1) := by decide +kernel
theorem dL_law_1038 : decode cL_law 1038 = .ok (.aload_n 0, 1) := by decide +kernel
theorem dL_law_1039 : decode cL_law 1039 = .ok (.iload_n 3, 1) := by decide +kernel
theorem dL_law_1040 : decode cL_law 1040 = .ok (.bipush 6, 2) := by decide +kernel
theorem dL_law_1042 : decode cL_law 1042 = .ok (.iadd, 1) := by decide +kernel
theorem dL_law_1043 : decode cL_law 1043 = .ok (.iaload, 1) := by decide +kernel
theorem dL_law_1044 : decode cL_law 1044 = .ok (.invokevirtual 119, 3) := by decide +kernel
theorem dL_law_1047 : decode cL_law 1047 = .ok (.aload_n 2, 1) := by decide +kernel
theorem dL_law_1048 : decode cL_law 1048 = .ok (.aload_n 0, 1) := by decide +kernel
theorem dL_law_1049 : decode cL_law 1049 = .ok (.iload_n 3, 1) := by decide +kernel
theorem dL_law_1050 : decode cL_law 1050 = .ok (.iconst 1, 1) := by decide +kernel
theorem dL_law_1051 : decode cL_law 1051 = .ok (.iadd, 1) := by decide +kernel
theorem dL_law_1052 : decode cL_law 1052 = .ok (.iaload, 1) := by decide +kernel
theorem dL_law_1053 : decode cL_law 1053 = .ok (.aload_n 0, 1) := by decide +kernel
theorem dL_law_1054 : decode cL_law 1054 = .ok (.iload_n 3, 1) := by decide +kernel
theorem dL_law_1055 : decode cL_law 1055 = .ok (.iconst 2, 1) := by decide +kernel
theorem dL_law_1056 : decode cL_law 1056 = .ok (.iadd, 1) := by decide +kernel
theorem dL_law_1057 : decode cL_law 1057 = .ok (.iaload, 1) := by decide +kernel
theorem dL_law_1058 : decode cL_law 1058 = .ok (.aload_n 0, 1) := by decide +kernel
theorem dL_law_1059 : decode cL_law 1059 = .ok (.iload_n 3, 1) := by decide +kernel
theorem dL_law_1060 : decode cL_law 1060 = .ok (.iconst 3, 1) := by decide +kernel
theorem dL_law_1061 : decode cL_law 1061 = .ok (.iadd, 1) := by decide +kernel
theorem dL_law_1062 : decode cL_law 1062 = .ok (.iaload, 1) := by decide +kernel
theorem dL_law_1063 : decode cL_law 1063 = .ok (.aload_n 0, 1) := by decide +kernel
theorem dL_law_1064 : decode cL_law 1064 = .ok (.iload_n 3, 1) := by decide +kernel
theorem dL_law_1065 : decode cL_law 1065 = .ok (.iconst 4, 1) := by decide +kernel
theorem dL_law_1066 : decode cL_law 1066 = .ok (.iadd, 1) := by decide +kernel
theorem dL_law_1067 : decode cL_law 1067 = .ok (.iaload, 1) := by decide +kernel
theorem dL_law_1068 : decode cL_law 1068 = .ok (.aload_n 0, 1) := by decide +kernel
theorem dL_law_1069 : decode cL_law 1069 = .ok (.iload_n 3, 1) := by decide +kernel
theorem dL_law_1070 : decode cL_law 1070 = .ok (.iconst 5, 1) := by decide +kernel
theorem dL_law_1071 : decode cL_law 1071 = .ok (.iadd, 1) := by decide +kernel
theorem dL_law_1072 : decode cL_law 1072 = .ok (.iaload, 1) := by decide +kernel
theorem dL_law_1073 : decode cL_law 1073 = .ok (.aload_n 0, 1) := by decide +kernel
theorem dL_law_1074 : decode cL_law 1074 = .ok (.iload_n 3, 1) := by decide +kernel
theorem dL_law_1075 : decode cL_law 1075 = .ok (.bipush 6, 2) := by decide +kernel
theorem dL_law_1077 : decode cL_law 1077 = .ok (.iadd, 1) := by decide +kernel
theorem dL_law_1078 : decode cL_law 1078 = .ok (.iaload, 1) := by decide +kernel
theorem dL_law_1079 : decode cL_law 1079 = .ok (.invokevirtual 123, 3) := by decide +kernel
theorem dL_law_1082 : decode cL_law 1082 = .ok (.if_icmp .eq 5, 3) := by decide +kernel
theorem dL_law_1085 : decode cL_law 1085 = .ok (.iconst 0, 1) := by decide +kernel
theorem dL_law_1086 : decode cL_law 1086 = .ok (.ireturn, 1) := by decide +kernel
theorem dL_law_1087 : decode cL_law 1087 = .ok (.iinc 3 7, 3) := by decide +kernel
theorem dL_law_1090 : decode cL_law 1090 = .ok (.goto (-1072), 3) := by decide +kernel
theorem dL_law_1093 : decode cL_law 1093 = .ok (.iconst 1, 1) := by decide +kernel
theorem dL_law_1094 : decode cL_law 1094 = .ok (.ireturn, 1) := by decide +kernel
