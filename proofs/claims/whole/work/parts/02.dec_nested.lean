theorem dX0_init_0 : decode cX0_init 0 = .ok (.aload_n 0, 1) := by decide +kernel
theorem dX0_init_1 : decode cX0_init 1 = .ok (.invokespecial 1, 3) := by decide +kernel
theorem dX0_init_4 : decode cX0_init 4 = .ok (.aload_n 0, 1) := by decide +kernel
theorem dX0_init_5 : decode cX0_init 5 = .ok (.new 7, 3) := by decide +kernel
theorem dX0_init_8 : decode cX0_init 8 = .ok (.dup, 1) := by decide +kernel
theorem dX0_init_9 : decode cX0_init 9 = .ok (.invokespecial 9, 3) := by decide +kernel
theorem dX0_init_12 : decode cX0_init 12 = .ok (.putfield 10, 3) := by decide +kernel
theorem dX0_init_15 : decode cX0_init 15 = .ok (.aload_n 0, 1) := by decide +kernel
theorem dX0_init_16 : decode cX0_init 16 = .ok (.iconst 4, 1) := by decide +kernel
theorem dX0_init_17 : decode cX0_init 17 = .ok (.newarray .int, 2) := by decide +kernel
theorem dX0_init_19 : decode cX0_init 19 = .ok (.putfield 16, 3) := by decide +kernel
theorem dX0_init_22 : decode cX0_init 22 = .ok (.return_, 1) := by decide +kernel
theorem dX0_readClaims_0 : decode cX0_readClaims 0 = .ok (.aload_n 0, 1) := by decide +kernel
theorem dX0_readClaims_1 : decode cX0_readClaims 1 = .ok (.getfield 10, 3) := by decide +kernel
theorem dX0_readClaims_4 : decode cX0_readClaims 4 = .ok (.iconst 0, 1) := by decide +kernel
theorem dX0_readClaims_5 : decode cX0_readClaims 5 = .ok (.putfield 20, 3) := by decide +kernel
theorem dX0_readClaims_8 : decode cX0_readClaims 8 = .ok (.lload_n 1, 1) := by decide +kernel
theorem dX0_readClaims_9 : decode cX0_readClaims 9 = .ok (.iconst 4, 1) := by decide +kernel
theorem dX0_readClaims_10 : decode cX0_readClaims 10 = .ok (.iload_n 3, 1) := by decide +kernel
theorem dX0_readClaims_11 : decode cX0_readClaims 11 = .ok (.imul, 1) := by decide +kernel
theorem dX0_readClaims_12 : decode cX0_readClaims 12 = .ok (.invokestatic 24, 3) := by decide +kernel
theorem dX0_readClaims_15 : decode cX0_readClaims 15 = .ok (.istore 4, 2) := by decide +kernel
theorem dX0_readClaims_17 : decode cX0_readClaims 17 = .ok (.iconst 0, 1) := by decide +kernel
theorem dX0_readClaims_18 : decode cX0_readClaims 18 = .ok (.istore 5, 2) := by decide +kernel
theorem dX0_readClaims_20 : decode cX0_readClaims 20 = .ok (.iload 5, 2) := by decide +kernel
theorem dX0_readClaims_22 : decode cX0_readClaims 22 = .ok (.iload_n 3, 1) := by decide +kernel
theorem dX0_readClaims_23 : decode cX0_readClaims 23 = .ok (.if_icmp .ge 55, 3) := by decide +kernel
theorem dX0_readClaims_26 : decode cX0_readClaims 26 = .ok (.iload 5, 2) := by decide +kernel
theorem dX0_readClaims_28 : decode cX0_readClaims 28 = .ok (.iconst 4, 1) := by decide +kernel
theorem dX0_readClaims_29 : decode cX0_readClaims 29 = .ok (.if_icmp .ge 49, 3) := by decide +kernel
theorem dX0_readClaims_32 : decode cX0_readClaims 32 = .ok (.lload_n 1, 1) := by decide +kernel
theorem dX0_readClaims_33 : decode cX0_readClaims 33 = .ok (.iconst 4, 1) := by decide +kernel
theorem dX0_readClaims_34 : decode cX0_readClaims 34 = .ok (.iload 5, 2) := by decide +kernel
theorem dX0_readClaims_36 : decode cX0_readClaims 36 = .ok (.imul, 1) := by decide +kernel
theorem dX0_readClaims_37 : decode cX0_readClaims 37 = .ok (.lushr, 1) := by decide +kernel
theorem dX0_readClaims_38 : decode cX0_readClaims 38 = .ok (.l2i, 1) := by decide +kernel
theorem dX0_readClaims_39 : decode cX0_readClaims 39 = .ok (.bipush 15, 2) := by decide +kernel
theorem dX0_readClaims_41 : decode cX0_readClaims 41 = .ok (.iand, 1) := by decide +kernel
theorem dX0_readClaims_42 : decode cX0_readClaims 42 = .ok (.istore 6, 2) := by decide +kernel
theorem dX0_readClaims_44 : decode cX0_readClaims 44 = .ok (.iload 4, 2) := by decide +kernel
theorem dX0_readClaims_46 : decode cX0_readClaims 46 = .ok (.ifCond .eq 14, 3) := by decide +kernel
theorem dX0_readClaims_49 : decode cX0_readClaims 49 = .ok (.iload 6, 2) := by decide +kernel
theorem dX0_readClaims_51 : decode cX0_readClaims 51 = .ok (.bipush 12, 2) := by decide +kernel
theorem dX0_readClaims_53 : decode cX0_readClaims 53 = .ok (.if_icmp .gt 7, 3) := by decide +kernel
theorem dX0_readClaims_56 : decode cX0_readClaims 56 = .ok (.iconst 1, 1) := by decide +kernel
theorem dX0_readClaims_57 : decode cX0_readClaims 57 = .ok (.goto 4, 3) := by decide +kernel
theorem dX0_readClaims_60 : decode cX0_readClaims 60 = .ok (.iconst 0, 1) := by decide +kernel
theorem dX0_readClaims_61 : decode cX0_readClaims 61 = .ok (.istore 4, 2) := by decide +kernel
theorem dX0_readClaims_63 : decode cX0_readClaims 63 = .ok (.aload_n 0, 1) := by decide +kernel
theorem dX0_readClaims_64 : decode cX0_readClaims 64 = .ok (.getfield 10, 3) := by decide +kernel
theorem dX0_readClaims_67 : decode cX0_readClaims 67 = .ok (.iload 6, 2) := by decide +kernel
theorem dX0_readClaims_69 : decode cX0_readClaims 69 = .ok (.invokevirtual 30, 3) := by decide +kernel
theorem dX0_readClaims_72 : decode cX0_readClaims 72 = .ok (.iinc 5 1, 3) := by decide +kernel
theorem dX0_readClaims_75 : decode cX0_readClaims 75 = .ok (.goto (-55), 3) := by decide +kernel
theorem dX0_readClaims_78 : decode cX0_readClaims 78 = .ok (.iload 4, 2) := by decide +kernel
theorem dX0_readClaims_80 : decode cX0_readClaims 80 = .ok (.ireturn, 1) := by decide +kernel
theorem dX0_readWants_0 : decode cX0_readWants 0 = .ok (.aload_n 0, 1) := by decide +kernel
theorem dX0_readWants_1 : decode cX0_readWants 1 = .ok (.getfield 10, 3) := by decide +kernel
theorem dX0_readWants_4 : decode cX0_readWants 4 = .ok (.iconst 0, 1) := by decide +kernel
theorem dX0_readWants_5 : decode cX0_readWants 5 = .ok (.putfield 20, 3) := by decide +kernel
theorem dX0_readWants_8 : decode cX0_readWants 8 = .ok (.lload_n 1, 1) := by decide +kernel
theorem dX0_readWants_9 : decode cX0_readWants 9 = .ok (.iconst 4, 1) := by decide +kernel
theorem dX0_readWants_10 : decode cX0_readWants 10 = .ok (.iload_n 3, 1) := by decide +kernel
theorem dX0_readWants_11 : decode cX0_readWants 11 = .ok (.imul, 1) := by decide +kernel
theorem dX0_readWants_12 : decode cX0_readWants 12 = .ok (.invokestatic 24, 3) := by decide +kernel
theorem dX0_readWants_15 : decode cX0_readWants 15 = .ok (.istore 4, 2) := by decide +kernel
theorem dX0_readWants_17 : decode cX0_readWants 17 = .ok (.iconst 0, 1) := by decide +kernel
theorem dX0_readWants_18 : decode cX0_readWants 18 = .ok (.istore 5, 2) := by decide +kernel
theorem dX0_readWants_20 : decode cX0_readWants 20 = .ok (.iload 5, 2) := by decide +kernel
theorem dX0_readWants_22 : decode cX0_readWants 22 = .ok (.iload_n 3, 1) := by decide +kernel
theorem dX0_readWants_23 : decode cX0_readWants 23 = .ok (.if_icmp .ge 64, 3) := by decide +kernel
theorem dX0_readWants_26 : decode cX0_readWants 26 = .ok (.iload 5, 2) := by decide +kernel
theorem dX0_readWants_28 : decode cX0_readWants 28 = .ok (.iconst 4, 1) := by decide +kernel
theorem dX0_readWants_29 : decode cX0_readWants 29 = .ok (.if_icmp .ge 58, 3) := by decide +kernel
theorem dX0_readWants_32 : decode cX0_readWants 32 = .ok (.aload_n 0, 1) := by decide +kernel
theorem dX0_readWants_33 : decode cX0_readWants 33 = .ok (.getfield 16, 3) := by decide +kernel
theorem dX0_readWants_36 : decode cX0_readWants 36 = .ok (.iload 5, 2) := by decide +kernel
theorem dX0_readWants_38 : decode cX0_readWants 38 = .ok (.lload_n 1, 1) := by decide +kernel
theorem dX0_readWants_39 : decode cX0_readWants 39 = .ok (.iconst 4, 1) := by decide +kernel
theorem dX0_readWants_40 : decode cX0_readWants 40 = .ok (.iload 5, 2) := by decide +kernel
theorem dX0_readWants_42 : decode cX0_readWants 42 = .ok (.imul, 1) := by decide +kernel
theorem dX0_readWants_43 : decode cX0_readWants 43 = .ok (.lushr, 1) := by decide +kernel
theorem dX0_readWants_44 : decode cX0_readWants 44 = .ok (.l2i, 1) := by decide +kernel
theorem dX0_readWants_45 : decode cX0_readWants 45 = .ok (.bipush 15, 2) := by decide +kernel
theorem dX0_readWants_47 : decode cX0_readWants 47 = .ok (.iand, 1) := by decide +kernel
theorem dX0_readWants_48 : decode cX0_readWants 48 = .ok (.iastore, 1) := by decide +kernel
theorem dX0_readWants_49 : decode cX0_readWants 49 = .ok (.iload 4, 2) := by decide +kernel
theorem dX0_readWants_51 : decode cX0_readWants 51 = .ok (.ifCond .eq 19, 3) := by decide +kernel
theorem dX0_readWants_54 : decode cX0_readWants 54 = .ok (.aload_n 0, 1) := by decide +kernel
theorem dX0_readWants_55 : decode cX0_readWants 55 = .ok (.getfield 16, 3) := by decide +kernel
theorem dX0_readWants_58 : decode cX0_readWants 58 = .ok (.iload 5, 2) := by decide +kernel
theorem dX0_readWants_60 : decode cX0_readWants 60 = .ok (.iaload, 1) := by decide +kernel
theorem dX0_readWants_61 : decode cX0_readWants 61 = .ok (.bipush 9, 2) := by decide +kernel
theorem dX0_readWants_63 : decode cX0_readWants 63 = .ok (.if_icmp .gt 7, 3) := by decide +kernel
theorem dX0_readWants_66 : decode cX0_readWants 66 = .ok (.iconst 1, 1) := by decide +kernel
theorem dX0_readWants_67 : decode cX0_readWants 67 = .ok (.goto 4, 3) := by decide +kernel
theorem dX0_readWants_70 : decode cX0_readWants 70 = .ok (.iconst 0, 1) := by decide +kernel
theorem dX0_readWants_71 : decode cX0_readWants 71 = .ok (.istore 4, 2) := by decide +kernel
theorem dX0_readWants_73 : decode cX0_readWants 73 = .ok (.aload_n 0, 1) := by decide +kernel
theorem dX0_readWants_74 : decode cX0_readWants 74 = .ok (.getfield 10, 3) := by decide +kernel
theorem dX0_readWants_77 : decode cX0_readWants 77 = .ok (.iconst 0, 1) := by decide +kernel
theorem dX0_readWants_78 : decode cX0_readWants 78 = .ok (.invokevirtual 30, 3) := by decide +kernel
theorem dX0_readWants_81 : decode cX0_readWants 81 = .ok (.iinc 5 1, 3) := by decide +kernel
theorem dX0_readWants_84 : decode cX0_readWants 84 = .ok (.goto (-64), 3) := by decide +kernel
theorem dX0_readWants_87 : decode cX0_readWants 87 = .ok (.iload 4, 2) := by decide +kernel
theorem dX0_readWants_89 : decode cX0_readWants 89 = .ok (.ireturn, 1) := by decide +kernel
theorem dX0_tellClaims_0 : decode cX0_tellClaims 0 = .ok (.lconst 0, 1) := by decide +kernel
theorem dX0_tellClaims_1 : decode cX0_tellClaims 1 = .ok (.lstore_n 1, 1) := by decide +kernel
theorem dX0_tellClaims_2 : decode cX0_tellClaims 2 = .ok (.aload_n 0, 1) := by decide +kernel
theorem dX0_tellClaims_3 : decode cX0_tellClaims 3 = .ok (.getfield 10, 3) := by decide +kernel
theorem dX0_tellClaims_6 : decode cX0_tellClaims 6 = .ok (.getfield 20, 3) := by decide +kernel
theorem dX0_tellClaims_9 : decode cX0_tellClaims 9 = .ok (.iconst 1, 1) := by decide +kernel
theorem dX0_tellClaims_10 : decode cX0_tellClaims 10 = .ok (.isub, 1) := by decide +kernel
theorem dX0_tellClaims_11 : decode cX0_tellClaims 11 = .ok (.istore_n 3, 1) := by decide +kernel
theorem dX0_tellClaims_12 : decode cX0_tellClaims 12 = .ok (.iload_n 3, 1) := by decide +kernel
theorem dX0_tellClaims_13 : decode cX0_tellClaims 13 = .ok (.ifCond .lt 26, 3) := by decide +kernel
theorem dX0_tellClaims_16 : decode cX0_tellClaims 16 = .ok (.lload_n 1, 1) := by decide +kernel
theorem dX0_tellClaims_17 : decode cX0_tellClaims 17 = .ok (.ldc2_w 34, 3) := by decide +kernel
theorem dX0_tellClaims_20 : decode cX0_tellClaims 20 = .ok (.lmul, 1) := by decide +kernel
theorem dX0_tellClaims_21 : decode cX0_tellClaims 21 = .ok (.aload_n 0, 1) := by decide +kernel
theorem dX0_tellClaims_22 : decode cX0_tellClaims 22 = .ok (.getfield 10, 3) := by decide +kernel
theorem dX0_tellClaims_25 : decode cX0_tellClaims 25 = .ok (.getfield 36, 3) := by decide +kernel
theorem dX0_tellClaims_28 : decode cX0_tellClaims 28 = .ok (.iload_n 3, 1) := by decide +kernel
theorem dX0_tellClaims_29 : decode cX0_tellClaims 29 = .ok (.iaload, 1) := by decide +kernel
theorem dX0_tellClaims_30 : decode cX0_tellClaims 30 = .ok (.i2l, 1) := by decide +kernel
theorem dX0_tellClaims_31 : decode cX0_tellClaims 31 = .ok (.ladd, 1) := by decide +kernel
theorem dX0_tellClaims_32 : decode cX0_tellClaims 32 = .ok (.lstore_n 1, 1) := by decide +kernel
theorem dX0_tellClaims_33 : decode cX0_tellClaims 33 = .ok (.iinc 3 (-1), 3) := by decide +kernel
theorem dX0_tellClaims_36 : decode cX0_tellClaims 36 = .ok (.goto (-24), 3) := by decide +kernel
theorem dX0_tellClaims_39 : decode cX0_tellClaims 39 = .ok (.lload_n 1, 1) := by decide +kernel
theorem dX0_tellClaims_40 : decode cX0_tellClaims 40 = .ok (.lreturn, 1) := by decide +kernel
theorem dX0_gotBy_0 : decode cX0_gotBy 0 = .ok (.aload_n 0, 1) := by decide +kernel
theorem dX0_gotBy_1 : decode cX0_gotBy 1 = .ok (.getfield 10, 3) := by decide +kernel
theorem dX0_gotBy_4 : decode cX0_gotBy 4 = .ok (.iload_n 2, 1) := by decide +kernel
theorem dX0_gotBy_5 : decode cX0_gotBy 5 = .ok (.iload_n 3, 1) := by decide +kernel
theorem dX0_gotBy_6 : decode cX0_gotBy 6 = .ok (.invokevirtual 39, 3) := by decide +kernel
theorem dX0_gotBy_9 : decode cX0_gotBy 9 = .ok (.iload_n 1, 1) := by decide +kernel
theorem dX0_gotBy_10 : decode cX0_gotBy 10 = .ok (.ifCond .lt 26, 3) := by decide +kernel
theorem dX0_gotBy_13 : decode cX0_gotBy 13 = .ok (.iload_n 1, 1) := by decide +kernel
theorem dX0_gotBy_14 : decode cX0_gotBy 14 = .ok (.aload_n 0, 1) := by decide +kernel
theorem dX0_gotBy_15 : decode cX0_gotBy 15 = .ok (.getfield 10, 3) := by decide +kernel
theorem dX0_gotBy_18 : decode cX0_gotBy 18 = .ok (.getfield 20, 3) := by decide +kernel
theorem dX0_gotBy_21 : decode cX0_gotBy 21 = .ok (.if_icmp .ge 15, 3) := by decide +kernel
theorem dX0_gotBy_24 : decode cX0_gotBy 24 = .ok (.aload_n 0, 1) := by decide +kernel
theorem dX0_gotBy_25 : decode cX0_gotBy 25 = .ok (.getfield 10, 3) := by decide +kernel
theorem dX0_gotBy_28 : decode cX0_gotBy 28 = .ok (.getfield 43, 3) := by decide +kernel
theorem dX0_gotBy_31 : decode cX0_gotBy 31 = .ok (.iload_n 1, 1) := by decide +kernel
theorem dX0_gotBy_32 : decode cX0_gotBy 32 = .ok (.iaload, 1) := by decide +kernel
theorem dX0_gotBy_33 : decode cX0_gotBy 33 = .ok (.goto 4, 3) := by decide +kernel
theorem dX0_gotBy_36 : decode cX0_gotBy 36 = .ok (.iconst 0, 1) := by decide +kernel
theorem dX0_gotBy_37 : decode cX0_gotBy 37 = .ok (.ireturn, 1) := by decide +kernel
theorem dX0_distance_0 : decode cX0_distance 0 = .ok (.aload_n 0, 1) := by decide +kernel
theorem dX0_distance_1 : decode cX0_distance 1 = .ok (.getfield 10, 3) := by decide +kernel
theorem dX0_distance_4 : decode cX0_distance 4 = .ok (.iload_n 2, 1) := by decide +kernel
theorem dX0_distance_5 : decode cX0_distance 5 = .ok (.iload_n 3, 1) := by decide +kernel
theorem dX0_distance_6 : decode cX0_distance 6 = .ok (.invokevirtual 39, 3) := by decide +kernel
theorem dX0_distance_9 : decode cX0_distance 9 = .ok (.aload_n 0, 1) := by decide +kernel
theorem dX0_distance_10 : decode cX0_distance 10 = .ok (.getfield 10, 3) := by decide +kernel
theorem dX0_distance_13 : decode cX0_distance 13 = .ok (.getfield 43, 3) := by decide +kernel
theorem dX0_distance_16 : decode cX0_distance 16 = .ok (.iload_n 1, 1) := by decide +kernel
theorem dX0_distance_17 : decode cX0_distance 17 = .ok (.iaload, 1) := by decide +kernel
theorem dX0_distance_18 : decode cX0_distance 18 = .ok (.aload_n 0, 1) := by decide +kernel
theorem dX0_distance_19 : decode cX0_distance 19 = .ok (.getfield 16, 3) := by decide +kernel
theorem dX0_distance_22 : decode cX0_distance 22 = .ok (.iload_n 1, 1) := by decide +kernel
theorem dX0_distance_23 : decode cX0_distance 23 = .ok (.iaload, 1) := by decide +kernel
theorem dX0_distance_24 : decode cX0_distance 24 = .ok (.isub, 1) := by decide +kernel
theorem dX0_distance_25 : decode cX0_distance 25 = .ok (.invokestatic 46, 3) := by decide +kernel
theorem dX0_distance_28 : decode cX0_distance 28 = .ok (.ireturn, 1) := by decide +kernel
theorem dX0_isCalm_0 : decode cX0_isCalm 0 = .ok (.aload_n 0, 1) := by decide +kernel
theorem dX0_isCalm_1 : decode cX0_isCalm 1 = .ok (.getfield 10, 3) := by decide +kernel
theorem dX0_isCalm_4 : decode cX0_isCalm 4 = .ok (.getfield 20, 3) := by decide +kernel
theorem dX0_isCalm_7 : decode cX0_isCalm 7 = .ok (.iconst 4, 1) := by decide +kernel
theorem dX0_isCalm_8 : decode cX0_isCalm 8 = .ok (.invokestatic 52, 3) := by decide +kernel
theorem dX0_isCalm_11 : decode cX0_isCalm 11 = .ok (.iconst 1, 1) := by decide +kernel
theorem dX0_isCalm_12 : decode cX0_isCalm 12 = .ok (.isub, 1) := by decide +kernel
theorem dX0_isCalm_13 : decode cX0_isCalm 13 = .ok (.istore_n 3, 1) := by decide +kernel
theorem dX0_isCalm_14 : decode cX0_isCalm 14 = .ok (.iload_n 3, 1) := by decide +kernel
theorem dX0_isCalm_15 : decode cX0_isCalm 15 = .ok (.ifCond .lt 106, 3) := by decide +kernel
theorem dX0_isCalm_18 : decode cX0_isCalm 18 = .ok (.aload_n 0, 1) := by decide +kernel
theorem dX0_isCalm_19 : decode cX0_isCalm 19 = .ok (.getfield 10, 3) := by decide +kernel
theorem dX0_isCalm_22 : decode cX0_isCalm 22 = .ok (.getfield 36, 3) := by decide +kernel
theorem dX0_isCalm_25 : decode cX0_isCalm 25 = .ok (.iload_n 3, 1) := by decide +kernel
theorem dX0_isCalm_26 : decode cX0_isCalm 26 = .ok (.iaload, 1) := by decide +kernel
theorem dX0_isCalm_27 : decode cX0_isCalm 27 = .ok (.istore 4, 2) := by decide +kernel
theorem dX0_isCalm_29 : decode cX0_isCalm 29 = .ok (.aload_n 0, 1) := by decide +kernel
theorem dX0_isCalm_30 : decode cX0_isCalm 30 = .ok (.iload_n 3, 1) := by decide +kernel
theorem dX0_isCalm_31 : decode cX0_isCalm 31 = .ok (.iload_n 1, 1) := by decide +kernel
theorem dX0_isCalm_32 : decode cX0_isCalm 32 = .ok (.iload_n 2, 1) := by decide +kernel
theorem dX0_isCalm_33 : decode cX0_isCalm 33 = .ok (.invokevirtual 56, 3) := by decide +kernel
theorem dX0_isCalm_36 : decode cX0_isCalm 36 = .ok (.istore 5, 2) := by decide +kernel
theorem dX0_isCalm_38 : decode cX0_isCalm 38 = .ok (.iconst 0, 1) := by decide +kernel
theorem dX0_isCalm_39 : decode cX0_isCalm 39 = .ok (.istore 6, 2) := by decide +kernel
theorem dX0_isCalm_41 : decode cX0_isCalm 41 = .ok (.iconst 0, 1) := by decide +kernel
theorem dX0_isCalm_42 : decode cX0_isCalm 42 = .ok (.istore 7, 2) := by decide +kernel
theorem dX0_isCalm_44 : decode cX0_isCalm 44 = .ok (.iload 7, 2) := by decide +kernel
theorem dX0_isCalm_46 : decode cX0_isCalm 46 = .ok (.bipush 12, 2) := by decide +kernel
theorem dX0_isCalm_48 : decode cX0_isCalm 48 = .ok (.if_icmp .gt 49, 3) := by decide +kernel
theorem dX0_isCalm_51 : decode cX0_isCalm 51 = .ok (.iload 5, 2) := by decide +kernel
theorem dX0_isCalm_53 : decode cX0_isCalm 53 = .ok (.ifCond .le 44, 3) := by decide +kernel
theorem dX0_isCalm_56 : decode cX0_isCalm 56 = .ok (.iload 6, 2) := by decide +kernel
theorem dX0_isCalm_58 : decode cX0_isCalm 58 = .ok (.ifCond .ne 39, 3) := by decide +kernel
theorem dX0_isCalm_61 : decode cX0_isCalm 61 = .ok (.aload_n 0, 1) := by decide +kernel
theorem dX0_isCalm_62 : decode cX0_isCalm 62 = .ok (.getfield 10, 3) := by decide +kernel
theorem dX0_isCalm_65 : decode cX0_isCalm 65 = .ok (.getfield 36, 3) := by decide +kernel
theorem dX0_isCalm_68 : decode cX0_isCalm 68 = .ok (.iload_n 3, 1) := by decide +kernel
theorem dX0_isCalm_69 : decode cX0_isCalm 69 = .ok (.iload 7, 2) := by decide +kernel
theorem dX0_isCalm_71 : decode cX0_isCalm 71 = .ok (.iastore, 1) := by decide +kernel
theorem dX0_isCalm_72 : decode cX0_isCalm 72 = .ok (.aload_n 0, 1) := by decide +kernel
theorem dX0_isCalm_73 : decode cX0_isCalm 73 = .ok (.iload_n 3, 1) := by decide +kernel
theorem dX0_isCalm_74 : decode cX0_isCalm 74 = .ok (.iload_n 1, 1) := by decide +kernel
theorem dX0_isCalm_75 : decode cX0_isCalm 75 = .ok (.iload_n 2, 1) := by decide +kernel
theorem dX0_isCalm_76 : decode cX0_isCalm 76 = .ok (.invokevirtual 56, 3) := by decide +kernel
theorem dX0_isCalm_79 : decode cX0_isCalm 79 = .ok (.iload 5, 2) := by decide +kernel
theorem dX0_isCalm_81 : decode cX0_isCalm 81 = .ok (.if_icmp .ge 7, 3) := by decide +kernel
theorem dX0_isCalm_84 : decode cX0_isCalm 84 = .ok (.iconst 1, 1) := by decide +kernel
theorem dX0_isCalm_85 : decode cX0_isCalm 85 = .ok (.goto 4, 3) := by decide +kernel
theorem dX0_isCalm_88 : decode cX0_isCalm 88 = .ok (.iconst 0, 1) := by decide +kernel
theorem dX0_isCalm_89 : decode cX0_isCalm 89 = .ok (.istore 6, 2) := by decide +kernel
theorem dX0_isCalm_91 : decode cX0_isCalm 91 = .ok (.iinc 7 1, 3) := by decide +kernel
theorem dX0_isCalm_94 : decode cX0_isCalm 94 = .ok (.goto (-50), 3) := by decide +kernel
theorem dX0_isCalm_97 : decode cX0_isCalm 97 = .ok (.aload_n 0, 1) := by decide +kernel
theorem dX0_isCalm_98 : decode cX0_isCalm 98 = .ok (.getfield 10, 3) := by decide +kernel
theorem dX0_isCalm_101 : decode cX0_isCalm 101 = .ok (.getfield 36, 3) := by decide +kernel
theorem dX0_isCalm_104 : decode cX0_isCalm 104 = .ok (.iload_n 3, 1) := by decide +kernel
theorem dX0_isCalm_105 : decode cX0_isCalm 105 = .ok (.iload 4, 2) := by decide +kernel
theorem dX0_isCalm_107 : decode cX0_isCalm 107 = .ok (.iastore, 1) := by decide +kernel
theorem dX0_isCalm_108 : decode cX0_isCalm 108 = .ok (.iload 6, 2) := by decide +kernel
theorem dX0_isCalm_110 : decode cX0_isCalm 110 = .ok (.ifCond .eq 5, 3) := by decide +kernel
theorem dX0_isCalm_113 : decode cX0_isCalm 113 = .ok (.iconst 0, 1) := by decide +kernel
theorem dX0_isCalm_114 : decode cX0_isCalm 114 = .ok (.ireturn, 1) := by decide +kernel
theorem dX0_isCalm_115 : decode cX0_isCalm 115 = .ok (.iinc 3 (-1), 3) := by decide +kernel
theorem dX0_isCalm_118 : decode cX0_isCalm 118 = .ok (.goto (-104), 3) := by decide +kernel
theorem dX0_isCalm_121 : decode cX0_isCalm 121 = .ok (.iconst 1, 1) := by decide +kernel
theorem dX0_isCalm_122 : decode cX0_isCalm 122 = .ok (.ireturn, 1) := by decide +kernel
theorem dX0_firstCalm_0 : decode cX0_firstCalm 0 = .ok (.iconst 1, 1) := by decide +kernel
theorem dX0_firstCalm_1 : decode cX0_firstCalm 1 = .ok (.istore_n 3, 1) := by decide +kernel
theorem dX0_firstCalm_2 : decode cX0_firstCalm 2 = .ok (.iconst 0, 1) := by decide +kernel
theorem dX0_firstCalm_3 : decode cX0_firstCalm 3 = .ok (.istore 4, 2) := by decide +kernel
theorem dX0_firstCalm_5 : decode cX0_firstCalm 5 = .ok (.iload 4, 2) := by decide +kernel
theorem dX0_firstCalm_7 : decode cX0_firstCalm 7 = .ok (.aload_n 0, 1) := by decide +kernel
theorem dX0_firstCalm_8 : decode cX0_firstCalm 8 = .ok (.getfield 10, 3) := by decide +kernel
theorem dX0_firstCalm_11 : decode cX0_firstCalm 11 = .ok (.getfield 20, 3) := by decide +kernel
theorem dX0_firstCalm_14 : decode cX0_firstCalm 14 = .ok (.if_icmp .ge 14, 3) := by decide +kernel
theorem dX0_firstCalm_17 : decode cX0_firstCalm 17 = .ok (.iload_n 3, 1) := by decide +kernel
theorem dX0_firstCalm_18 : decode cX0_firstCalm 18 = .ok (.bipush 13, 2) := by decide +kernel
theorem dX0_firstCalm_20 : decode cX0_firstCalm 20 = .ok (.imul, 1) := by decide +kernel
theorem dX0_firstCalm_21 : decode cX0_firstCalm 21 = .ok (.istore_n 3, 1) := by decide +kernel
theorem dX0_firstCalm_22 : decode cX0_firstCalm 22 = .ok (.iinc 4 1, 3) := by decide +kernel
theorem dX0_firstCalm_25 : decode cX0_firstCalm 25 = .ok (.goto (-20), 3) := by decide +kernel
theorem dX0_firstCalm_28 : decode cX0_firstCalm 28 = .ok (.iconst 0, 1) := by decide +kernel
theorem dX0_firstCalm_29 : decode cX0_firstCalm 29 = .ok (.istore 4, 2) := by decide +kernel
theorem dX0_firstCalm_31 : decode cX0_firstCalm 31 = .ok (.iload 4, 2) := by decide +kernel
theorem dX0_firstCalm_33 : decode cX0_firstCalm 33 = .ok (.iload_n 3, 1) := by decide +kernel
theorem dX0_firstCalm_34 : decode cX0_firstCalm 34 = .ok (.if_icmp .ge 68, 3) := by decide +kernel
theorem dX0_firstCalm_37 : decode cX0_firstCalm 37 = .ok (.iload 4, 2) := by decide +kernel
theorem dX0_firstCalm_39 : decode cX0_firstCalm 39 = .ok (.istore 5, 2) := by decide +kernel
theorem dX0_firstCalm_41 : decode cX0_firstCalm 41 = .ok (.aload_n 0, 1) := by decide +kernel
theorem dX0_firstCalm_42 : decode cX0_firstCalm 42 = .ok (.getfield 10, 3) := by decide +kernel
theorem dX0_firstCalm_45 : decode cX0_firstCalm 45 = .ok (.getfield 20, 3) := by decide +kernel
theorem dX0_firstCalm_48 : decode cX0_firstCalm 48 = .ok (.iconst 1, 1) := by decide +kernel
theorem dX0_firstCalm_49 : decode cX0_firstCalm 49 = .ok (.isub, 1) := by decide +kernel
theorem dX0_firstCalm_50 : decode cX0_firstCalm 50 = .ok (.istore 6, 2) := by decide +kernel
theorem dX0_firstCalm_52 : decode cX0_firstCalm 52 = .ok (.iload 6, 2) := by decide +kernel
theorem dX0_firstCalm_54 : decode cX0_firstCalm 54 = .ok (.ifCond .lt 31, 3) := by decide +kernel
theorem dX0_firstCalm_57 : decode cX0_firstCalm 57 = .ok (.aload_n 0, 1) := by decide +kernel
theorem dX0_firstCalm_58 : decode cX0_firstCalm 58 = .ok (.getfield 10, 3) := by decide +kernel
theorem dX0_firstCalm_61 : decode cX0_firstCalm 61 = .ok (.getfield 36, 3) := by decide +kernel
theorem dX0_firstCalm_64 : decode cX0_firstCalm 64 = .ok (.iload 6, 2) := by decide +kernel
theorem dX0_firstCalm_66 : decode cX0_firstCalm 66 = .ok (.iload 5, 2) := by decide +kernel
theorem dX0_firstCalm_68 : decode cX0_firstCalm 68 = .ok (.bipush 13, 2) := by decide +kernel
theorem dX0_firstCalm_70 : decode cX0_firstCalm 70 = .ok (.irem, 1) := by decide +kernel
theorem dX0_firstCalm_71 : decode cX0_firstCalm 71 = .ok (.iastore, 1) := by decide +kernel
theorem dX0_firstCalm_72 : decode cX0_firstCalm 72 = .ok (.iload 5, 2) := by decide +kernel
theorem dX0_firstCalm_74 : decode cX0_firstCalm 74 = .ok (.bipush 13, 2) := by decide +kernel
theorem dX0_firstCalm_76 : decode cX0_firstCalm 76 = .ok (.idiv, 1) := by decide +kernel
theorem dX0_firstCalm_77 : decode cX0_firstCalm 77 = .ok (.istore 5, 2) := by decide +kernel
theorem dX0_firstCalm_79 : decode cX0_firstCalm 79 = .ok (.iinc 6 (-1), 3) := by decide +kernel
theorem dX0_firstCalm_82 : decode cX0_firstCalm 82 = .ok (.goto (-30), 3) := by decide +kernel
theorem dX0_firstCalm_85 : decode cX0_firstCalm 85 = .ok (.aload_n 0, 1) := by decide +kernel
theorem dX0_firstCalm_86 : decode cX0_firstCalm 86 = .ok (.iload_n 1, 1) := by decide +kernel
theorem dX0_firstCalm_87 : decode cX0_firstCalm 87 = .ok (.iload_n 2, 1) := by decide +kernel
theorem dX0_firstCalm_88 : decode cX0_firstCalm 88 = .ok (.invokevirtual 60, 3) := by decide +kernel
theorem dX0_firstCalm_91 : decode cX0_firstCalm 91 = .ok (.ifCond .eq 5, 3) := by decide +kernel
theorem dX0_firstCalm_94 : decode cX0_firstCalm 94 = .ok (.iconst 1, 1) := by decide +kernel
theorem dX0_firstCalm_95 : decode cX0_firstCalm 95 = .ok (.ireturn, 1) := by decide +kernel
theorem dX0_firstCalm_96 : decode cX0_firstCalm 96 = .ok (.iinc 4 1, 3) := by decide +kernel
theorem dX0_firstCalm_99 : decode cX0_firstCalm 99 = .ok (.goto (-68), 3) := by decide +kernel
theorem dX0_firstCalm_102 : decode cX0_firstCalm 102 = .ok (.iconst 0, 1) := by decide +kernel
theorem dX0_firstCalm_103 : decode cX0_firstCalm 103 = .ok (.ireturn, 1) := by decide +kernel
theorem dX1_init_0 : decode cX1_init 0 = .ok (.aload_n 0, 1) := by decide +kernel
theorem dX1_init_1 : decode cX1_init 1 = .ok (.invokespecial 3, 3) := by decide +kernel
theorem dX1_init_4 : decode cX1_init 4 = .ok (.aload_n 0, 1) := by decide +kernel
theorem dX1_init_5 : decode cX1_init 5 = .ok (.bipush 8, 2) := by decide +kernel
theorem dX1_init_7 : decode cX1_init 7 = .ok (.newarray .int, 2) := by decide +kernel
theorem dX1_init_9 : decode cX1_init 9 = .ok (.putfield 9, 3) := by decide +kernel
theorem dX1_init_12 : decode cX1_init 12 = .ok (.aload_n 0, 1) := by decide +kernel
theorem dX1_init_13 : decode cX1_init 13 = .ok (.bipush 48, 2) := by decide +kernel
theorem dX1_init_15 : decode cX1_init 15 = .ok (.newarray .int, 2) := by decide +kernel
theorem dX1_init_17 : decode cX1_init 17 = .ok (.putfield 15, 3) := by decide +kernel
theorem dX1_init_20 : decode cX1_init 20 = .ok (.aload_n 0, 1) := by decide +kernel
theorem dX1_init_21 : decode cX1_init 21 = .ok (.bipush 8, 2) := by decide +kernel
theorem dX1_init_23 : decode cX1_init 23 = .ok (.newarray .int, 2) := by decide +kernel
theorem dX1_init_25 : decode cX1_init 25 = .ok (.putfield 18, 3) := by decide +kernel
theorem dX1_init_28 : decode cX1_init 28 = .ok (.aload_n 0, 1) := by decide +kernel
theorem dX1_init_29 : decode cX1_init 29 = .ok (.bipush 8, 2) := by decide +kernel
theorem dX1_init_31 : decode cX1_init 31 = .ok (.newarray .int, 2) := by decide +kernel
theorem dX1_init_33 : decode cX1_init 33 = .ok (.putfield 21, 3) := by decide +kernel
theorem dX1_init_36 : decode cX1_init 36 = .ok (.aload_n 0, 1) := by decide +kernel
theorem dX1_init_37 : decode cX1_init 37 = .ok (.bipush 8, 2) := by decide +kernel
theorem dX1_init_39 : decode cX1_init 39 = .ok (.newarray .int, 2) := by decide +kernel
theorem dX1_init_41 : decode cX1_init 41 = .ok (.putfield 24, 3) := by decide +kernel
theorem dX1_init_44 : decode cX1_init 44 = .ok (.aload_n 0, 1) := by decide +kernel
theorem dX1_init_45 : decode cX1_init 45 = .ok (.bipush 8, 2) := by decide +kernel
theorem dX1_init_47 : decode cX1_init 47 = .ok (.newarray .int, 2) := by decide +kernel
theorem dX1_init_49 : decode cX1_init 49 = .ok (.putfield 27, 3) := by decide +kernel
theorem dX1_init_52 : decode cX1_init 52 = .ok (.aload_n 0, 1) := by decide +kernel
theorem dX1_init_53 : decode cX1_init 53 = .ok (.bipush 8, 2) := by decide +kernel
theorem dX1_init_55 : decode cX1_init 55 = .ok (.newarray .int, 2) := by decide +kernel
theorem dX1_init_57 : decode cX1_init 57 = .ok (.putfield 30, 3) := by decide +kernel
theorem dX1_init_60 : decode cX1_init 60 = .ok (.aload_n 0, 1) := by decide +kernel
theorem dX1_init_61 : decode cX1_init 61 = .ok (.bipush 32, 2) := by decide +kernel
theorem dX1_init_63 : decode cX1_init 63 = .ok (.newarray .int, 2) := by decide +kernel
theorem dX1_init_65 : decode cX1_init 65 = .ok (.putfield 33, 3) := by decide +kernel
theorem dX1_init_68 : decode cX1_init 68 = .ok (.aload_n 0, 1) := by decide +kernel
theorem dX1_init_69 : decode cX1_init 69 = .ok (.bipush 32, 2) := by decide +kernel
theorem dX1_init_71 : decode cX1_init 71 = .ok (.newarray .int, 2) := by decide +kernel
theorem dX1_init_73 : decode cX1_init 73 = .ok (.putfield 36, 3) := by decide +kernel
theorem dX1_init_76 : decode cX1_init 76 = .ok (.aload_n 0, 1) := by decide +kernel
theorem dX1_init_77 : decode cX1_init 77 = .ok (.bipush 8, 2) := by decide +kernel
theorem dX1_init_79 : decode cX1_init 79 = .ok (.newarray .long, 2) := by decide +kernel
theorem dX1_init_81 : decode cX1_init 81 = .ok (.putfield 39, 3) := by decide +kernel
theorem dX1_init_84 : decode cX1_init 84 = .ok (.return_, 1) := by decide +kernel
theorem dX1_copy_0 : decode cX1_copy 0 = .ok (.aload_n 1, 1) := by decide +kernel
theorem dX1_copy_1 : decode cX1_copy 1 = .ok (.getfield 9, 3) := by decide +kernel
theorem dX1_copy_4 : decode cX1_copy 4 = .ok (.iconst 0, 1) := by decide +kernel
theorem dX1_copy_5 : decode cX1_copy 5 = .ok (.aload_n 0, 1) := by decide +kernel
theorem dX1_copy_6 : decode cX1_copy 6 = .ok (.getfield 9, 3) := by decide +kernel
theorem dX1_copy_9 : decode cX1_copy 9 = .ok (.iconst 0, 1) := by decide +kernel
theorem dX1_copy_10 : decode cX1_copy 10 = .ok (.aload_n 0, 1) := by decide +kernel
theorem dX1_copy_11 : decode cX1_copy 11 = .ok (.getfield 9, 3) := by decide +kernel
theorem dX1_copy_14 : decode cX1_copy 14 = .ok (.arraylength, 1) := by decide +kernel
theorem dX1_copy_15 : decode cX1_copy 15 = .ok (.invokestatic 43, 3) := by decide +kernel
theorem dX1_copy_18 : decode cX1_copy 18 = .ok (.aload_n 1, 1) := by decide +kernel
theorem dX1_copy_19 : decode cX1_copy 19 = .ok (.getfield 15, 3) := by decide +kernel
theorem dX1_copy_22 : decode cX1_copy 22 = .ok (.iconst 0, 1) := by decide +kernel
theorem dX1_copy_23 : decode cX1_copy 23 = .ok (.aload_n 0, 1) := by decide +kernel
theorem dX1_copy_24 : decode cX1_copy 24 = .ok (.getfield 15, 3) := by decide +kernel
theorem dX1_copy_27 : decode cX1_copy 27 = .ok (.iconst 0, 1) := by decide +kernel
theorem dX1_copy_28 : decode cX1_copy 28 = .ok (.aload_n 0, 1) := by decide +kernel
theorem dX1_copy_29 : decode cX1_copy 29 = .ok (.getfield 15, 3) := by decide +kernel
theorem dX1_copy_32 : decode cX1_copy 32 = .ok (.arraylength, 1) := by decide +kernel
theorem dX1_copy_33 : decode cX1_copy 33 = .ok (.invokestatic 43, 3) := by decide +kernel
theorem dX1_copy_36 : decode cX1_copy 36 = .ok (.aload_n 1, 1) := by decide +kernel
theorem dX1_copy_37 : decode cX1_copy 37 = .ok (.getfield 18, 3) := by decide +kernel
theorem dX1_copy_40 : decode cX1_copy 40 = .ok (.iconst 0, 1) := by decide +kernel
theorem dX1_copy_41 : decode cX1_copy 41 = .ok (.aload_n 0, 1) := by decide +kernel
theorem dX1_copy_42 : decode cX1_copy 42 = .ok (.getfield 18, 3) := by decide +kernel
theorem dX1_copy_45 : decode cX1_copy 45 = .ok (.iconst 0, 1) := by decide +kernel
theorem dX1_copy_46 : decode cX1_copy 46 = .ok (.aload_n 0, 1) := by decide +kernel
theorem dX1_copy_47 : decode cX1_copy 47 = .ok (.getfield 18, 3) := by decide +kernel
theorem dX1_copy_50 : decode cX1_copy 50 = .ok (.arraylength, 1) := by decide +kernel
theorem dX1_copy_51 : decode cX1_copy 51 = .ok (.invokestatic 43, 3) := by decide +kernel
theorem dX1_copy_54 : decode cX1_copy 54 = .ok (.aload_n 1, 1) := by decide +kernel
theorem dX1_copy_55 : decode cX1_copy 55 = .ok (.getfield 21, 3) := by decide +kernel
theorem dX1_copy_58 : decode cX1_copy 58 = .ok (.iconst 0, 1) := by decide +kernel
theorem dX1_copy_59 : decode cX1_copy 59 = .ok (.aload_n 0, 1) := by decide +kernel
theorem dX1_copy_60 : decode cX1_copy 60 = .ok (.getfield 21, 3) := by decide +kernel
theorem dX1_copy_63 : decode cX1_copy 63 = .ok (.iconst 0, 1) := by decide +kernel
theorem dX1_copy_64 : decode cX1_copy 64 = .ok (.aload_n 0, 1) := by decide +kernel
theorem dX1_copy_65 : decode cX1_copy 65 = .ok (.getfield 21, 3) := by decide +kernel
theorem dX1_copy_68 : decode cX1_copy 68 = .ok (.arraylength, 1) := by decide +kernel
theorem dX1_copy_69 : decode cX1_copy 69 = .ok (.invokestatic 43, 3) := by decide +kernel
theorem dX1_copy_72 : decode cX1_copy 72 = .ok (.aload_n 1, 1) := by decide +kernel
theorem dX1_copy_73 : decode cX1_copy 73 = .ok (.getfield 24, 3) := by decide +kernel
theorem dX1_copy_76 : decode cX1_copy 76 = .ok (.iconst 0, 1) := by decide +kernel
theorem dX1_copy_77 : decode cX1_copy 77 = .ok (.aload_n 0, 1) := by decide +kernel
theorem dX1_copy_78 : decode cX1_copy 78 = .ok (.getfield 24, 3) := by decide +kernel
theorem dX1_copy_81 : decode cX1_copy 81 = .ok (.iconst 0, 1) := by decide +kernel
theorem dX1_copy_82 : decode cX1_copy 82 = .ok (.aload_n 0, 1) := by decide +kernel
theorem dX1_copy_83 : decode cX1_copy 83 = .ok (.getfield 24, 3) := by decide +kernel
theorem dX1_copy_86 : decode cX1_copy 86 = .ok (.arraylength, 1) := by decide +kernel
theorem dX1_copy_87 : decode cX1_copy 87 = .ok (.invokestatic 43, 3) := by decide +kernel
theorem dX1_copy_90 : decode cX1_copy 90 = .ok (.aload_n 1, 1) := by decide +kernel
theorem dX1_copy_91 : decode cX1_copy 91 = .ok (.getfield 27, 3) := by decide +kernel
theorem dX1_copy_94 : decode cX1_copy 94 = .ok (.iconst 0, 1) := by decide +kernel
theorem dX1_copy_95 : decode cX1_copy 95 = .ok (.aload_n 0, 1) := by decide +kernel
theorem dX1_copy_96 : decode cX1_copy 96 = .ok (.getfield 27, 3) := by decide +kernel
theorem dX1_copy_99 : decode cX1_copy 99 = .ok (.iconst 0, 1) := by decide +kernel
theorem dX1_copy_100 : decode cX1_copy 100 = .ok (.aload_n 0, 1) := by decide +kernel
theorem dX1_copy_101 : decode cX1_copy 101 = .ok (.getfield 27, 3) := by decide +kernel
theorem dX1_copy_104 : decode cX1_copy 104 = .ok (.arraylength, 1) := by decide +kernel
theorem dX1_copy_105 : decode cX1_copy 105 = .ok (.invokestatic 43, 3) := by decide +kernel
theorem dX1_copy_108 : decode cX1_copy 108 = .ok (.aload_n 1, 1) := by decide +kernel
theorem dX1_copy_109 : decode cX1_copy 109 = .ok (.getfield 30, 3) := by decide +kernel
theorem dX1_copy_112 : decode cX1_copy 112 = .ok (.iconst 0, 1) := by decide +kernel
theorem dX1_copy_113 : decode cX1_copy 113 = .ok (.aload_n 0, 1) := by decide +kernel
theorem dX1_copy_114 : decode cX1_copy 114 = .ok (.getfield 30, 3) := by decide +kernel
theorem dX1_copy_117 : decode cX1_copy 117 = .ok (.iconst 0, 1) := by decide +kernel
theorem dX1_copy_118 : decode cX1_copy 118 = .ok (.aload_n 0, 1) := by decide +kernel
theorem dX1_copy_119 : decode cX1_copy 119 = .ok (.getfield 30, 3) := by decide +kernel
theorem dX1_copy_122 : decode cX1_copy 122 = .ok (.arraylength, 1) := by decide +kernel
theorem dX1_copy_123 : decode cX1_copy 123 = .ok (.invokestatic 43, 3) := by decide +kernel
theorem dX1_copy_126 : decode cX1_copy 126 = .ok (.aload_n 1, 1) := by decide +kernel
theorem dX1_copy_127 : decode cX1_copy 127 = .ok (.getfield 33, 3) := by decide +kernel
theorem dX1_copy_130 : decode cX1_copy 130 = .ok (.iconst 0, 1) := by decide +kernel
theorem dX1_copy_131 : decode cX1_copy 131 = .ok (.aload_n 0, 1) := by decide +kernel
theorem dX1_copy_132 : decode cX1_copy 132 = .ok (.getfield 33, 3) := by decide +kernel
theorem dX1_copy_135 : decode cX1_copy 135 = .ok (.iconst 0, 1) := by decide +kernel
theorem dX1_copy_136 : decode cX1_copy 136 = .ok (.aload_n 0, 1) := by decide +kernel
theorem dX1_copy_137 : decode cX1_copy 137 = .ok (.getfield 33, 3) := by decide +kernel
theorem dX1_copy_140 : decode cX1_copy 140 = .ok (.arraylength, 1) := by decide +kernel
theorem dX1_copy_141 : decode cX1_copy 141 = .ok (.invokestatic 43, 3) := by decide +kernel
theorem dX1_copy_144 : decode cX1_copy 144 = .ok (.aload_n 1, 1) := by decide +kernel
theorem dX1_copy_145 : decode cX1_copy 145 = .ok (.getfield 36, 3) := by decide +kernel
theorem dX1_copy_148 : decode cX1_copy 148 = .ok (.iconst 0, 1) := by decide +kernel
theorem dX1_copy_149 : decode cX1_copy 149 = .ok (.aload_n 0, 1) := by decide +kernel
theorem dX1_copy_150 : decode cX1_copy 150 = .ok (.getfield 36, 3) := by decide +kernel
theorem dX1_copy_153 : decode cX1_copy 153 = .ok (.iconst 0, 1) := by decide +kernel
theorem dX1_copy_154 : decode cX1_copy 154 = .ok (.aload_n 0, 1) := by decide +kernel
theorem dX1_copy_155 : decode cX1_copy 155 = .ok (.getfield 36, 3) := by decide +kernel
theorem dX1_copy_158 : decode cX1_copy 158 = .ok (.arraylength, 1) := by decide +kernel
theorem dX1_copy_159 : decode cX1_copy 159 = .ok (.invokestatic 43, 3) := by decide +kernel
theorem dX1_copy_162 : decode cX1_copy 162 = .ok (.aload_n 1, 1) := by decide +kernel
theorem dX1_copy_163 : decode cX1_copy 163 = .ok (.getfield 39, 3) := by decide +kernel
theorem dX1_copy_166 : decode cX1_copy 166 = .ok (.iconst 0, 1) := by decide +kernel
theorem dX1_copy_167 : decode cX1_copy 167 = .ok (.aload_n 0, 1) := by decide +kernel
theorem dX1_copy_168 : decode cX1_copy 168 = .ok (.getfield 39, 3) := by decide +kernel
theorem dX1_copy_171 : decode cX1_copy 171 = .ok (.iconst 0, 1) := by decide +kernel
theorem dX1_copy_172 : decode cX1_copy 172 = .ok (.aload_n 0, 1) := by decide +kernel
theorem dX1_copy_173 : decode cX1_copy 173 = .ok (.getfield 39, 3) := by decide +kernel
theorem dX1_copy_176 : decode cX1_copy 176 = .ok (.arraylength, 1) := by decide +kernel
theorem dX1_copy_177 : decode cX1_copy 177 = .ok (.invokestatic 43, 3) := by decide +kernel
theorem dX1_copy_180 : decode cX1_copy 180 = .ok (.aload_n 0, 1) := by decide +kernel
theorem dX1_copy_181 : decode cX1_copy 181 = .ok (.aload_n 1, 1) := by decide +kernel
theorem dX1_copy_182 : decode cX1_copy 182 = .ok (.getfield 49, 3) := by decide +kernel
theorem dX1_copy_185 : decode cX1_copy 185 = .ok (.putfield 49, 3) := by decide +kernel
theorem dX1_copy_188 : decode cX1_copy 188 = .ok (.aload_n 0, 1) := by decide +kernel
theorem dX1_copy_189 : decode cX1_copy 189 = .ok (.aload_n 1, 1) := by decide +kernel
theorem dX1_copy_190 : decode cX1_copy 190 = .ok (.getfield 53, 3) := by decide +kernel
theorem dX1_copy_193 : decode cX1_copy 193 = .ok (.putfield 53, 3) := by decide +kernel
theorem dX1_copy_196 : decode cX1_copy 196 = .ok (.aload_n 0, 1) := by decide +kernel
theorem dX1_copy_197 : decode cX1_copy 197 = .ok (.aload_n 1, 1) := by decide +kernel
theorem dX1_copy_198 : decode cX1_copy 198 = .ok (.getfield 57, 3) := by decide +kernel
theorem dX1_copy_201 : decode cX1_copy 201 = .ok (.putfield 57, 3) := by decide +kernel
theorem dX1_copy_204 : decode cX1_copy 204 = .ok (.return_, 1) := by decide +kernel
theorem dX1_pass_0 : decode cX1_pass 0 = .ok (.aload_n 0, 1) := by decide +kernel
theorem dX1_pass_1 : decode cX1_pass 1 = .ok (.dup, 1) := by decide +kernel
theorem dX1_pass_2 : decode cX1_pass 2 = .ok (.getfield 49, 3) := by decide +kernel
theorem dX1_pass_5 : decode cX1_pass 5 = .ok (.iconst 1, 1) := by decide +kernel
theorem dX1_pass_6 : decode cX1_pass 6 = .ok (.iadd, 1) := by decide +kernel
theorem dX1_pass_7 : decode cX1_pass 7 = .ok (.putfield 49, 3) := by decide +kernel
theorem dX1_pass_10 : decode cX1_pass 10 = .ok (.aload_n 0, 1) := by decide +kernel
theorem dX1_pass_11 : decode cX1_pass 11 = .ok (.getfield 57, 3) := by decide +kernel
theorem dX1_pass_14 : decode cX1_pass 14 = .ok (.lstore 5, 2) := by decide +kernel
theorem dX1_pass_16 : decode cX1_pass 16 = .ok (.iconst 0, 1) := by decide +kernel
theorem dX1_pass_17 : decode cX1_pass 17 = .ok (.istore 7, 2) := by decide +kernel
theorem dX1_pass_19 : decode cX1_pass 19 = .ok (.iload 7, 2) := by decide +kernel
theorem dX1_pass_21 : decode cX1_pass 21 = .ok (.aload_n 1, 1) := by decide +kernel
theorem dX1_pass_22 : decode cX1_pass 22 = .ok (.getfield 60, 3) := by decide +kernel
theorem dX1_pass_25 : decode cX1_pass 25 = .ok (.if_icmp .ge 15, 3) := by decide +kernel
theorem dX1_pass_28 : decode cX1_pass 28 = .ok (.aload_n 0, 1) := by decide +kernel
theorem dX1_pass_29 : decode cX1_pass 29 = .ok (.iload 7, 2) := by decide +kernel
theorem dX1_pass_31 : decode cX1_pass 31 = .ok (.invokevirtual 65, 3) := by decide +kernel
theorem dX1_pass_34 : decode cX1_pass 34 = .ok (.iinc 7 1, 3) := by decide +kernel
theorem dX1_pass_37 : decode cX1_pass 37 = .ok (.goto (-18), 3) := by decide +kernel
theorem dX1_pass_40 : decode cX1_pass 40 = .ok (.iconst 0, 1) := by decide +kernel
theorem dX1_pass_41 : decode cX1_pass 41 = .ok (.istore 7, 2) := by decide +kernel
theorem dX1_pass_43 : decode cX1_pass 43 = .ok (.iload 7, 2) := by decide +kernel
theorem dX1_pass_45 : decode cX1_pass 45 = .ok (.aload_n 1, 1) := by decide +kernel
theorem dX1_pass_46 : decode cX1_pass 46 = .ok (.getfield 60, 3) := by decide +kernel
theorem dX1_pass_49 : decode cX1_pass 49 = .ok (.if_icmp .ge 21, 3) := by decide +kernel
theorem dX1_pass_52 : decode cX1_pass 52 = .ok (.aload_n 0, 1) := by decide +kernel
theorem dX1_pass_53 : decode cX1_pass 53 = .ok (.aload_n 1, 1) := by decide +kernel
theorem dX1_pass_54 : decode cX1_pass 54 = .ok (.iload 7, 2) := by decide +kernel
theorem dX1_pass_56 : decode cX1_pass 56 = .ok (.aload 4, 2) := by decide +kernel
theorem dX1_pass_58 : decode cX1_pass 58 = .ok (.iload 7, 2) := by decide +kernel
theorem dX1_pass_60 : decode cX1_pass 60 = .ok (.iaload, 1) := by decide +kernel
theorem dX1_pass_61 : decode cX1_pass 61 = .ok (.invokevirtual 69, 3) := by decide +kernel
theorem dX1_pass_64 : decode cX1_pass 64 = .ok (.iinc 7 1, 3) := by decide +kernel
theorem dX1_pass_67 : decode cX1_pass 67 = .ok (.goto (-24), 3) := by decide +kernel
theorem dX1_pass_70 : decode cX1_pass 70 = .ok (.iconst 0, 1) := by decide +kernel
theorem dX1_pass_71 : decode cX1_pass 71 = .ok (.istore 7, 2) := by decide +kernel
theorem dX1_pass_73 : decode cX1_pass 73 = .ok (.iload 7, 2) := by decide +kernel
theorem dX1_pass_75 : decode cX1_pass 75 = .ok (.aload_n 1, 1) := by decide +kernel
theorem dX1_pass_76 : decode cX1_pass 76 = .ok (.getfield 60, 3) := by decide +kernel
theorem dX1_pass_79 : decode cX1_pass 79 = .ok (.if_icmp .ge 17, 3) := by decide +kernel
theorem dX1_pass_82 : decode cX1_pass 82 = .ok (.aload_n 0, 1) := by decide +kernel
theorem dX1_pass_83 : decode cX1_pass 83 = .ok (.aload_n 1, 1) := by decide +kernel
theorem dX1_pass_84 : decode cX1_pass 84 = .ok (.iload 7, 2) := by decide +kernel
theorem dX1_pass_86 : decode cX1_pass 86 = .ok (.aload_n 3, 1) := by decide +kernel
theorem dX1_pass_87 : decode cX1_pass 87 = .ok (.invokevirtual 73, 3) := by decide +kernel
theorem dX1_pass_90 : decode cX1_pass 90 = .ok (.iinc 7 1, 3) := by decide +kernel
theorem dX1_pass_93 : decode cX1_pass 93 = .ok (.goto (-20), 3) := by decide +kernel
theorem dX1_pass_96 : decode cX1_pass 96 = .ok (.iconst 0, 1) := by decide +kernel
theorem dX1_pass_97 : decode cX1_pass 97 = .ok (.istore 7, 2) := by decide +kernel
theorem dX1_pass_99 : decode cX1_pass 99 = .ok (.iload 7, 2) := by decide +kernel
theorem dX1_pass_101 : decode cX1_pass 101 = .ok (.aload_n 1, 1) := by decide +kernel
theorem dX1_pass_102 : decode cX1_pass 102 = .ok (.getfield 60, 3) := by decide +kernel
theorem dX1_pass_105 : decode cX1_pass 105 = .ok (.if_icmp .ge 93, 3) := by decide +kernel
theorem dX1_pass_108 : decode cX1_pass 108 = .ok (.aload_n 0, 1) := by decide +kernel
theorem dX1_pass_109 : decode cX1_pass 109 = .ok (.aload_n 1, 1) := by decide +kernel
theorem dX1_pass_110 : decode cX1_pass 110 = .ok (.iload 7, 2) := by decide +kernel
theorem dX1_pass_112 : decode cX1_pass 112 = .ok (.aload_n 2, 1) := by decide +kernel
theorem dX1_pass_113 : decode cX1_pass 113 = .ok (.aload_n 1, 1) := by decide +kernel
theorem dX1_pass_114 : decode cX1_pass 114 = .ok (.getfield 77, 3) := by decide +kernel
theorem dX1_pass_117 : decode cX1_pass 117 = .ok (.iload 7, 2) := by decide +kernel
theorem dX1_pass_119 : decode cX1_pass 119 = .ok (.iaload, 1) := by decide +kernel
theorem dX1_pass_120 : decode cX1_pass 120 = .ok (.invokevirtual 80, 3) := by decide +kernel
theorem dX1_pass_123 : decode cX1_pass 123 = .ok (.ifCond .eq 20, 3) := by decide +kernel
theorem dX1_pass_126 : decode cX1_pass 126 = .ok (.aload_n 2, 1) := by decide +kernel
theorem dX1_pass_127 : decode cX1_pass 127 = .ok (.aload_n 1, 1) := by decide +kernel
theorem dX1_pass_128 : decode cX1_pass 128 = .ok (.getfield 77, 3) := by decide +kernel
theorem dX1_pass_131 : decode cX1_pass 131 = .ok (.iload 7, 2) := by decide +kernel
theorem dX1_pass_133 : decode cX1_pass 133 = .ok (.iaload, 1) := by decide +kernel
theorem dX1_pass_134 : decode cX1_pass 134 = .ok (.aload_n 0, 1) := by decide +kernel
theorem dX1_pass_135 : decode cX1_pass 135 = .ok (.iload 7, 2) := by decide +kernel
theorem dX1_pass_137 : decode cX1_pass 137 = .ok (.invokevirtual 86, 3) := by decide +kernel
theorem dX1_pass_140 : decode cX1_pass 140 = .ok (.goto 4, 3) := by decide +kernel
theorem dX1_pass_143 : decode cX1_pass 143 = .ok (.lconst 0, 1) := by decide +kernel
theorem dX1_pass_144 : decode cX1_pass 144 = .ok (.invokevirtual 90, 3) := by decide +kernel
theorem dX1_pass_147 : decode cX1_pass 147 = .ok (.aload_n 0, 1) := by decide +kernel
theorem dX1_pass_148 : decode cX1_pass 148 = .ok (.getfield 39, 3) := by decide +kernel
theorem dX1_pass_151 : decode cX1_pass 151 = .ok (.iload 7, 2) := by decide +kernel
theorem dX1_pass_153 : decode cX1_pass 153 = .ok (.dup2, 1) := by decide +kernel
theorem dX1_pass_154 : decode cX1_pass 154 = .ok (.laload, 1) := by decide +kernel
theorem dX1_pass_155 : decode cX1_pass 155 = .ok (.aload_n 1, 1) := by decide +kernel
theorem dX1_pass_156 : decode cX1_pass 156 = .ok (.getfield 94, 3) := by decide +kernel
theorem dX1_pass_159 : decode cX1_pass 159 = .ok (.iload 7, 2) := by decide +kernel
theorem dX1_pass_161 : decode cX1_pass 161 = .ok (.iaload, 1) := by decide +kernel
theorem dX1_pass_162 : decode cX1_pass 162 = .ok (.i2l, 1) := by decide +kernel
theorem dX1_pass_163 : decode cX1_pass 163 = .ok (.aload_n 0, 1) := by decide +kernel
theorem dX1_pass_164 : decode cX1_pass 164 = .ok (.getfield 9, 3) := by decide +kernel
theorem dX1_pass_167 : decode cX1_pass 167 = .ok (.iload 7, 2) := by decide +kernel
theorem dX1_pass_169 : decode cX1_pass 169 = .ok (.iaload, 1) := by decide +kernel
theorem dX1_pass_170 : decode cX1_pass 170 = .ok (.i2l, 1) := by decide +kernel
theorem dX1_pass_171 : decode cX1_pass 171 = .ok (.lmul, 1) := by decide +kernel
theorem dX1_pass_172 : decode cX1_pass 172 = .ok (.aload_n 1, 1) := by decide +kernel
theorem dX1_pass_173 : decode cX1_pass 173 = .ok (.getfield 97, 3) := by decide +kernel
theorem dX1_pass_176 : decode cX1_pass 176 = .ok (.iload 7, 2) := by decide +kernel
theorem dX1_pass_178 : decode cX1_pass 178 = .ok (.iaload, 1) := by decide +kernel
theorem dX1_pass_179 : decode cX1_pass 179 = .ok (.i2l, 1) := by decide +kernel
theorem dX1_pass_180 : decode cX1_pass 180 = .ok (.aload_n 0, 1) := by decide +kernel
theorem dX1_pass_181 : decode cX1_pass 181 = .ok (.getfield 21, 3) := by decide +kernel
theorem dX1_pass_184 : decode cX1_pass 184 = .ok (.iload 7, 2) := by decide +kernel
theorem dX1_pass_186 : decode cX1_pass 186 = .ok (.iaload, 1) := by decide +kernel
theorem dX1_pass_187 : decode cX1_pass 187 = .ok (.i2l, 1) := by decide +kernel
theorem dX1_pass_188 : decode cX1_pass 188 = .ok (.lmul, 1) := by decide +kernel
theorem dX1_pass_189 : decode cX1_pass 189 = .ok (.ladd, 1) := by decide +kernel
theorem dX1_pass_190 : decode cX1_pass 190 = .ok (.ladd, 1) := by decide +kernel
theorem dX1_pass_191 : decode cX1_pass 191 = .ok (.lastore, 1) := by decide +kernel
theorem dX1_pass_192 : decode cX1_pass 192 = .ok (.iinc 7 1, 3) := by decide +kernel
theorem dX1_pass_195 : decode cX1_pass 195 = .ok (.goto (-96), 3) := by decide +kernel
theorem dX1_pass_198 : decode cX1_pass 198 = .ok (.aload_n 0, 1) := by decide +kernel
theorem dX1_pass_199 : decode cX1_pass 199 = .ok (.getfield 57, 3) := by decide +kernel
theorem dX1_pass_202 : decode cX1_pass 202 = .ok (.lload 5, 2) := by decide +kernel
theorem dX1_pass_204 : decode cX1_pass 204 = .ok (.lsub, 1) := by decide +kernel
theorem dX1_pass_205 : decode cX1_pass 205 = .ok (.l2i, 1) := by decide +kernel
theorem dX1_pass_206 : decode cX1_pass 206 = .ok (.ireturn, 1) := by decide +kernel
theorem dX1_arrive_0 : decode cX1_arrive 0 = .ok (.iload_n 1, 1) := by decide +kernel
theorem dX1_arrive_1 : decode cX1_arrive 1 = .ok (.bipush 6, 2) := by decide +kernel
theorem dX1_arrive_3 : decode cX1_arrive 3 = .ok (.imul, 1) := by decide +kernel
theorem dX1_arrive_4 : decode cX1_arrive 4 = .ok (.istore_n 2, 1) := by decide +kernel
theorem dX1_arrive_5 : decode cX1_arrive 5 = .ok (.aload_n 0, 1) := by decide +kernel
theorem dX1_arrive_6 : decode cX1_arrive 6 = .ok (.getfield 15, 3) := by decide +kernel
theorem dX1_arrive_9 : decode cX1_arrive 9 = .ok (.iload_n 2, 1) := by decide +kernel
theorem dX1_arrive_10 : decode cX1_arrive 10 = .ok (.iaload, 1) := by decide +kernel
theorem dX1_arrive_11 : decode cX1_arrive 11 = .ok (.istore_n 3, 1) := by decide +kernel
theorem dX1_arrive_12 : decode cX1_arrive 12 = .ok (.aload_n 0, 1) := by decide +kernel
theorem dX1_arrive_13 : decode cX1_arrive 13 = .ok (.getfield 15, 3) := by decide +kernel
theorem dX1_arrive_16 : decode cX1_arrive 16 = .ok (.iload_n 2, 1) := by decide +kernel
theorem dX1_arrive_17 : decode cX1_arrive 17 = .ok (.iconst 1, 1) := by decide +kernel
theorem dX1_arrive_18 : decode cX1_arrive 18 = .ok (.iadd, 1) := by decide +kernel
theorem dX1_arrive_19 : decode cX1_arrive 19 = .ok (.aload_n 0, 1) := by decide +kernel
theorem dX1_arrive_20 : decode cX1_arrive 20 = .ok (.getfield 15, 3) := by decide +kernel
theorem dX1_arrive_23 : decode cX1_arrive 23 = .ok (.iload_n 2, 1) := by decide +kernel
theorem dX1_arrive_24 : decode cX1_arrive 24 = .ok (.iconst 5, 1) := by decide +kernel
theorem dX1_arrive_25 : decode cX1_arrive 25 = .ok (.invokestatic 43, 3) := by decide +kernel
theorem dX1_arrive_28 : decode cX1_arrive 28 = .ok (.aload_n 0, 1) := by decide +kernel
theorem dX1_arrive_29 : decode cX1_arrive 29 = .ok (.getfield 15, 3) := by decide +kernel
theorem dX1_arrive_32 : decode cX1_arrive 32 = .ok (.iload_n 2, 1) := by decide +kernel
theorem dX1_arrive_33 : decode cX1_arrive 33 = .ok (.bipush 6, 2) := by decide +kernel
theorem dX1_arrive_35 : decode cX1_arrive 35 = .ok (.iadd, 1) := by decide +kernel
theorem dX1_arrive_36 : decode cX1_arrive 36 = .ok (.iconst 1, 1) := by decide +kernel
theorem dX1_arrive_37 : decode cX1_arrive 37 = .ok (.isub, 1) := by decide +kernel
theorem dX1_arrive_38 : decode cX1_arrive 38 = .ok (.iconst 0, 1) := by decide +kernel
theorem dX1_arrive_39 : decode cX1_arrive 39 = .ok (.iastore, 1) := by decide +kernel
theorem dX1_arrive_40 : decode cX1_arrive 40 = .ok (.aload_n 0, 1) := by decide +kernel
theorem dX1_arrive_41 : decode cX1_arrive 41 = .ok (.getfield 9, 3) := by decide +kernel
theorem dX1_arrive_44 : decode cX1_arrive 44 = .ok (.iload_n 1, 1) := by decide +kernel
theorem dX1_arrive_45 : decode cX1_arrive 45 = .ok (.dup2, 1) := by decide +kernel
theorem dX1_arrive_46 : decode cX1_arrive 46 = .ok (.iaload, 1) := by decide +kernel
theorem dX1_arrive_47 : decode cX1_arrive 47 = .ok (.iload_n 3, 1) := by decide +kernel
theorem dX1_arrive_48 : decode cX1_arrive 48 = .ok (.iadd, 1) := by decide +kernel
theorem dX1_arrive_49 : decode cX1_arrive 49 = .ok (.iastore, 1) := by decide +kernel
theorem dX1_arrive_50 : decode cX1_arrive 50 = .ok (.aload_n 0, 1) := by decide +kernel
theorem dX1_arrive_51 : decode cX1_arrive 51 = .ok (.getfield 18, 3) := by decide +kernel
theorem dX1_arrive_54 : decode cX1_arrive 54 = .ok (.iload_n 1, 1) := by decide +kernel
theorem dX1_arrive_55 : decode cX1_arrive 55 = .ok (.dup2, 1) := by decide +kernel
theorem dX1_arrive_56 : decode cX1_arrive 56 = .ok (.iaload, 1) := by decide +kernel
theorem dX1_arrive_57 : decode cX1_arrive 57 = .ok (.iload_n 3, 1) := by decide +kernel
theorem dX1_arrive_58 : decode cX1_arrive 58 = .ok (.isub, 1) := by decide +kernel
theorem dX1_arrive_59 : decode cX1_arrive 59 = .ok (.iastore, 1) := by decide +kernel
theorem dX1_arrive_60 : decode cX1_arrive 60 = .ok (.return_, 1) := by decide +kernel
theorem dX1_learn_0 : decode cX1_learn 0 = .ok (.aload_n 0, 1) := by decide +kernel
theorem dX1_learn_1 : decode cX1_learn 1 = .ok (.getfield 49, 3) := by decide +kernel
theorem dX1_learn_4 : decode cX1_learn 4 = .ok (.iconst 1, 1) := by decide +kernel
theorem dX1_learn_5 : decode cX1_learn 5 = .ok (.isub, 1) := by decide +kernel
theorem dX1_learn_6 : decode cX1_learn 6 = .ok (.istore 4, 2) := by decide +kernel
theorem dX1_learn_8 : decode cX1_learn 8 = .ok (.aload_n 1, 1) := by decide +kernel
theorem dX1_learn_9 : decode cX1_learn 9 = .ok (.iload_n 2, 1) := by decide +kernel
theorem dX1_learn_10 : decode cX1_learn 10 = .ok (.invokevirtual 100, 3) := by decide +kernel
theorem dX1_learn_13 : decode cX1_learn 13 = .ok (.istore 5, 2) := by decide +kernel
theorem dX1_learn_15 : decode cX1_learn 15 = .ok (.aload_n 0, 1) := by decide +kernel
theorem dX1_learn_16 : decode cX1_learn 16 = .ok (.getfield 33, 3) := by decide +kernel
theorem dX1_learn_19 : decode cX1_learn 19 = .ok (.iload_n 2, 1) := by decide +kernel
theorem dX1_learn_20 : decode cX1_learn 20 = .ok (.iconst 4, 1) := by decide +kernel
theorem dX1_learn_21 : decode cX1_learn 21 = .ok (.imul, 1) := by decide +kernel
theorem dX1_learn_22 : decode cX1_learn 22 = .ok (.iload 4, 2) := by decide +kernel
theorem dX1_learn_24 : decode cX1_learn 24 = .ok (.iconst 4, 1) := by decide +kernel
theorem dX1_learn_25 : decode cX1_learn 25 = .ok (.irem, 1) := by decide +kernel
theorem dX1_learn_26 : decode cX1_learn 26 = .ok (.iadd, 1) := by decide +kernel
theorem dX1_learn_27 : decode cX1_learn 27 = .ok (.iload 5, 2) := by decide +kernel
theorem dX1_learn_29 : decode cX1_learn 29 = .ok (.ifCond .eq 7, 3) := by decide +kernel
theorem dX1_learn_32 : decode cX1_learn 32 = .ok (.iload_n 3, 1) := by decide +kernel
theorem dX1_learn_33 : decode cX1_learn 33 = .ok (.goto 4, 3) := by decide +kernel
theorem dX1_learn_36 : decode cX1_learn 36 = .ok (.iconst 0, 1) := by decide +kernel
theorem dX1_learn_37 : decode cX1_learn 37 = .ok (.iastore, 1) := by decide +kernel
theorem dX1_learn_38 : decode cX1_learn 38 = .ok (.aload_n 0, 1) := by decide +kernel
theorem dX1_learn_39 : decode cX1_learn 39 = .ok (.getfield 21, 3) := by decide +kernel
theorem dX1_learn_42 : decode cX1_learn 42 = .ok (.iload_n 2, 1) := by decide +kernel
theorem dX1_learn_43 : decode cX1_learn 43 = .ok (.dup2, 1) := by decide +kernel
theorem dX1_learn_44 : decode cX1_learn 44 = .ok (.iaload, 1) := by decide +kernel
theorem dX1_learn_45 : decode cX1_learn 45 = .ok (.iload 5, 2) := by decide +kernel
theorem dX1_learn_47 : decode cX1_learn 47 = .ok (.ifCond .eq 7, 3) := by decide +kernel
theorem dX1_learn_50 : decode cX1_learn 50 = .ok (.iload_n 3, 1) := by decide +kernel
theorem dX1_learn_51 : decode cX1_learn 51 = .ok (.goto 4, 3) := by decide +kernel
theorem dX1_learn_54 : decode cX1_learn 54 = .ok (.iconst 0, 1) := by decide +kernel
theorem dX1_learn_55 : decode cX1_learn 55 = .ok (.iadd, 1) := by decide +kernel
theorem dX1_learn_56 : decode cX1_learn 56 = .ok (.iastore, 1) := by decide +kernel
theorem dX1_learn_57 : decode cX1_learn 57 = .ok (.aload_n 1, 1) := by decide +kernel
theorem dX1_learn_58 : decode cX1_learn 58 = .ok (.getfield 103, 3) := by decide +kernel
theorem dX1_learn_61 : decode cX1_learn 61 = .ok (.iload_n 2, 1) := by decide +kernel
theorem dX1_learn_62 : decode cX1_learn 62 = .ok (.iaload, 1) := by decide +kernel
theorem dX1_learn_63 : decode cX1_learn 63 = .ok (.istore 6, 2) := by decide +kernel
theorem dX1_learn_65 : decode cX1_learn 65 = .ok (.iload 4, 2) := by decide +kernel
theorem dX1_learn_67 : decode cX1_learn 67 = .ok (.iconst 1, 1) := by decide +kernel
theorem dX1_learn_68 : decode cX1_learn 68 = .ok (.isub, 1) := by decide +kernel
theorem dX1_learn_69 : decode cX1_learn 69 = .ok (.aload_n 1, 1) := by decide +kernel
theorem dX1_learn_70 : decode cX1_learn 70 = .ok (.getfield 106, 3) := by decide +kernel
theorem dX1_learn_73 : decode cX1_learn 73 = .ok (.iload_n 2, 1) := by decide +kernel
theorem dX1_learn_74 : decode cX1_learn 74 = .ok (.iaload, 1) := by decide +kernel
theorem dX1_learn_75 : decode cX1_learn 75 = .ok (.isub, 1) := by decide +kernel
theorem dX1_learn_76 : decode cX1_learn 76 = .ok (.istore 7, 2) := by decide +kernel
theorem dX1_learn_78 : decode cX1_learn 78 = .ok (.iload 7, 2) := by decide +kernel
theorem dX1_learn_80 : decode cX1_learn 80 = .ok (.ifCond .lt 12, 3) := by decide +kernel
theorem dX1_learn_83 : decode cX1_learn 83 = .ok (.aload_n 1, 1) := by decide +kernel
theorem dX1_learn_84 : decode cX1_learn 84 = .ok (.iload 6, 2) := by decide +kernel
theorem dX1_learn_86 : decode cX1_learn 86 = .ok (.invokevirtual 109, 3) := by decide +kernel
theorem dX1_learn_89 : decode cX1_learn 89 = .ok (.ifCond .ne 4, 3) := by decide +kernel
theorem dX1_learn_92 : decode cX1_learn 92 = .ok (.return_, 1) := by decide +kernel
theorem dX1_learn_93 : decode cX1_learn 93 = .ok (.aload_n 0, 1) := by decide +kernel
theorem dX1_learn_94 : decode cX1_learn 94 = .ok (.getfield 36, 3) := by decide +kernel
theorem dX1_learn_97 : decode cX1_learn 97 = .ok (.iload_n 2, 1) := by decide +kernel
theorem dX1_learn_98 : decode cX1_learn 98 = .ok (.iconst 4, 1) := by decide +kernel
theorem dX1_learn_99 : decode cX1_learn 99 = .ok (.imul, 1) := by decide +kernel
theorem dX1_learn_100 : decode cX1_learn 100 = .ok (.iload 7, 2) := by decide +kernel
theorem dX1_learn_102 : decode cX1_learn 102 = .ok (.iconst 4, 1) := by decide +kernel
theorem dX1_learn_103 : decode cX1_learn 103 = .ok (.irem, 1) := by decide +kernel
theorem dX1_learn_104 : decode cX1_learn 104 = .ok (.iadd, 1) := by decide +kernel
theorem dX1_learn_105 : decode cX1_learn 105 = .ok (.iaload, 1) := by decide +kernel
theorem dX1_learn_106 : decode cX1_learn 106 = .ok (.istore 8, 2) := by decide +kernel
theorem dX1_learn_108 : decode cX1_learn 108 = .ok (.aload_n 0, 1) := by decide +kernel
theorem dX1_learn_109 : decode cX1_learn 109 = .ok (.getfield 24, 3) := by decide +kernel
theorem dX1_learn_112 : decode cX1_learn 112 = .ok (.iload_n 2, 1) := by decide +kernel
theorem dX1_learn_113 : decode cX1_learn 113 = .ok (.dup2, 1) := by decide +kernel
theorem dX1_learn_114 : decode cX1_learn 114 = .ok (.iaload, 1) := by decide +kernel
theorem dX1_learn_115 : decode cX1_learn 115 = .ok (.iload 8, 2) := by decide +kernel
theorem dX1_learn_117 : decode cX1_learn 117 = .ok (.iadd, 1) := by decide +kernel
theorem dX1_learn_118 : decode cX1_learn 118 = .ok (.iastore, 1) := by decide +kernel
theorem dX1_learn_119 : decode cX1_learn 119 = .ok (.aload_n 0, 1) := by decide +kernel
theorem dX1_learn_120 : decode cX1_learn 120 = .ok (.getfield 21, 3) := by decide +kernel
theorem dX1_learn_123 : decode cX1_learn 123 = .ok (.iload 6, 2) := by decide +kernel
theorem dX1_learn_125 : decode cX1_learn 125 = .ok (.dup2, 1) := by decide +kernel
theorem dX1_learn_126 : decode cX1_learn 126 = .ok (.iaload, 1) := by decide +kernel
theorem dX1_learn_127 : decode cX1_learn 127 = .ok (.iload 8, 2) := by decide +kernel
theorem dX1_learn_129 : decode cX1_learn 129 = .ok (.iadd, 1) := by decide +kernel
theorem dX1_learn_130 : decode cX1_learn 130 = .ok (.iastore, 1) := by decide +kernel
theorem dX1_learn_131 : decode cX1_learn 131 = .ok (.aload_n 0, 1) := by decide +kernel
theorem dX1_learn_132 : decode cX1_learn 132 = .ok (.getfield 33, 3) := by decide +kernel
theorem dX1_learn_135 : decode cX1_learn 135 = .ok (.iload 6, 2) := by decide +kernel
theorem dX1_learn_137 : decode cX1_learn 137 = .ok (.iconst 4, 1) := by decide +kernel
theorem dX1_learn_138 : decode cX1_learn 138 = .ok (.imul, 1) := by decide +kernel
theorem dX1_learn_139 : decode cX1_learn 139 = .ok (.iload 4, 2) := by decide +kernel
theorem dX1_learn_141 : decode cX1_learn 141 = .ok (.iconst 4, 1) := by decide +kernel
theorem dX1_learn_142 : decode cX1_learn 142 = .ok (.irem, 1) := by decide +kernel
theorem dX1_learn_143 : decode cX1_learn 143 = .ok (.iadd, 1) := by decide +kernel
theorem dX1_learn_144 : decode cX1_learn 144 = .ok (.dup2, 1) := by decide +kernel
theorem dX1_learn_145 : decode cX1_learn 145 = .ok (.iaload, 1) := by decide +kernel
theorem dX1_learn_146 : decode cX1_learn 146 = .ok (.iload 8, 2) := by decide +kernel
theorem dX1_learn_148 : decode cX1_learn 148 = .ok (.iadd, 1) := by decide +kernel
theorem dX1_learn_149 : decode cX1_learn 149 = .ok (.iastore, 1) := by decide +kernel
theorem dX1_learn_150 : decode cX1_learn 150 = .ok (.return_, 1) := by decide +kernel
theorem dX1_send_0 : decode cX1_send 0 = .ok (.iconst 0, 1) := by decide +kernel
theorem dX1_send_1 : decode cX1_send 1 = .ok (.istore 4, 2) := by decide +kernel
theorem dX1_send_3 : decode cX1_send 3 = .ok (.aload_n 1, 1) := by decide +kernel
theorem dX1_send_4 : decode cX1_send 4 = .ok (.iload_n 2, 1) := by decide +kernel
theorem dX1_send_5 : decode cX1_send 5 = .ok (.invokevirtual 100, 3) := by decide +kernel
theorem dX1_send_8 : decode cX1_send 8 = .ok (.ifCond .eq 35, 3) := by decide +kernel
theorem dX1_send_11 : decode cX1_send 11 = .ok (.aload_n 0, 1) := by decide +kernel
theorem dX1_send_12 : decode cX1_send 12 = .ok (.getfield 9, 3) := by decide +kernel
theorem dX1_send_15 : decode cX1_send 15 = .ok (.iload_n 2, 1) := by decide +kernel
theorem dX1_send_16 : decode cX1_send 16 = .ok (.iaload, 1) := by decide +kernel
theorem dX1_send_17 : decode cX1_send 17 = .ok (.aload_n 0, 1) := by decide +kernel
theorem dX1_send_18 : decode cX1_send 18 = .ok (.getfield 21, 3) := by decide +kernel
theorem dX1_send_21 : decode cX1_send 21 = .ok (.iload_n 2, 1) := by decide +kernel
theorem dX1_send_22 : decode cX1_send 22 = .ok (.iaload, 1) := by decide +kernel
theorem dX1_send_23 : decode cX1_send 23 = .ok (.invokestatic 110, 3) := by decide +kernel
theorem dX1_send_26 : decode cX1_send 26 = .ok (.istore 4, 2) := by decide +kernel
theorem dX1_send_28 : decode cX1_send 28 = .ok (.aload_n 0, 1) := by decide +kernel
theorem dX1_send_29 : decode cX1_send 29 = .ok (.dup, 1) := by decide +kernel
theorem dX1_send_30 : decode cX1_send 30 = .ok (.getfield 57, 3) := by decide +kernel
theorem dX1_send_33 : decode cX1_send 33 = .ok (.iload 4, 2) := by decide +kernel
theorem dX1_send_35 : decode cX1_send 35 = .ok (.i2l, 1) := by decide +kernel
theorem dX1_send_36 : decode cX1_send 36 = .ok (.ladd, 1) := by decide +kernel
theorem dX1_send_37 : decode cX1_send 37 = .ok (.putfield 57, 3) := by decide +kernel
theorem dX1_send_40 : decode cX1_send 40 = .ok (.goto 73, 3) := by decide +kernel
theorem dX1_send_43 : decode cX1_send 43 = .ok (.aload_n 3, 1) := by decide +kernel
theorem dX1_send_44 : decode cX1_send 44 = .ok (.iconst 0, 1) := by decide +kernel
theorem dX1_send_45 : decode cX1_send 45 = .ok (.putfield 116, 3) := by decide +kernel
theorem dX1_send_48 : decode cX1_send 48 = .ok (.iload_n 2, 1) := by decide +kernel
theorem dX1_send_49 : decode cX1_send 49 = .ok (.iconst 1, 1) := by decide +kernel
theorem dX1_send_50 : decode cX1_send 50 = .ok (.iadd, 1) := by decide +kernel
theorem dX1_send_51 : decode cX1_send 51 = .ok (.istore 5, 2) := by decide +kernel
theorem dX1_send_53 : decode cX1_send 53 = .ok (.iload 5, 2) := by decide +kernel
theorem dX1_send_55 : decode cX1_send 55 = .ok (.aload_n 1, 1) := by decide +kernel
theorem dX1_send_56 : decode cX1_send 56 = .ok (.getfield 60, 3) := by decide +kernel
theorem dX1_send_59 : decode cX1_send 59 = .ok (.if_icmp .ge 31, 3) := by decide +kernel
theorem dX1_send_62 : decode cX1_send 62 = .ok (.aload_n 1, 1) := by decide +kernel
theorem dX1_send_63 : decode cX1_send 63 = .ok (.getfield 103, 3) := by decide +kernel
theorem dX1_send_66 : decode cX1_send 66 = .ok (.iload 5, 2) := by decide +kernel
theorem dX1_send_68 : decode cX1_send 68 = .ok (.iaload, 1) := by decide +kernel
theorem dX1_send_69 : decode cX1_send 69 = .ok (.iload_n 2, 1) := by decide +kernel
theorem dX1_send_70 : decode cX1_send 70 = .ok (.if_icmp .ne 14, 3) := by decide +kernel
theorem dX1_send_73 : decode cX1_send 73 = .ok (.aload_n 3, 1) := by decide +kernel
theorem dX1_send_74 : decode cX1_send 74 = .ok (.aload_n 0, 1) := by decide +kernel
theorem dX1_send_75 : decode cX1_send 75 = .ok (.getfield 24, 3) := by decide +kernel
theorem dX1_send_78 : decode cX1_send 78 = .ok (.iload 5, 2) := by decide +kernel
theorem dX1_send_80 : decode cX1_send 80 = .ok (.iaload, 1) := by decide +kernel
theorem dX1_send_81 : decode cX1_send 81 = .ok (.invokevirtual 121, 3) := by decide +kernel
theorem dX1_send_84 : decode cX1_send 84 = .ok (.iinc 5 1, 3) := by decide +kernel
theorem dX1_send_87 : decode cX1_send 87 = .ok (.goto (-34), 3) := by decide +kernel
theorem dX1_send_90 : decode cX1_send 90 = .ok (.aload_n 3, 1) := by decide +kernel
theorem dX1_send_91 : decode cX1_send 91 = .ok (.aload_n 1, 1) := by decide +kernel
theorem dX1_send_92 : decode cX1_send 92 = .ok (.getfield 124, 3) := by decide +kernel
theorem dX1_send_95 : decode cX1_send 95 = .ok (.aload_n 0, 1) := by decide +kernel
theorem dX1_send_96 : decode cX1_send 96 = .ok (.getfield 9, 3) := by decide +kernel
theorem dX1_send_99 : decode cX1_send 99 = .ok (.iload_n 2, 1) := by decide +kernel
theorem dX1_send_100 : decode cX1_send 100 = .ok (.iaload, 1) := by decide +kernel
theorem dX1_send_101 : decode cX1_send 101 = .ok (.invokevirtual 127, 3) := by decide +kernel
theorem dX1_send_104 : decode cX1_send 104 = .ok (.aload_n 0, 1) := by decide +kernel
theorem dX1_send_105 : decode cX1_send 105 = .ok (.aload_n 1, 1) := by decide +kernel
theorem dX1_send_106 : decode cX1_send 106 = .ok (.iload_n 2, 1) := by decide +kernel
theorem dX1_send_107 : decode cX1_send 107 = .ok (.aload_n 3, 1) := by decide +kernel
theorem dX1_send_108 : decode cX1_send 108 = .ok (.invokevirtual 131, 3) := by decide +kernel
theorem dX1_send_111 : decode cX1_send 111 = .ok (.istore 4, 2) := by decide +kernel
theorem dX1_send_113 : decode cX1_send 113 = .ok (.aload_n 0, 1) := by decide +kernel
theorem dX1_send_114 : decode cX1_send 114 = .ok (.getfield 9, 3) := by decide +kernel
theorem dX1_send_117 : decode cX1_send 117 = .ok (.iload_n 2, 1) := by decide +kernel
theorem dX1_send_118 : decode cX1_send 118 = .ok (.dup2, 1) := by decide +kernel
theorem dX1_send_119 : decode cX1_send 119 = .ok (.iaload, 1) := by decide +kernel
theorem dX1_send_120 : decode cX1_send 120 = .ok (.iload 4, 2) := by decide +kernel
theorem dX1_send_122 : decode cX1_send 122 = .ok (.isub, 1) := by decide +kernel
theorem dX1_send_123 : decode cX1_send 123 = .ok (.iastore, 1) := by decide +kernel
theorem dX1_send_124 : decode cX1_send 124 = .ok (.aload_n 0, 1) := by decide +kernel
theorem dX1_send_125 : decode cX1_send 125 = .ok (.getfield 21, 3) := by decide +kernel
theorem dX1_send_128 : decode cX1_send 128 = .ok (.iload_n 2, 1) := by decide +kernel
theorem dX1_send_129 : decode cX1_send 129 = .ok (.dup2, 1) := by decide +kernel
theorem dX1_send_130 : decode cX1_send 130 = .ok (.iaload, 1) := by decide +kernel
theorem dX1_send_131 : decode cX1_send 131 = .ok (.iload 4, 2) := by decide +kernel
theorem dX1_send_133 : decode cX1_send 133 = .ok (.isub, 1) := by decide +kernel
theorem dX1_send_134 : decode cX1_send 134 = .ok (.iastore, 1) := by decide +kernel
theorem dX1_send_135 : decode cX1_send 135 = .ok (.aload_n 0, 1) := by decide +kernel
theorem dX1_send_136 : decode cX1_send 136 = .ok (.getfield 30, 3) := by decide +kernel
theorem dX1_send_139 : decode cX1_send 139 = .ok (.iload_n 2, 1) := by decide +kernel
theorem dX1_send_140 : decode cX1_send 140 = .ok (.dup2, 1) := by decide +kernel
theorem dX1_send_141 : decode cX1_send 141 = .ok (.iaload, 1) := by decide +kernel
theorem dX1_send_142 : decode cX1_send 142 = .ok (.iload 4, 2) := by decide +kernel
theorem dX1_send_144 : decode cX1_send 144 = .ok (.iadd, 1) := by decide +kernel
theorem dX1_send_145 : decode cX1_send 145 = .ok (.iastore, 1) := by decide +kernel
theorem dX1_send_146 : decode cX1_send 146 = .ok (.return_, 1) := by decide +kernel
theorem dX1_deliver_0 : decode cX1_deliver 0 = .ok (.iconst 0, 1) := by decide +kernel
theorem dX1_deliver_1 : decode cX1_deliver 1 = .ok (.istore 4, 2) := by decide +kernel
theorem dX1_deliver_3 : decode cX1_deliver 3 = .ok (.iconst 0, 1) := by decide +kernel
theorem dX1_deliver_4 : decode cX1_deliver 4 = .ok (.istore 5, 2) := by decide +kernel
theorem dX1_deliver_6 : decode cX1_deliver 6 = .ok (.iload_n 2, 1) := by decide +kernel
theorem dX1_deliver_7 : decode cX1_deliver 7 = .ok (.iconst 1, 1) := by decide +kernel
theorem dX1_deliver_8 : decode cX1_deliver 8 = .ok (.iadd, 1) := by decide +kernel
theorem dX1_deliver_9 : decode cX1_deliver 9 = .ok (.istore 6, 2) := by decide +kernel
theorem dX1_deliver_11 : decode cX1_deliver 11 = .ok (.iload 6, 2) := by decide +kernel
theorem dX1_deliver_13 : decode cX1_deliver 13 = .ok (.aload_n 1, 1) := by decide +kernel
theorem dX1_deliver_14 : decode cX1_deliver 14 = .ok (.getfield 60, 3) := by decide +kernel
theorem dX1_deliver_17 : decode cX1_deliver 17 = .ok (.if_icmp .ge 81, 3) := by decide +kernel
theorem dX1_deliver_20 : decode cX1_deliver 20 = .ok (.aload_n 1, 1) := by decide +kernel
theorem dX1_deliver_21 : decode cX1_deliver 21 = .ok (.getfield 103, 3) := by decide +kernel
theorem dX1_deliver_24 : decode cX1_deliver 24 = .ok (.iload 6, 2) := by decide +kernel
theorem dX1_deliver_26 : decode cX1_deliver 26 = .ok (.iaload, 1) := by decide +kernel
theorem dX1_deliver_27 : decode cX1_deliver 27 = .ok (.iload_n 2, 1) := by decide +kernel
theorem dX1_deliver_28 : decode cX1_deliver 28 = .ok (.if_icmp .ne 64, 3) := by decide +kernel
theorem dX1_deliver_31 : decode cX1_deliver 31 = .ok (.iload 5, 2) := by decide +kernel
theorem dX1_deliver_33 : decode cX1_deliver 33 = .ok (.aload_n 3, 1) := by decide +kernel
theorem dX1_deliver_34 : decode cX1_deliver 34 = .ok (.getfield 116, 3) := by decide +kernel
theorem dX1_deliver_37 : decode cX1_deliver 37 = .ok (.if_icmp .ge 55, 3) := by decide +kernel
theorem dX1_deliver_40 : decode cX1_deliver 40 = .ok (.aload_n 3, 1) := by decide +kernel
theorem dX1_deliver_41 : decode cX1_deliver 41 = .ok (.getfield 135, 3) := by decide +kernel
theorem dX1_deliver_44 : decode cX1_deliver 44 = .ok (.iload 5, 2) := by decide +kernel
theorem dX1_deliver_46 : decode cX1_deliver 46 = .ok (.iaload, 1) := by decide +kernel
theorem dX1_deliver_47 : decode cX1_deliver 47 = .ok (.istore 7, 2) := by decide +kernel
theorem dX1_deliver_49 : decode cX1_deliver 49 = .ok (.iinc 5 1, 3) := by decide +kernel
theorem dX1_deliver_52 : decode cX1_deliver 52 = .ok (.aload_n 0, 1) := by decide +kernel
theorem dX1_deliver_53 : decode cX1_deliver 53 = .ok (.getfield 24, 3) := by decide +kernel
theorem dX1_deliver_56 : decode cX1_deliver 56 = .ok (.iload 6, 2) := by decide +kernel
theorem dX1_deliver_58 : decode cX1_deliver 58 = .ok (.dup2, 1) := by decide +kernel
theorem dX1_deliver_59 : decode cX1_deliver 59 = .ok (.iaload, 1) := by decide +kernel
theorem dX1_deliver_60 : decode cX1_deliver 60 = .ok (.iload 7, 2) := by decide +kernel
theorem dX1_deliver_62 : decode cX1_deliver 62 = .ok (.isub, 1) := by decide +kernel
theorem dX1_deliver_63 : decode cX1_deliver 63 = .ok (.iastore, 1) := by decide +kernel
theorem dX1_deliver_64 : decode cX1_deliver 64 = .ok (.aload_n 0, 1) := by decide +kernel
theorem dX1_deliver_65 : decode cX1_deliver 65 = .ok (.getfield 27, 3) := by decide +kernel
theorem dX1_deliver_68 : decode cX1_deliver 68 = .ok (.iload 6, 2) := by decide +kernel
theorem dX1_deliver_70 : decode cX1_deliver 70 = .ok (.dup2, 1) := by decide +kernel
theorem dX1_deliver_71 : decode cX1_deliver 71 = .ok (.iaload, 1) := by decide +kernel
theorem dX1_deliver_72 : decode cX1_deliver 72 = .ok (.iload 7, 2) := by decide +kernel
theorem dX1_deliver_74 : decode cX1_deliver 74 = .ok (.isub, 1) := by decide +kernel
theorem dX1_deliver_75 : decode cX1_deliver 75 = .ok (.iastore, 1) := by decide +kernel
theorem dX1_deliver_76 : decode cX1_deliver 76 = .ok (.aload_n 0, 1) := by decide +kernel
theorem dX1_deliver_77 : decode cX1_deliver 77 = .ok (.aload_n 1, 1) := by decide +kernel
theorem dX1_deliver_78 : decode cX1_deliver 78 = .ok (.iload 6, 2) := by decide +kernel
theorem dX1_deliver_80 : decode cX1_deliver 80 = .ok (.iload 7, 2) := by decide +kernel
theorem dX1_deliver_82 : decode cX1_deliver 82 = .ok (.invokevirtual 138, 3) := by decide +kernel
theorem dX1_deliver_85 : decode cX1_deliver 85 = .ok (.iload 4, 2) := by decide +kernel
theorem dX1_deliver_87 : decode cX1_deliver 87 = .ok (.iload 7, 2) := by decide +kernel
theorem dX1_deliver_89 : decode cX1_deliver 89 = .ok (.iadd, 1) := by decide +kernel
theorem dX1_deliver_90 : decode cX1_deliver 90 = .ok (.istore 4, 2) := by decide +kernel
theorem dX1_deliver_92 : decode cX1_deliver 92 = .ok (.iinc 6 1, 3) := by decide +kernel
theorem dX1_deliver_95 : decode cX1_deliver 95 = .ok (.goto (-84), 3) := by decide +kernel
theorem dX1_deliver_98 : decode cX1_deliver 98 = .ok (.iload 4, 2) := by decide +kernel
theorem dX1_deliver_100 : decode cX1_deliver 100 = .ok (.ireturn, 1) := by decide +kernel
theorem dX1_putOnWay_0 : decode cX1_putOnWay 0 = .ok (.aload_n 0, 1) := by decide +kernel
theorem dX1_putOnWay_1 : decode cX1_putOnWay 1 = .ok (.getfield 15, 3) := by decide +kernel
theorem dX1_putOnWay_4 : decode cX1_putOnWay 4 = .ok (.iload_n 2, 1) := by decide +kernel
theorem dX1_putOnWay_5 : decode cX1_putOnWay 5 = .ok (.bipush 6, 2) := by decide +kernel
theorem dX1_putOnWay_7 : decode cX1_putOnWay 7 = .ok (.imul, 1) := by decide +kernel
theorem dX1_putOnWay_8 : decode cX1_putOnWay 8 = .ok (.aload_n 1, 1) := by decide +kernel
theorem dX1_putOnWay_9 : decode cX1_putOnWay 9 = .ok (.getfield 141, 3) := by decide +kernel
theorem dX1_putOnWay_12 : decode cX1_putOnWay 12 = .ok (.iload_n 2, 1) := by decide +kernel
theorem dX1_putOnWay_13 : decode cX1_putOnWay 13 = .ok (.iaload, 1) := by decide +kernel
theorem dX1_putOnWay_14 : decode cX1_putOnWay 14 = .ok (.iadd, 1) := by decide +kernel
theorem dX1_putOnWay_15 : decode cX1_putOnWay 15 = .ok (.iconst 1, 1) := by decide +kernel
theorem dX1_putOnWay_16 : decode cX1_putOnWay 16 = .ok (.isub, 1) := by decide +kernel
theorem dX1_putOnWay_17 : decode cX1_putOnWay 17 = .ok (.dup2, 1) := by decide +kernel
theorem dX1_putOnWay_18 : decode cX1_putOnWay 18 = .ok (.iaload, 1) := by decide +kernel
theorem dX1_putOnWay_19 : decode cX1_putOnWay 19 = .ok (.iload_n 3, 1) := by decide +kernel
theorem dX1_putOnWay_20 : decode cX1_putOnWay 20 = .ok (.iadd, 1) := by decide +kernel
theorem dX1_putOnWay_21 : decode cX1_putOnWay 21 = .ok (.iastore, 1) := by decide +kernel
theorem dX1_putOnWay_22 : decode cX1_putOnWay 22 = .ok (.aload_n 0, 1) := by decide +kernel
theorem dX1_putOnWay_23 : decode cX1_putOnWay 23 = .ok (.getfield 18, 3) := by decide +kernel
theorem dX1_putOnWay_26 : decode cX1_putOnWay 26 = .ok (.iload_n 2, 1) := by decide +kernel
theorem dX1_putOnWay_27 : decode cX1_putOnWay 27 = .ok (.dup2, 1) := by decide +kernel
theorem dX1_putOnWay_28 : decode cX1_putOnWay 28 = .ok (.iaload, 1) := by decide +kernel
theorem dX1_putOnWay_29 : decode cX1_putOnWay 29 = .ok (.iload_n 3, 1) := by decide +kernel
theorem dX1_putOnWay_30 : decode cX1_putOnWay 30 = .ok (.iadd, 1) := by decide +kernel
theorem dX1_putOnWay_31 : decode cX1_putOnWay 31 = .ok (.iastore, 1) := by decide +kernel
theorem dX1_putOnWay_32 : decode cX1_putOnWay 32 = .ok (.return_, 1) := by decide +kernel
theorem dX1_give_0 : decode cX1_give 0 = .ok (.iconst 1, 1) := by decide +kernel
theorem dX1_give_1 : decode cX1_give 1 = .ok (.aload_n 1, 1) := by decide +kernel
theorem dX1_give_2 : decode cX1_give 2 = .ok (.getfield 144, 3) := by decide +kernel
theorem dX1_give_5 : decode cX1_give 5 = .ok (.iload_n 2, 1) := by decide +kernel
theorem dX1_give_6 : decode cX1_give 6 = .ok (.iaload, 1) := by decide +kernel
theorem dX1_give_7 : decode cX1_give 7 = .ok (.invokestatic 147, 3) := by decide +kernel
theorem dX1_give_10 : decode cX1_give 10 = .ok (.i2l, 1) := by decide +kernel
theorem dX1_give_11 : decode cX1_give 11 = .ok (.lstore 5, 2) := by decide +kernel
theorem dX1_give_13 : decode cX1_give 13 = .ok (.lconst 0, 1) := by decide +kernel
theorem dX1_give_14 : decode cX1_give 14 = .ok (.lload_n 3, 1) := by decide +kernel
theorem dX1_give_15 : decode cX1_give 15 = .ok (.invokestatic 150, 3) := by decide +kernel
theorem dX1_give_18 : decode cX1_give 18 = .ok (.lload 5, 2) := by decide +kernel
theorem dX1_give_20 : decode cX1_give 20 = .ok (.ladd, 1) := by decide +kernel
theorem dX1_give_21 : decode cX1_give 21 = .ok (.lconst 1, 1) := by decide +kernel
theorem dX1_give_22 : decode cX1_give 22 = .ok (.lsub, 1) := by decide +kernel
theorem dX1_give_23 : decode cX1_give 23 = .ok (.lload 5, 2) := by decide +kernel
theorem dX1_give_25 : decode cX1_give 25 = .ok (.ldiv, 1) := by decide +kernel
theorem dX1_give_26 : decode cX1_give 26 = .ok (.lstore 7, 2) := by decide +kernel
theorem dX1_give_28 : decode cX1_give 28 = .ok (.lload 7, 2) := by decide +kernel
theorem dX1_give_30 : decode cX1_give 30 = .ok (.lload 5, 2) := by decide +kernel
theorem dX1_give_32 : decode cX1_give 32 = .ok (.lmul, 1) := by decide +kernel
theorem dX1_give_33 : decode cX1_give 33 = .ok (.aload_n 1, 1) := by decide +kernel
theorem dX1_give_34 : decode cX1_give 34 = .ok (.getfield 153, 3) := by decide +kernel
theorem dX1_give_37 : decode cX1_give 37 = .ok (.iload_n 2, 1) := by decide +kernel
theorem dX1_give_38 : decode cX1_give 38 = .ok (.iaload, 1) := by decide +kernel
theorem dX1_give_39 : decode cX1_give 39 = .ok (.i2l, 1) := by decide +kernel
theorem dX1_give_40 : decode cX1_give 40 = .ok (.invokestatic 156, 3) := by decide +kernel
theorem dX1_give_43 : decode cX1_give 43 = .ok (.l2i, 1) := by decide +kernel
theorem dX1_give_44 : decode cX1_give 44 = .ok (.istore 9, 2) := by decide +kernel
theorem dX1_give_46 : decode cX1_give 46 = .ok (.aload_n 0, 1) := by decide +kernel
theorem dX1_give_47 : decode cX1_give 47 = .ok (.getfield 36, 3) := by decide +kernel
theorem dX1_give_50 : decode cX1_give 50 = .ok (.iload_n 2, 1) := by decide +kernel
theorem dX1_give_51 : decode cX1_give 51 = .ok (.iconst 4, 1) := by decide +kernel
theorem dX1_give_52 : decode cX1_give 52 = .ok (.imul, 1) := by decide +kernel
theorem dX1_give_53 : decode cX1_give 53 = .ok (.aload_n 0, 1) := by decide +kernel
theorem dX1_give_54 : decode cX1_give 54 = .ok (.getfield 49, 3) := by decide +kernel
theorem dX1_give_57 : decode cX1_give 57 = .ok (.iconst 1, 1) := by decide +kernel
theorem dX1_give_58 : decode cX1_give 58 = .ok (.isub, 1) := by decide +kernel
theorem dX1_give_59 : decode cX1_give 59 = .ok (.iconst 4, 1) := by decide +kernel
theorem dX1_give_60 : decode cX1_give 60 = .ok (.irem, 1) := by decide +kernel
theorem dX1_give_61 : decode cX1_give 61 = .ok (.iadd, 1) := by decide +kernel
theorem dX1_give_62 : decode cX1_give 62 = .ok (.iload 9, 2) := by decide +kernel
theorem dX1_give_64 : decode cX1_give 64 = .ok (.iastore, 1) := by decide +kernel
theorem dX1_give_65 : decode cX1_give 65 = .ok (.aload_n 1, 1) := by decide +kernel
theorem dX1_give_66 : decode cX1_give 66 = .ok (.getfield 158, 3) := by decide +kernel
theorem dX1_give_69 : decode cX1_give 69 = .ok (.iload_n 2, 1) := by decide +kernel
theorem dX1_give_70 : decode cX1_give 70 = .ok (.iaload, 1) := by decide +kernel
theorem dX1_give_71 : decode cX1_give 71 = .ok (.ifCond .ne 26, 3) := by decide +kernel
theorem dX1_give_74 : decode cX1_give 74 = .ok (.aload_n 0, 1) := by decide +kernel
theorem dX1_give_75 : decode cX1_give 75 = .ok (.dup, 1) := by decide +kernel
theorem dX1_give_76 : decode cX1_give 76 = .ok (.getfield 53, 3) := by decide +kernel
theorem dX1_give_79 : decode cX1_give 79 = .ok (.iload 9, 2) := by decide +kernel
theorem dX1_give_81 : decode cX1_give 81 = .ok (.i2l, 1) := by decide +kernel
theorem dX1_give_82 : decode cX1_give 82 = .ok (.ladd, 1) := by decide +kernel
theorem dX1_give_83 : decode cX1_give 83 = .ok (.putfield 53, 3) := by decide +kernel
theorem dX1_give_86 : decode cX1_give 86 = .ok (.aload_n 0, 1) := by decide +kernel
theorem dX1_give_87 : decode cX1_give 87 = .ok (.aload_n 1, 1) := by decide +kernel
theorem dX1_give_88 : decode cX1_give 88 = .ok (.iload_n 2, 1) := by decide +kernel
theorem dX1_give_89 : decode cX1_give 89 = .ok (.iload 9, 2) := by decide +kernel
theorem dX1_give_91 : decode cX1_give 91 = .ok (.invokevirtual 138, 3) := by decide +kernel
theorem dX1_give_94 : decode cX1_give 94 = .ok (.goto 14, 3) := by decide +kernel
theorem dX1_give_97 : decode cX1_give 97 = .ok (.aload_n 0, 1) := by decide +kernel
theorem dX1_give_98 : decode cX1_give 98 = .ok (.getfield 27, 3) := by decide +kernel
theorem dX1_give_101 : decode cX1_give 101 = .ok (.iload_n 2, 1) := by decide +kernel
theorem dX1_give_102 : decode cX1_give 102 = .ok (.dup2, 1) := by decide +kernel
theorem dX1_give_103 : decode cX1_give 103 = .ok (.iaload, 1) := by decide +kernel
theorem dX1_give_104 : decode cX1_give 104 = .ok (.iload 9, 2) := by decide +kernel
theorem dX1_give_106 : decode cX1_give 106 = .ok (.iadd, 1) := by decide +kernel
theorem dX1_give_107 : decode cX1_give 107 = .ok (.iastore, 1) := by decide +kernel
theorem dX1_give_108 : decode cX1_give 108 = .ok (.return_, 1) := by decide +kernel
theorem dX1_latest_0 : decode cX1_latest 0 = .ok (.aload_n 0, 1) := by decide +kernel
theorem dX1_latest_1 : decode cX1_latest 1 = .ok (.getfield 49, 3) := by decide +kernel
theorem dX1_latest_4 : decode cX1_latest 4 = .ok (.ifCond .ne 7, 3) := by decide +kernel
theorem dX1_latest_7 : decode cX1_latest 7 = .ok (.iconst 0, 1) := by decide +kernel
theorem dX1_latest_8 : decode cX1_latest 8 = .ok (.goto 17, 3) := by decide +kernel
theorem dX1_latest_11 : decode cX1_latest 11 = .ok (.aload_n 1, 1) := by decide +kernel
theorem dX1_latest_12 : decode cX1_latest 12 = .ok (.iload_n 2, 1) := by decide +kernel
theorem dX1_latest_13 : decode cX1_latest 13 = .ok (.iconst 4, 1) := by decide +kernel
theorem dX1_latest_14 : decode cX1_latest 14 = .ok (.imul, 1) := by decide +kernel
theorem dX1_latest_15 : decode cX1_latest 15 = .ok (.aload_n 0, 1) := by decide +kernel
theorem dX1_latest_16 : decode cX1_latest 16 = .ok (.getfield 49, 3) := by decide +kernel
theorem dX1_latest_19 : decode cX1_latest 19 = .ok (.iconst 1, 1) := by decide +kernel
theorem dX1_latest_20 : decode cX1_latest 20 = .ok (.isub, 1) := by decide +kernel
theorem dX1_latest_21 : decode cX1_latest 21 = .ok (.iconst 4, 1) := by decide +kernel
theorem dX1_latest_22 : decode cX1_latest 22 = .ok (.irem, 1) := by decide +kernel
theorem dX1_latest_23 : decode cX1_latest 23 = .ok (.iadd, 1) := by decide +kernel
theorem dX1_latest_24 : decode cX1_latest 24 = .ok (.iaload, 1) := by decide +kernel
theorem dX1_latest_25 : decode cX1_latest 25 = .ok (.ireturn, 1) := by decide +kernel
theorem dX1_position_0 : decode cX1_position 0 = .ok (.aload_n 0, 1) := by decide +kernel
theorem dX1_position_1 : decode cX1_position 1 = .ok (.getfield 9, 3) := by decide +kernel
theorem dX1_position_4 : decode cX1_position 4 = .ok (.iload_n 1, 1) := by decide +kernel
theorem dX1_position_5 : decode cX1_position 5 = .ok (.iaload, 1) := by decide +kernel
theorem dX1_position_6 : decode cX1_position 6 = .ok (.i2l, 1) := by decide +kernel
theorem dX1_position_7 : decode cX1_position 7 = .ok (.aload_n 0, 1) := by decide +kernel
theorem dX1_position_8 : decode cX1_position 8 = .ok (.getfield 18, 3) := by decide +kernel
theorem dX1_position_11 : decode cX1_position 11 = .ok (.iload_n 1, 1) := by decide +kernel
theorem dX1_position_12 : decode cX1_position 12 = .ok (.iaload, 1) := by decide +kernel
theorem dX1_position_13 : decode cX1_position 13 = .ok (.i2l, 1) := by decide +kernel
theorem dX1_position_14 : decode cX1_position 14 = .ok (.ladd, 1) := by decide +kernel
theorem dX1_position_15 : decode cX1_position 15 = .ok (.aload_n 0, 1) := by decide +kernel
theorem dX1_position_16 : decode cX1_position 16 = .ok (.getfield 27, 3) := by decide +kernel
theorem dX1_position_19 : decode cX1_position 19 = .ok (.iload_n 1, 1) := by decide +kernel
theorem dX1_position_20 : decode cX1_position 20 = .ok (.iaload, 1) := by decide +kernel
theorem dX1_position_21 : decode cX1_position 21 = .ok (.i2l, 1) := by decide +kernel
theorem dX1_position_22 : decode cX1_position 22 = .ok (.ladd, 1) := by decide +kernel
theorem dX1_position_23 : decode cX1_position 23 = .ok (.aload_n 0, 1) := by decide +kernel
theorem dX1_position_24 : decode cX1_position 24 = .ok (.getfield 21, 3) := by decide +kernel
theorem dX1_position_27 : decode cX1_position 27 = .ok (.iload_n 1, 1) := by decide +kernel
theorem dX1_position_28 : decode cX1_position 28 = .ok (.iaload, 1) := by decide +kernel
theorem dX1_position_29 : decode cX1_position 29 = .ok (.i2l, 1) := by decide +kernel
theorem dX1_position_30 : decode cX1_position 30 = .ok (.lsub, 1) := by decide +kernel
theorem dX1_position_31 : decode cX1_position 31 = .ok (.lreturn, 1) := by decide +kernel
theorem dX1_field_0 : decode cX1_field 0 = .ok (.iload_n 1, 1) := by decide +kernel
theorem dX1_field_1 : decode cX1_field 1 = .ok (.tableswitch 92 0 5 #[39, 47, 55, 63, 74, 80], 39) := by decide +kernel
theorem dX1_field_40 : decode cX1_field 40 = .ok (.aload_n 0, 1) := by decide +kernel
theorem dX1_field_41 : decode cX1_field 41 = .ok (.getfield 9, 3) := by decide +kernel
theorem dX1_field_44 : decode cX1_field 44 = .ok (.iload_n 2, 1) := by decide +kernel
theorem dX1_field_45 : decode cX1_field 45 = .ok (.iaload, 1) := by decide +kernel
theorem dX1_field_46 : decode cX1_field 46 = .ok (.i2l, 1) := by decide +kernel
theorem dX1_field_47 : decode cX1_field 47 = .ok (.lreturn, 1) := by decide +kernel
theorem dX1_field_48 : decode cX1_field 48 = .ok (.aload_n 0, 1) := by decide +kernel
theorem dX1_field_49 : decode cX1_field 49 = .ok (.getfield 21, 3) := by decide +kernel
theorem dX1_field_52 : decode cX1_field 52 = .ok (.iload_n 2, 1) := by decide +kernel
theorem dX1_field_53 : decode cX1_field 53 = .ok (.iaload, 1) := by decide +kernel
theorem dX1_field_54 : decode cX1_field 54 = .ok (.i2l, 1) := by decide +kernel
theorem dX1_field_55 : decode cX1_field 55 = .ok (.lreturn, 1) := by decide +kernel
theorem dX1_field_56 : decode cX1_field 56 = .ok (.aload_n 0, 1) := by decide +kernel
theorem dX1_field_57 : decode cX1_field 57 = .ok (.getfield 18, 3) := by decide +kernel
theorem dX1_field_60 : decode cX1_field 60 = .ok (.iload_n 2, 1) := by decide +kernel
theorem dX1_field_61 : decode cX1_field 61 = .ok (.iaload, 1) := by decide +kernel
theorem dX1_field_62 : decode cX1_field 62 = .ok (.i2l, 1) := by decide +kernel
theorem dX1_field_63 : decode cX1_field 63 = .ok (.lreturn, 1) := by decide +kernel
theorem dX1_field_64 : decode cX1_field 64 = .ok (.aload_n 0, 1) := by decide +kernel
theorem dX1_field_65 : decode cX1_field 65 = .ok (.aload_n 0, 1) := by decide +kernel
theorem dX1_field_66 : decode cX1_field 66 = .ok (.getfield 33, 3) := by decide +kernel
theorem dX1_field_69 : decode cX1_field 69 = .ok (.iload_n 2, 1) := by decide +kernel
theorem dX1_field_70 : decode cX1_field 70 = .ok (.invokevirtual 161, 3) := by decide +kernel
theorem dX1_field_73 : decode cX1_field 73 = .ok (.i2l, 1) := by decide +kernel
theorem dX1_field_74 : decode cX1_field 74 = .ok (.lreturn, 1) := by decide +kernel
theorem dX1_field_75 : decode cX1_field 75 = .ok (.aload_n 0, 1) := by decide +kernel
theorem dX1_field_76 : decode cX1_field 76 = .ok (.iload_n 2, 1) := by decide +kernel
theorem dX1_field_77 : decode cX1_field 77 = .ok (.invokevirtual 165, 3) := by decide +kernel
theorem dX1_field_80 : decode cX1_field 80 = .ok (.lreturn, 1) := by decide +kernel
theorem dX1_field_81 : decode cX1_field 81 = .ok (.iconst 0, 1) := by decide +kernel
theorem dX1_field_82 : decode cX1_field 82 = .ok (.aload_n 0, 1) := by decide +kernel
theorem dX1_field_83 : decode cX1_field 83 = .ok (.getfield 49, 3) := by decide +kernel
theorem dX1_field_86 : decode cX1_field 86 = .ok (.iconst 1, 1) := by decide +kernel
theorem dX1_field_87 : decode cX1_field 87 = .ok (.isub, 1) := by decide +kernel
theorem dX1_field_88 : decode cX1_field 88 = .ok (.invokestatic 147, 3) := by decide +kernel
theorem dX1_field_91 : decode cX1_field 91 = .ok (.i2l, 1) := by decide +kernel
theorem dX1_field_92 : decode cX1_field 92 = .ok (.lreturn, 1) := by decide +kernel
theorem dX1_field_93 : decode cX1_field 93 = .ok (.aload_n 0, 1) := by decide +kernel
theorem dX1_field_94 : decode cX1_field 94 = .ok (.iload_n 2, 1) := by decide +kernel
theorem dX1_field_95 : decode cX1_field 95 = .ok (.invokevirtual 169, 3) := by decide +kernel
theorem dX1_field_98 : decode cX1_field 98 = .ok (.lreturn, 1) := by decide +kernel
theorem dX1_mean_0 : decode cX1_mean 0 = .ok (.iconst 4, 1) := by decide +kernel
theorem dX1_mean_1 : decode cX1_mean 1 = .ok (.aload_n 0, 1) := by decide +kernel
theorem dX1_mean_2 : decode cX1_mean 2 = .ok (.getfield 49, 3) := by decide +kernel
theorem dX1_mean_5 : decode cX1_mean 5 = .ok (.invokestatic 110, 3) := by decide +kernel
theorem dX1_mean_8 : decode cX1_mean 8 = .ok (.istore_n 2, 1) := by decide +kernel
theorem dX1_mean_9 : decode cX1_mean 9 = .ok (.lconst 0, 1) := by decide +kernel
theorem dX1_mean_10 : decode cX1_mean 10 = .ok (.lstore_n 3, 1) := by decide +kernel
theorem dX1_mean_11 : decode cX1_mean 11 = .ok (.aload_n 0, 1) := by decide +kernel
theorem dX1_mean_12 : decode cX1_mean 12 = .ok (.getfield 49, 3) := by decide +kernel
theorem dX1_mean_15 : decode cX1_mean 15 = .ok (.iload_n 2, 1) := by decide +kernel
theorem dX1_mean_16 : decode cX1_mean 16 = .ok (.isub, 1) := by decide +kernel
theorem dX1_mean_17 : decode cX1_mean 17 = .ok (.istore 5, 2) := by decide +kernel
theorem dX1_mean_19 : decode cX1_mean 19 = .ok (.iload 5, 2) := by decide +kernel
theorem dX1_mean_21 : decode cX1_mean 21 = .ok (.aload_n 0, 1) := by decide +kernel
theorem dX1_mean_22 : decode cX1_mean 22 = .ok (.getfield 49, 3) := by decide +kernel
theorem dX1_mean_25 : decode cX1_mean 25 = .ok (.if_icmp .ge 26, 3) := by decide +kernel
theorem dX1_mean_28 : decode cX1_mean 28 = .ok (.lload_n 3, 1) := by decide +kernel
theorem dX1_mean_29 : decode cX1_mean 29 = .ok (.aload_n 0, 1) := by decide +kernel
theorem dX1_mean_30 : decode cX1_mean 30 = .ok (.getfield 33, 3) := by decide +kernel
theorem dX1_mean_33 : decode cX1_mean 33 = .ok (.iload_n 1, 1) := by decide +kernel
theorem dX1_mean_34 : decode cX1_mean 34 = .ok (.iconst 4, 1) := by decide +kernel
theorem dX1_mean_35 : decode cX1_mean 35 = .ok (.imul, 1) := by decide +kernel
theorem dX1_mean_36 : decode cX1_mean 36 = .ok (.iload 5, 2) := by decide +kernel
theorem dX1_mean_38 : decode cX1_mean 38 = .ok (.iconst 4, 1) := by decide +kernel
theorem dX1_mean_39 : decode cX1_mean 39 = .ok (.irem, 1) := by decide +kernel
theorem dX1_mean_40 : decode cX1_mean 40 = .ok (.iadd, 1) := by decide +kernel
theorem dX1_mean_41 : decode cX1_mean 41 = .ok (.iaload, 1) := by decide +kernel
theorem dX1_mean_42 : decode cX1_mean 42 = .ok (.i2l, 1) := by decide +kernel
theorem dX1_mean_43 : decode cX1_mean 43 = .ok (.ladd, 1) := by decide +kernel
theorem dX1_mean_44 : decode cX1_mean 44 = .ok (.lstore_n 3, 1) := by decide +kernel
theorem dX1_mean_45 : decode cX1_mean 45 = .ok (.iinc 5 1, 3) := by decide +kernel
theorem dX1_mean_48 : decode cX1_mean 48 = .ok (.goto (-29), 3) := by decide +kernel
theorem dX1_mean_51 : decode cX1_mean 51 = .ok (.iload_n 2, 1) := by decide +kernel
theorem dX1_mean_52 : decode cX1_mean 52 = .ok (.ifCond .ne 7, 3) := by decide +kernel
theorem dX1_mean_55 : decode cX1_mean 55 = .ok (.lconst 0, 1) := by decide +kernel
theorem dX1_mean_56 : decode cX1_mean 56 = .ok (.goto 7, 3) := by decide +kernel
theorem dX1_mean_59 : decode cX1_mean 59 = .ok (.lload_n 3, 1) := by decide +kernel
theorem dX1_mean_60 : decode cX1_mean 60 = .ok (.iload_n 2, 1) := by decide +kernel
theorem dX1_mean_61 : decode cX1_mean 61 = .ok (.i2l, 1) := by decide +kernel
theorem dX1_mean_62 : decode cX1_mean 62 = .ok (.ldiv, 1) := by decide +kernel
theorem dX1_mean_63 : decode cX1_mean 63 = .ok (.lreturn, 1) := by decide +kernel
theorem dX1_total_0 : decode cX1_total 0 = .ok (.lconst 0, 1) := by decide +kernel
theorem dX1_total_1 : decode cX1_total 1 = .ok (.lstore_n 2, 1) := by decide +kernel
theorem dX1_total_2 : decode cX1_total 2 = .ok (.aload_n 1, 1) := by decide +kernel
theorem dX1_total_3 : decode cX1_total 3 = .ok (.astore 4, 2) := by decide +kernel
theorem dX1_total_5 : decode cX1_total 5 = .ok (.aload 4, 2) := by decide +kernel
theorem dX1_total_7 : decode cX1_total 7 = .ok (.arraylength, 1) := by decide +kernel
theorem dX1_total_8 : decode cX1_total 8 = .ok (.istore 5, 2) := by decide +kernel
theorem dX1_total_10 : decode cX1_total 10 = .ok (.iconst 0, 1) := by decide +kernel
theorem dX1_total_11 : decode cX1_total 11 = .ok (.istore 6, 2) := by decide +kernel
theorem dX1_total_13 : decode cX1_total 13 = .ok (.iload 6, 2) := by decide +kernel
theorem dX1_total_15 : decode cX1_total 15 = .ok (.iload 5, 2) := by decide +kernel
theorem dX1_total_17 : decode cX1_total 17 = .ok (.if_icmp .ge 22, 3) := by decide +kernel
theorem dX1_total_20 : decode cX1_total 20 = .ok (.aload 4, 2) := by decide +kernel
theorem dX1_total_22 : decode cX1_total 22 = .ok (.iload 6, 2) := by decide +kernel
theorem dX1_total_24 : decode cX1_total 24 = .ok (.iaload, 1) := by decide +kernel
theorem dX1_total_25 : decode cX1_total 25 = .ok (.istore 7, 2) := by decide +kernel
theorem dX1_total_27 : decode cX1_total 27 = .ok (.lload_n 2, 1) := by decide +kernel
theorem dX1_total_28 : decode cX1_total 28 = .ok (.iload 7, 2) := by decide +kernel
theorem dX1_total_30 : decode cX1_total 30 = .ok (.i2l, 1) := by decide +kernel
theorem dX1_total_31 : decode cX1_total 31 = .ok (.ladd, 1) := by decide +kernel
theorem dX1_total_32 : decode cX1_total 32 = .ok (.lstore_n 2, 1) := by decide +kernel
theorem dX1_total_33 : decode cX1_total 33 = .ok (.iinc 6 1, 3) := by decide +kernel
theorem dX1_total_36 : decode cX1_total 36 = .ok (.goto (-23), 3) := by decide +kernel
theorem dX1_total_39 : decode cX1_total 39 = .ok (.lload_n 2, 1) := by decide +kernel
theorem dX1_total_40 : decode cX1_total 40 = .ok (.lreturn, 1) := by decide +kernel
theorem dX1_costOfAll_0 : decode cX1_costOfAll 0 = .ok (.lconst 0, 1) := by decide +kernel
theorem dX1_costOfAll_1 : decode cX1_costOfAll 1 = .ok (.lstore_n 1, 1) := by decide +kernel
theorem dX1_costOfAll_2 : decode cX1_costOfAll 2 = .ok (.aload_n 0, 1) := by decide +kernel
theorem dX1_costOfAll_3 : decode cX1_costOfAll 3 = .ok (.getfield 39, 3) := by decide +kernel
theorem dX1_costOfAll_6 : decode cX1_costOfAll 6 = .ok (.astore_n 3, 1) := by decide +kernel
theorem dX1_costOfAll_7 : decode cX1_costOfAll 7 = .ok (.aload_n 3, 1) := by decide +kernel
theorem dX1_costOfAll_8 : decode cX1_costOfAll 8 = .ok (.arraylength, 1) := by decide +kernel
theorem dX1_costOfAll_9 : decode cX1_costOfAll 9 = .ok (.istore 4, 2) := by decide +kernel
theorem dX1_costOfAll_11 : decode cX1_costOfAll 11 = .ok (.iconst 0, 1) := by decide +kernel
theorem dX1_costOfAll_12 : decode cX1_costOfAll 12 = .ok (.istore 5, 2) := by decide +kernel
theorem dX1_costOfAll_14 : decode cX1_costOfAll 14 = .ok (.iload 5, 2) := by decide +kernel
theorem dX1_costOfAll_16 : decode cX1_costOfAll 16 = .ok (.iload 4, 2) := by decide +kernel
theorem dX1_costOfAll_18 : decode cX1_costOfAll 18 = .ok (.if_icmp .ge 20, 3) := by decide +kernel
theorem dX1_costOfAll_21 : decode cX1_costOfAll 21 = .ok (.aload_n 3, 1) := by decide +kernel
theorem dX1_costOfAll_22 : decode cX1_costOfAll 22 = .ok (.iload 5, 2) := by decide +kernel
theorem dX1_costOfAll_24 : decode cX1_costOfAll 24 = .ok (.laload, 1) := by decide +kernel
theorem dX1_costOfAll_25 : decode cX1_costOfAll 25 = .ok (.lstore 6, 2) := by decide +kernel
theorem dX1_costOfAll_27 : decode cX1_costOfAll 27 = .ok (.lload_n 1, 1) := by decide +kernel
theorem dX1_costOfAll_28 : decode cX1_costOfAll 28 = .ok (.lload 6, 2) := by decide +kernel
theorem dX1_costOfAll_30 : decode cX1_costOfAll 30 = .ok (.ladd, 1) := by decide +kernel
theorem dX1_costOfAll_31 : decode cX1_costOfAll 31 = .ok (.lstore_n 1, 1) := by decide +kernel
theorem dX1_costOfAll_32 : decode cX1_costOfAll 32 = .ok (.iinc 5 1, 3) := by decide +kernel
theorem dX1_costOfAll_35 : decode cX1_costOfAll 35 = .ok (.goto (-21), 3) := by decide +kernel
theorem dX1_costOfAll_38 : decode cX1_costOfAll 38 = .ok (.lload_n 1, 1) := by decide +kernel
theorem dX1_costOfAll_39 : decode cX1_costOfAll 39 = .ok (.lreturn, 1) := by decide +kernel
theorem dX2_init_0 : decode cX2_init 0 = .ok (.aload_n 0, 1) := by decide +kernel
theorem dX2_init_1 : decode cX2_init 1 = .ok (.invokespecial 3, 3) := by decide +kernel
theorem dX2_init_4 : decode cX2_init 4 = .ok (.aload_n 0, 1) := by decide +kernel
theorem dX2_init_5 : decode cX2_init 5 = .ok (.lconst 1, 1) := by decide +kernel
theorem dX2_init_6 : decode cX2_init 6 = .ok (.putfield 9, 3) := by decide +kernel
theorem dX2_init_9 : decode cX2_init 9 = .ok (.return_, 1) := by decide +kernel
theorem dX2_become_0 : decode cX2_become 0 = .ok (.lload_n 1, 1) := by decide +kernel
theorem dX2_become_1 : decode cX2_become 1 = .ok (.invokestatic 15, 3) := by decide +kernel
theorem dX2_become_4 : decode cX2_become 4 = .ok (.lload_n 3, 1) := by decide +kernel
theorem dX2_become_5 : decode cX2_become 5 = .ok (.invokestatic 15, 3) := by decide +kernel
theorem dX2_become_8 : decode cX2_become 8 = .ok (.invokestatic 21, 3) := by decide +kernel
theorem dX2_become_11 : decode cX2_become 11 = .ok (.lstore 5, 2) := by decide +kernel
theorem dX2_become_13 : decode cX2_become 13 = .ok (.lload_n 3, 1) := by decide +kernel
theorem dX2_become_14 : decode cX2_become 14 = .ok (.lconst 0, 1) := by decide +kernel
theorem dX2_become_15 : decode cX2_become 15 = .ok (.lcmp, 1) := by decide +kernel
theorem dX2_become_16 : decode cX2_become 16 = .ok (.ifCond .eq 10, 3) := by decide +kernel
theorem dX2_become_19 : decode cX2_become 19 = .ok (.lload 5, 2) := by decide +kernel
theorem dX2_become_21 : decode cX2_become 21 = .ok (.lconst 0, 1) := by decide +kernel
theorem dX2_become_22 : decode cX2_become 22 = .ok (.lcmp, 1) := by decide +kernel
theorem dX2_become_23 : decode cX2_become 23 = .ok (.ifCond .ne 8, 3) := by decide +kernel
theorem dX2_become_26 : decode cX2_become 26 = .ok (.aload_n 0, 1) := by decide +kernel
theorem dX2_become_27 : decode cX2_become 27 = .ok (.invokevirtual 25, 3) := by decide +kernel
theorem dX2_become_30 : decode cX2_become 30 = .ok (.return_, 1) := by decide +kernel
theorem dX2_become_31 : decode cX2_become 31 = .ok (.aload_n 0, 1) := by decide +kernel
theorem dX2_become_32 : decode cX2_become 32 = .ok (.lload_n 3, 1) := by decide +kernel
theorem dX2_become_33 : decode cX2_become 33 = .ok (.lconst 0, 1) := by decide +kernel
theorem dX2_become_34 : decode cX2_become 34 = .ok (.lcmp, 1) := by decide +kernel
theorem dX2_become_35 : decode cX2_become 35 = .ok (.ifCond .ge 8, 3) := by decide +kernel
theorem dX2_become_38 : decode cX2_become 38 = .ok (.lload_n 1, 1) := by decide +kernel
theorem dX2_become_39 : decode cX2_become 39 = .ok (.lneg, 1) := by decide +kernel
theorem dX2_become_40 : decode cX2_become 40 = .ok (.goto 4, 3) := by decide +kernel
theorem dX2_become_43 : decode cX2_become 43 = .ok (.lload_n 1, 1) := by decide +kernel
theorem dX2_become_44 : decode cX2_become 44 = .ok (.lload 5, 2) := by decide +kernel
theorem dX2_become_46 : decode cX2_become 46 = .ok (.ldiv, 1) := by decide +kernel
theorem dX2_become_47 : decode cX2_become 47 = .ok (.putfield 28, 3) := by decide +kernel
theorem dX2_become_50 : decode cX2_become 50 = .ok (.aload_n 0, 1) := by decide +kernel
theorem dX2_become_51 : decode cX2_become 51 = .ok (.lload_n 3, 1) := by decide +kernel
theorem dX2_become_52 : decode cX2_become 52 = .ok (.invokestatic 15, 3) := by decide +kernel
theorem dX2_become_55 : decode cX2_become 55 = .ok (.lload 5, 2) := by decide +kernel
theorem dX2_become_57 : decode cX2_become 57 = .ok (.ldiv, 1) := by decide +kernel
theorem dX2_become_58 : decode cX2_become 58 = .ok (.putfield 9, 3) := by decide +kernel
theorem dX2_become_61 : decode cX2_become 61 = .ok (.aload_n 0, 1) := by decide +kernel
theorem dX2_become_62 : decode cX2_become 62 = .ok (.aload_n 0, 1) := by decide +kernel
theorem dX2_become_63 : decode cX2_become 63 = .ok (.getfield 28, 3) := by decide +kernel
theorem dX2_become_66 : decode cX2_become 66 = .ok (.invokestatic 15, 3) := by decide +kernel
theorem dX2_become_69 : decode cX2_become 69 = .ok (.ldc2_w 31, 3) := by decide +kernel
theorem dX2_become_72 : decode cX2_become 72 = .ok (.lcmp, 1) := by decide +kernel
theorem dX2_become_73 : decode cX2_become 73 = .ok (.ifCond .gt 14, 3) := by decide +kernel
theorem dX2_become_76 : decode cX2_become 76 = .ok (.aload_n 0, 1) := by decide +kernel
theorem dX2_become_77 : decode cX2_become 77 = .ok (.getfield 9, 3) := by decide +kernel
theorem dX2_become_80 : decode cX2_become 80 = .ok (.ldc2_w 31, 3) := by decide +kernel
theorem dX2_become_83 : decode cX2_become 83 = .ok (.lcmp, 1) := by decide +kernel
theorem dX2_become_84 : decode cX2_become 84 = .ok (.ifCond .le 7, 3) := by decide +kernel
theorem dX2_become_87 : decode cX2_become 87 = .ok (.iconst 1, 1) := by decide +kernel
theorem dX2_become_88 : decode cX2_become 88 = .ok (.goto 4, 3) := by decide +kernel
theorem dX2_become_91 : decode cX2_become 91 = .ok (.iconst 0, 1) := by decide +kernel
theorem dX2_become_92 : decode cX2_become 92 = .ok (.putfield 33, 3) := by decide +kernel
theorem dX2_become_95 : decode cX2_become 95 = .ok (.return_, 1) := by decide +kernel
theorem dX2_commonDivisor_0 : decode cX2_commonDivisor 0 = .ok (.lload_n 0, 1) := by decide +kernel
theorem dX2_commonDivisor_1 : decode cX2_commonDivisor 1 = .ok (.lstore 4, 2) := by decide +kernel
theorem dX2_commonDivisor_3 : decode cX2_commonDivisor 3 = .ok (.lload_n 2, 1) := by decide +kernel
theorem dX2_commonDivisor_4 : decode cX2_commonDivisor 4 = .ok (.lstore 6, 2) := by decide +kernel
theorem dX2_commonDivisor_6 : decode cX2_commonDivisor 6 = .ok (.iconst 0, 1) := by decide +kernel
theorem dX2_commonDivisor_7 : decode cX2_commonDivisor 7 = .ok (.istore 8, 2) := by decide +kernel
theorem dX2_commonDivisor_9 : decode cX2_commonDivisor 9 = .ok (.iload 8, 2) := by decide +kernel
theorem dX2_commonDivisor_11 : decode cX2_commonDivisor 11 = .ok (.sipush 1000, 3) := by decide +kernel
theorem dX2_commonDivisor_14 : decode cX2_commonDivisor 14 = .ok (.if_icmp .ge 31, 3) := by decide +kernel
theorem dX2_commonDivisor_17 : decode cX2_commonDivisor 17 = .ok (.lload 6, 2) := by decide +kernel
theorem dX2_commonDivisor_19 : decode cX2_commonDivisor 19 = .ok (.lconst 0, 1) := by decide +kernel
theorem dX2_commonDivisor_20 : decode cX2_commonDivisor 20 = .ok (.lcmp, 1) := by decide +kernel
theorem dX2_commonDivisor_21 : decode cX2_commonDivisor 21 = .ok (.ifCond .eq 24, 3) := by decide +kernel
theorem dX2_commonDivisor_24 : decode cX2_commonDivisor 24 = .ok (.lload 4, 2) := by decide +kernel
theorem dX2_commonDivisor_26 : decode cX2_commonDivisor 26 = .ok (.lload 6, 2) := by decide +kernel
theorem dX2_commonDivisor_28 : decode cX2_commonDivisor 28 = .ok (.lrem, 1) := by decide +kernel
theorem dX2_commonDivisor_29 : decode cX2_commonDivisor 29 = .ok (.lstore 9, 2) := by decide +kernel
theorem dX2_commonDivisor_31 : decode cX2_commonDivisor 31 = .ok (.lload 6, 2) := by decide +kernel
theorem dX2_commonDivisor_33 : decode cX2_commonDivisor 33 = .ok (.lstore 4, 2) := by decide +kernel
theorem dX2_commonDivisor_35 : decode cX2_commonDivisor 35 = .ok (.lload 9, 2) := by decide +kernel
theorem dX2_commonDivisor_37 : decode cX2_commonDivisor 37 = .ok (.lstore 6, 2) := by decide +kernel
theorem dX2_commonDivisor_39 : decode cX2_commonDivisor 39 = .ok (.iinc 8 1, 3) := by decide +kernel
theorem dX2_commonDivisor_42 : decode cX2_commonDivisor 42 = .ok (.goto (-33), 3) := by decide +kernel
theorem dX2_commonDivisor_45 : decode cX2_commonDivisor 45 = .ok (.lload 4, 2) := by decide +kernel
theorem dX2_commonDivisor_47 : decode cX2_commonDivisor 47 = .ok (.lreturn, 1) := by decide +kernel
theorem dX2_spend_0 : decode cX2_spend 0 = .ok (.aload_n 0, 1) := by decide +kernel
theorem dX2_spend_1 : decode cX2_spend 1 = .ok (.lconst 0, 1) := by decide +kernel
theorem dX2_spend_2 : decode cX2_spend 2 = .ok (.putfield 28, 3) := by decide +kernel
theorem dX2_spend_5 : decode cX2_spend 5 = .ok (.aload_n 0, 1) := by decide +kernel
theorem dX2_spend_6 : decode cX2_spend 6 = .ok (.lconst 1, 1) := by decide +kernel
theorem dX2_spend_7 : decode cX2_spend 7 = .ok (.putfield 9, 3) := by decide +kernel
theorem dX2_spend_10 : decode cX2_spend 10 = .ok (.aload_n 0, 1) := by decide +kernel
theorem dX2_spend_11 : decode cX2_spend 11 = .ok (.iconst 1, 1) := by decide +kernel
theorem dX2_spend_12 : decode cX2_spend 12 = .ok (.putfield 33, 3) := by decide +kernel
theorem dX2_spend_15 : decode cX2_spend 15 = .ok (.return_, 1) := by decide +kernel
theorem dX2_becomeSum_0 : decode cX2_becomeSum 0 = .ok (.aload_n 1, 1) := by decide +kernel
theorem dX2_becomeSum_1 : decode cX2_becomeSum 1 = .ok (.getfield 33, 3) := by decide +kernel
theorem dX2_becomeSum_4 : decode cX2_becomeSum 4 = .ok (.ifCond .ne 10, 3) := by decide +kernel
theorem dX2_becomeSum_7 : decode cX2_becomeSum 7 = .ok (.aload_n 2, 1) := by decide +kernel
theorem dX2_becomeSum_8 : decode cX2_becomeSum 8 = .ok (.getfield 33, 3) := by decide +kernel
theorem dX2_becomeSum_11 : decode cX2_becomeSum 11 = .ok (.ifCond .eq 10, 3) := by decide +kernel
theorem dX2_becomeSum_14 : decode cX2_becomeSum 14 = .ok (.aload_n 0, 1) := by decide +kernel
theorem dX2_becomeSum_15 : decode cX2_becomeSum 15 = .ok (.invokevirtual 25, 3) := by decide +kernel
theorem dX2_becomeSum_18 : decode cX2_becomeSum 18 = .ok (.goto 35, 3) := by decide +kernel
theorem dX2_becomeSum_21 : decode cX2_becomeSum 21 = .ok (.aload_n 0, 1) := by decide +kernel
theorem dX2_becomeSum_22 : decode cX2_becomeSum 22 = .ok (.aload_n 1, 1) := by decide +kernel
theorem dX2_becomeSum_23 : decode cX2_becomeSum 23 = .ok (.getfield 28, 3) := by decide +kernel
theorem dX2_becomeSum_26 : decode cX2_becomeSum 26 = .ok (.aload_n 2, 1) := by decide +kernel
theorem dX2_becomeSum_27 : decode cX2_becomeSum 27 = .ok (.getfield 9, 3) := by decide +kernel
theorem dX2_becomeSum_30 : decode cX2_becomeSum 30 = .ok (.lmul, 1) := by decide +kernel
theorem dX2_becomeSum_31 : decode cX2_becomeSum 31 = .ok (.aload_n 2, 1) := by decide +kernel
theorem dX2_becomeSum_32 : decode cX2_becomeSum 32 = .ok (.getfield 28, 3) := by decide +kernel
theorem dX2_becomeSum_35 : decode cX2_becomeSum 35 = .ok (.aload_n 1, 1) := by decide +kernel
theorem dX2_becomeSum_36 : decode cX2_becomeSum 36 = .ok (.getfield 9, 3) := by decide +kernel
theorem dX2_becomeSum_39 : decode cX2_becomeSum 39 = .ok (.lmul, 1) := by decide +kernel
theorem dX2_becomeSum_40 : decode cX2_becomeSum 40 = .ok (.ladd, 1) := by decide +kernel
theorem dX2_becomeSum_41 : decode cX2_becomeSum 41 = .ok (.aload_n 1, 1) := by decide +kernel
theorem dX2_becomeSum_42 : decode cX2_becomeSum 42 = .ok (.getfield 9, 3) := by decide +kernel
theorem dX2_becomeSum_45 : decode cX2_becomeSum 45 = .ok (.aload_n 2, 1) := by decide +kernel
theorem dX2_becomeSum_46 : decode cX2_becomeSum 46 = .ok (.getfield 9, 3) := by decide +kernel
theorem dX2_becomeSum_49 : decode cX2_becomeSum 49 = .ok (.lmul, 1) := by decide +kernel
theorem dX2_becomeSum_50 : decode cX2_becomeSum 50 = .ok (.invokevirtual 37, 3) := by decide +kernel
theorem dX2_becomeSum_53 : decode cX2_becomeSum 53 = .ok (.return_, 1) := by decide +kernel
theorem dX2_becomeDifference_0 : decode cX2_becomeDifference 0 = .ok (.aload_n 1, 1) := by decide +kernel
theorem dX2_becomeDifference_1 : decode cX2_becomeDifference 1 = .ok (.getfield 33, 3) := by decide +kernel
theorem dX2_becomeDifference_4 : decode cX2_becomeDifference 4 = .ok (.ifCond .ne 10, 3) := by decide +kernel
theorem dX2_becomeDifference_7 : decode cX2_becomeDifference 7 = .ok (.aload_n 2, 1) := by decide +kernel
theorem dX2_becomeDifference_8 : decode cX2_becomeDifference 8 = .ok (.getfield 33, 3) := by decide +kernel
theorem dX2_becomeDifference_11 : decode cX2_becomeDifference 11 = .ok (.ifCond .eq 10, 3) := by decide +kernel
theorem dX2_becomeDifference_14 : decode cX2_becomeDifference 14 = .ok (.aload_n 0, 1) := by decide +kernel
theorem dX2_becomeDifference_15 : decode cX2_becomeDifference 15 = .ok (.invokevirtual 25, 3) := by decide +kernel
theorem dX2_becomeDifference_18 : decode cX2_becomeDifference 18 = .ok (.goto 35, 3) := by decide +kernel
theorem dX2_becomeDifference_21 : decode cX2_becomeDifference 21 = .ok (.aload_n 0, 1) := by decide +kernel
theorem dX2_becomeDifference_22 : decode cX2_becomeDifference 22 = .ok (.aload_n 1, 1) := by decide +kernel
theorem dX2_becomeDifference_23 : decode cX2_becomeDifference 23 = .ok (.getfield 28, 3) := by decide +kernel
theorem dX2_becomeDifference_26 : decode cX2_becomeDifference 26 = .ok (.aload_n 2, 1) := by decide +kernel
theorem dX2_becomeDifference_27 : decode cX2_becomeDifference 27 = .ok (.getfield 9, 3) := by decide +kernel
theorem dX2_becomeDifference_30 : decode cX2_becomeDifference 30 = .ok (.lmul, 1) := by decide +kernel
theorem dX2_becomeDifference_31 : decode cX2_becomeDifference 31 = .ok (.aload_n 2, 1) := by decide +kernel
theorem dX2_becomeDifference_32 : decode cX2_becomeDifference 32 = .ok (.getfield 28, 3) := by decide +kernel
theorem dX2_becomeDifference_35 : decode cX2_becomeDifference 35 = .ok (.aload_n 1, 1) := by decide +kernel
theorem dX2_becomeDifference_36 : decode cX2_becomeDifference 36 = .ok (.getfield 9, 3) := by decide +kernel
theorem dX2_becomeDifference_39 : decode cX2_becomeDifference 39 = .ok (.lmul, 1) := by decide +kernel
theorem dX2_becomeDifference_40 : decode cX2_becomeDifference 40 = .ok (.lsub, 1) := by decide +kernel
theorem dX2_becomeDifference_41 : decode cX2_becomeDifference 41 = .ok (.aload_n 1, 1) := by decide +kernel
theorem dX2_becomeDifference_42 : decode cX2_becomeDifference 42 = .ok (.getfield 9, 3) := by decide +kernel
theorem dX2_becomeDifference_45 : decode cX2_becomeDifference 45 = .ok (.aload_n 2, 1) := by decide +kernel
theorem dX2_becomeDifference_46 : decode cX2_becomeDifference 46 = .ok (.getfield 9, 3) := by decide +kernel
theorem dX2_becomeDifference_49 : decode cX2_becomeDifference 49 = .ok (.lmul, 1) := by decide +kernel
theorem dX2_becomeDifference_50 : decode cX2_becomeDifference 50 = .ok (.invokevirtual 37, 3) := by decide +kernel
theorem dX2_becomeDifference_53 : decode cX2_becomeDifference 53 = .ok (.return_, 1) := by decide +kernel
theorem dX2_becomeProduct_0 : decode cX2_becomeProduct 0 = .ok (.aload_n 1, 1) := by decide +kernel
theorem dX2_becomeProduct_1 : decode cX2_becomeProduct 1 = .ok (.getfield 33, 3) := by decide +kernel
theorem dX2_becomeProduct_4 : decode cX2_becomeProduct 4 = .ok (.ifCond .ne 10, 3) := by decide +kernel
theorem dX2_becomeProduct_7 : decode cX2_becomeProduct 7 = .ok (.aload_n 2, 1) := by decide +kernel
theorem dX2_becomeProduct_8 : decode cX2_becomeProduct 8 = .ok (.getfield 33, 3) := by decide +kernel
theorem dX2_becomeProduct_11 : decode cX2_becomeProduct 11 = .ok (.ifCond .eq 10, 3) := by decide +kernel
theorem dX2_becomeProduct_14 : decode cX2_becomeProduct 14 = .ok (.aload_n 0, 1) := by decide +kernel
theorem dX2_becomeProduct_15 : decode cX2_becomeProduct 15 = .ok (.invokevirtual 25, 3) := by decide +kernel
theorem dX2_becomeProduct_18 : decode cX2_becomeProduct 18 = .ok (.goto 25, 3) := by decide +kernel
theorem dX2_becomeProduct_21 : decode cX2_becomeProduct 21 = .ok (.aload_n 0, 1) := by decide +kernel
theorem dX2_becomeProduct_22 : decode cX2_becomeProduct 22 = .ok (.aload_n 1, 1) := by decide +kernel
theorem dX2_becomeProduct_23 : decode cX2_becomeProduct 23 = .ok (.getfield 28, 3) := by decide +kernel
theorem dX2_becomeProduct_26 : decode cX2_becomeProduct 26 = .ok (.aload_n 2, 1) := by decide +kernel
theorem dX2_becomeProduct_27 : decode cX2_becomeProduct 27 = .ok (.getfield 28, 3) := by decide +kernel
theorem dX2_becomeProduct_30 : decode cX2_becomeProduct 30 = .ok (.lmul, 1) := by decide +kernel
theorem dX2_becomeProduct_31 : decode cX2_becomeProduct 31 = .ok (.aload_n 1, 1) := by decide +kernel
theorem dX2_becomeProduct_32 : decode cX2_becomeProduct 32 = .ok (.getfield 9, 3) := by decide +kernel
theorem dX2_becomeProduct_35 : decode cX2_becomeProduct 35 = .ok (.aload_n 2, 1) := by decide +kernel
theorem dX2_becomeProduct_36 : decode cX2_becomeProduct 36 = .ok (.getfield 9, 3) := by decide +kernel
theorem dX2_becomeProduct_39 : decode cX2_becomeProduct 39 = .ok (.lmul, 1) := by decide +kernel
theorem dX2_becomeProduct_40 : decode cX2_becomeProduct 40 = .ok (.invokevirtual 37, 3) := by decide +kernel
theorem dX2_becomeProduct_43 : decode cX2_becomeProduct 43 = .ok (.return_, 1) := by decide +kernel
theorem dX2_tell_0 : decode cX2_tell 0 = .ok (.aload_n 0, 1) := by decide +kernel
theorem dX2_tell_1 : decode cX2_tell 1 = .ok (.getfield 33, 3) := by decide +kernel
theorem dX2_tell_4 : decode cX2_tell 4 = .ok (.ifCond .eq 9, 3) := by decide +kernel
theorem dX2_tell_7 : decode cX2_tell 7 = .ok (.ldc2_w 41, 3) := by decide +kernel
theorem dX2_tell_10 : decode cX2_tell 10 = .ok (.goto 18, 3) := by decide +kernel
theorem dX2_tell_13 : decode cX2_tell 13 = .ok (.iload_n 1, 1) := by decide +kernel
theorem dX2_tell_14 : decode cX2_tell 14 = .ok (.ifCond .ne 10, 3) := by decide +kernel
theorem dX2_tell_17 : decode cX2_tell 17 = .ok (.aload_n 0, 1) := by decide +kernel
theorem dX2_tell_18 : decode cX2_tell 18 = .ok (.getfield 28, 3) := by decide +kernel
theorem dX2_tell_21 : decode cX2_tell 21 = .ok (.goto 7, 3) := by decide +kernel
theorem dX2_tell_24 : decode cX2_tell 24 = .ok (.aload_n 0, 1) := by decide +kernel
theorem dX2_tell_25 : decode cX2_tell 25 = .ok (.getfield 9, 3) := by decide +kernel
theorem dX2_tell_28 : decode cX2_tell 28 = .ok (.lreturn, 1) := by decide +kernel
theorem dX3_init_0 : decode cX3_init 0 = .ok (.aload_n 0, 1) := by decide +kernel
theorem dX3_init_1 : decode cX3_init 1 = .ok (.invokespecial 3, 3) := by decide +kernel
theorem dX3_init_4 : decode cX3_init 4 = .ok (.aload_n 0, 1) := by decide +kernel
theorem dX3_init_5 : decode cX3_init 5 = .ok (.iconst 5, 1) := by decide +kernel
theorem dX3_init_6 : decode cX3_init 6 = .ok (.newarray .int, 2) := by decide +kernel
theorem dX3_init_8 : decode cX3_init 8 = .ok (.putfield 9, 3) := by decide +kernel
theorem dX3_init_11 : decode cX3_init 11 = .ok (.aload_n 0, 1) := by decide +kernel
theorem dX3_init_12 : decode cX3_init 12 = .ok (.bipush 25, 2) := by decide +kernel
theorem dX3_init_14 : decode cX3_init 14 = .ok (.newarray .long, 2) := by decide +kernel
theorem dX3_init_16 : decode cX3_init 16 = .ok (.putfield 13, 3) := by decide +kernel
theorem dX3_init_19 : decode cX3_init 19 = .ok (.aload_n 0, 1) := by decide +kernel
theorem dX3_init_20 : decode cX3_init 20 = .ok (.bipush 17, 2) := by decide +kernel
theorem dX3_init_22 : decode cX3_init 22 = .ok (.newarray .long, 2) := by decide +kernel
theorem dX3_init_24 : decode cX3_init 24 = .ok (.putfield 17, 3) := by decide +kernel
theorem dX3_init_27 : decode cX3_init 27 = .ok (.aload_n 0, 1) := by decide +kernel
theorem dX3_init_28 : decode cX3_init 28 = .ok (.bipush 13, 2) := by decide +kernel
theorem dX3_init_30 : decode cX3_init 30 = .ok (.newarray .long, 2) := by decide +kernel
theorem dX3_init_32 : decode cX3_init 32 = .ok (.putfield 20, 3) := by decide +kernel
theorem dX3_init_35 : decode cX3_init 35 = .ok (.aload_n 0, 1) := by decide +kernel
theorem dX3_init_36 : decode cX3_init 36 = .ok (.bipush 73, 2) := by decide +kernel
theorem dX3_init_38 : decode cX3_init 38 = .ok (.newarray .long, 2) := by decide +kernel
theorem dX3_init_40 : decode cX3_init 40 = .ok (.putfield 23, 3) := by decide +kernel
theorem dX3_init_43 : decode cX3_init 43 = .ok (.iconst 0, 1) := by decide +kernel
theorem dX3_init_44 : decode cX3_init 44 = .ok (.istore_n 1, 1) := by decide +kernel
theorem dX3_init_45 : decode cX3_init 45 = .ok (.iload_n 1, 1) := by decide +kernel
theorem dX3_init_46 : decode cX3_init 46 = .ok (.iconst 4, 1) := by decide +kernel
theorem dX3_init_47 : decode cX3_init 47 = .ok (.if_icmp .gt 16, 3) := by decide +kernel
theorem dX3_init_50 : decode cX3_init 50 = .ok (.aload_n 0, 1) := by decide +kernel
theorem dX3_init_51 : decode cX3_init 51 = .ok (.getfield 9, 3) := by decide +kernel
theorem dX3_init_54 : decode cX3_init 54 = .ok (.iload_n 1, 1) := by decide +kernel
theorem dX3_init_55 : decode cX3_init 55 = .ok (.iconst 1, 1) := by decide +kernel
theorem dX3_init_56 : decode cX3_init 56 = .ok (.iastore, 1) := by decide +kernel
theorem dX3_init_57 : decode cX3_init 57 = .ok (.iinc 1 1, 3) := by decide +kernel
theorem dX3_init_60 : decode cX3_init 60 = .ok (.goto (-15), 3) := by decide +kernel
theorem dX3_init_63 : decode cX3_init 63 = .ok (.return_, 1) := by decide +kernel
theorem dX3_understand_0 : decode cX3_understand 0 = .ok (.aload_n 0, 1) := by decide +kernel
theorem dX3_understand_1 : decode cX3_understand 1 = .ok (.iload_n 1, 1) := by decide +kernel
theorem dX3_understand_2 : decode cX3_understand 2 = .ok (.bipush 10, 2) := by decide +kernel
theorem dX3_understand_4 : decode cX3_understand 4 = .ok (.idiv, 1) := by decide +kernel
theorem dX3_understand_5 : decode cX3_understand 5 = .ok (.putfield 26, 3) := by decide +kernel
theorem dX3_understand_8 : decode cX3_understand 8 = .ok (.aload_n 0, 1) := by decide +kernel
theorem dX3_understand_9 : decode cX3_understand 9 = .ok (.iload_n 1, 1) := by decide +kernel
theorem dX3_understand_10 : decode cX3_understand 10 = .ok (.bipush 10, 2) := by decide +kernel
theorem dX3_understand_12 : decode cX3_understand 12 = .ok (.irem, 1) := by decide +kernel
theorem dX3_understand_13 : decode cX3_understand 13 = .ok (.putfield 30, 3) := by decide +kernel
theorem dX3_understand_16 : decode cX3_understand 16 = .ok (.aload_n 0, 1) := by decide +kernel
theorem dX3_understand_17 : decode cX3_understand 17 = .ok (.iload_n 2, 1) := by decide +kernel
theorem dX3_understand_18 : decode cX3_understand 18 = .ok (.sipush 1000, 3) := by decide +kernel
theorem dX3_understand_21 : decode cX3_understand 21 = .ok (.idiv, 1) := by decide +kernel
theorem dX3_understand_22 : decode cX3_understand 22 = .ok (.putfield 33, 3) := by decide +kernel
theorem dX3_understand_25 : decode cX3_understand 25 = .ok (.aload_n 0, 1) := by decide +kernel
theorem dX3_understand_26 : decode cX3_understand 26 = .ok (.iload_n 2, 1) := by decide +kernel
theorem dX3_understand_27 : decode cX3_understand 27 = .ok (.bipush 100, 2) := by decide +kernel
theorem dX3_understand_29 : decode cX3_understand 29 = .ok (.idiv, 1) := by decide +kernel
theorem dX3_understand_30 : decode cX3_understand 30 = .ok (.bipush 10, 2) := by decide +kernel
theorem dX3_understand_32 : decode cX3_understand 32 = .ok (.irem, 1) := by decide +kernel
theorem dX3_understand_33 : decode cX3_understand 33 = .ok (.putfield 36, 3) := by decide +kernel
theorem dX3_understand_36 : decode cX3_understand 36 = .ok (.aload_n 0, 1) := by decide +kernel
theorem dX3_understand_37 : decode cX3_understand 37 = .ok (.iload_n 2, 1) := by decide +kernel
theorem dX3_understand_38 : decode cX3_understand 38 = .ok (.bipush 100, 2) := by decide +kernel
theorem dX3_understand_40 : decode cX3_understand 40 = .ok (.irem, 1) := by decide +kernel
theorem dX3_understand_41 : decode cX3_understand 41 = .ok (.putfield 39, 3) := by decide +kernel
theorem dX3_understand_44 : decode cX3_understand 44 = .ok (.aload_n 0, 1) := by decide +kernel
theorem dX3_understand_45 : decode cX3_understand 45 = .ok (.getfield 26, 3) := by decide +kernel
theorem dX3_understand_48 : decode cX3_understand 48 = .ok (.iconst 1, 1) := by decide +kernel
theorem dX3_understand_49 : decode cX3_understand 49 = .ok (.iconst 3, 1) := by decide +kernel
theorem dX3_understand_50 : decode cX3_understand 50 = .ok (.invokestatic 42, 3) := by decide +kernel
theorem dX3_understand_53 : decode cX3_understand 53 = .ok (.ifCond .eq 58, 3) := by decide +kernel
theorem dX3_understand_56 : decode cX3_understand 56 = .ok (.aload_n 0, 1) := by decide +kernel
theorem dX3_understand_57 : decode cX3_understand 57 = .ok (.getfield 30, 3) := by decide +kernel
theorem dX3_understand_60 : decode cX3_understand 60 = .ok (.iconst 1, 1) := by decide +kernel
theorem dX3_understand_61 : decode cX3_understand 61 = .ok (.iconst 3, 1) := by decide +kernel
theorem dX3_understand_62 : decode cX3_understand 62 = .ok (.invokestatic 42, 3) := by decide +kernel
theorem dX3_understand_65 : decode cX3_understand 65 = .ok (.ifCond .eq 46, 3) := by decide +kernel
theorem dX3_understand_68 : decode cX3_understand 68 = .ok (.aload_n 0, 1) := by decide +kernel
theorem dX3_understand_69 : decode cX3_understand 69 = .ok (.getfield 33, 3) := by decide +kernel
theorem dX3_understand_72 : decode cX3_understand 72 = .ok (.iconst 1, 1) := by decide +kernel
theorem dX3_understand_73 : decode cX3_understand 73 = .ok (.bipush 9, 2) := by decide +kernel
theorem dX3_understand_75 : decode cX3_understand 75 = .ok (.invokestatic 42, 3) := by decide +kernel
theorem dX3_understand_78 : decode cX3_understand 78 = .ok (.ifCond .eq 33, 3) := by decide +kernel
theorem dX3_understand_81 : decode cX3_understand 81 = .ok (.aload_n 0, 1) := by decide +kernel
theorem dX3_understand_82 : decode cX3_understand 82 = .ok (.getfield 36, 3) := by decide +kernel
theorem dX3_understand_85 : decode cX3_understand 85 = .ok (.iconst 1, 1) := by decide +kernel
theorem dX3_understand_86 : decode cX3_understand 86 = .ok (.bipush 9, 2) := by decide +kernel
theorem dX3_understand_88 : decode cX3_understand 88 = .ok (.invokestatic 42, 3) := by decide +kernel
theorem dX3_understand_91 : decode cX3_understand 91 = .ok (.ifCond .eq 20, 3) := by decide +kernel
theorem dX3_understand_94 : decode cX3_understand 94 = .ok (.aload_n 0, 1) := by decide +kernel
theorem dX3_understand_95 : decode cX3_understand 95 = .ok (.getfield 39, 3) := by decide +kernel
theorem dX3_understand_98 : decode cX3_understand 98 = .ok (.iconst 1, 1) := by decide +kernel
theorem dX3_understand_99 : decode cX3_understand 99 = .ok (.bipush 99, 2) := by decide +kernel
theorem dX3_understand_101 : decode cX3_understand 101 = .ok (.invokestatic 42, 3) := by decide +kernel
theorem dX3_understand_104 : decode cX3_understand 104 = .ok (.ifCond .eq 7, 3) := by decide +kernel
theorem dX3_understand_107 : decode cX3_understand 107 = .ok (.iconst 1, 1) := by decide +kernel
theorem dX3_understand_108 : decode cX3_understand 108 = .ok (.goto 4, 3) := by decide +kernel
theorem dX3_understand_111 : decode cX3_understand 111 = .ok (.iconst 0, 1) := by decide +kernel
theorem dX3_understand_112 : decode cX3_understand 112 = .ok (.ireturn, 1) := by decide +kernel
theorem dX3_addUp_0 : decode cX3_addUp 0 = .ok (.iconst 0, 1) := by decide +kernel
theorem dX3_addUp_1 : decode cX3_addUp 1 = .ok (.istore_n 3, 1) := by decide +kernel
theorem dX3_addUp_2 : decode cX3_addUp 2 = .ok (.iload_n 3, 1) := by decide +kernel
theorem dX3_addUp_3 : decode cX3_addUp 3 = .ok (.aload_n 2, 1) := by decide +kernel
theorem dX3_addUp_4 : decode cX3_addUp 4 = .ok (.arraylength, 1) := by decide +kernel
theorem dX3_addUp_5 : decode cX3_addUp 5 = .ok (.if_icmp .ge 21, 3) := by decide +kernel
theorem dX3_addUp_8 : decode cX3_addUp 8 = .ok (.aload_n 2, 1) := by decide +kernel
theorem dX3_addUp_9 : decode cX3_addUp 9 = .ok (.iload_n 3, 1) := by decide +kernel
theorem dX3_addUp_10 : decode cX3_addUp 10 = .ok (.iload_n 3, 1) := by decide +kernel
theorem dX3_addUp_11 : decode cX3_addUp 11 = .ok (.ifCond .ne 7, 3) := by decide +kernel
theorem dX3_addUp_14 : decode cX3_addUp 14 = .ok (.lconst 1, 1) := by decide +kernel
theorem dX3_addUp_15 : decode cX3_addUp 15 = .ok (.goto 4, 3) := by decide +kernel
theorem dX3_addUp_18 : decode cX3_addUp 18 = .ok (.lconst 0, 1) := by decide +kernel
theorem dX3_addUp_19 : decode cX3_addUp 19 = .ok (.lastore, 1) := by decide +kernel
theorem dX3_addUp_20 : decode cX3_addUp 20 = .ok (.iinc 3 1, 3) := by decide +kernel
theorem dX3_addUp_23 : decode cX3_addUp 23 = .ok (.goto (-21), 3) := by decide +kernel
theorem dX3_addUp_26 : decode cX3_addUp 26 = .ok (.iconst 0, 1) := by decide +kernel
theorem dX3_addUp_27 : decode cX3_addUp 27 = .ok (.istore_n 3, 1) := by decide +kernel
theorem dX3_addUp_28 : decode cX3_addUp 28 = .ok (.iload_n 3, 1) := by decide +kernel
theorem dX3_addUp_29 : decode cX3_addUp 29 = .ok (.iload_n 1, 1) := by decide +kernel
theorem dX3_addUp_30 : decode cX3_addUp 30 = .ok (.if_icmp .ge 78, 3) := by decide +kernel
theorem dX3_addUp_33 : decode cX3_addUp 33 = .ok (.aload_n 2, 1) := by decide +kernel
theorem dX3_addUp_34 : decode cX3_addUp 34 = .ok (.arraylength, 1) := by decide +kernel
theorem dX3_addUp_35 : decode cX3_addUp 35 = .ok (.iconst 1, 1) := by decide +kernel
theorem dX3_addUp_36 : decode cX3_addUp 36 = .ok (.isub, 1) := by decide +kernel
theorem dX3_addUp_37 : decode cX3_addUp 37 = .ok (.istore 4, 2) := by decide +kernel
theorem dX3_addUp_39 : decode cX3_addUp 39 = .ok (.iload 4, 2) := by decide +kernel
theorem dX3_addUp_41 : decode cX3_addUp 41 = .ok (.ifCond .lt 61, 3) := by decide +kernel
theorem dX3_addUp_44 : decode cX3_addUp 44 = .ok (.lconst 0, 1) := by decide +kernel
theorem dX3_addUp_45 : decode cX3_addUp 45 = .ok (.lstore 5, 2) := by decide +kernel
theorem dX3_addUp_47 : decode cX3_addUp 47 = .ok (.iconst 0, 1) := by decide +kernel
theorem dX3_addUp_48 : decode cX3_addUp 48 = .ok (.istore 7, 2) := by decide +kernel
theorem dX3_addUp_50 : decode cX3_addUp 50 = .ok (.iload 7, 2) := by decide +kernel
theorem dX3_addUp_52 : decode cX3_addUp 52 = .ok (.iconst 4, 1) := by decide +kernel
theorem dX3_addUp_53 : decode cX3_addUp 53 = .ok (.if_icmp .gt 37, 3) := by decide +kernel
theorem dX3_addUp_56 : decode cX3_addUp 56 = .ok (.iload 7, 2) := by decide +kernel
theorem dX3_addUp_58 : decode cX3_addUp 58 = .ok (.iload 4, 2) := by decide +kernel
theorem dX3_addUp_60 : decode cX3_addUp 60 = .ok (.if_icmp .gt 30, 3) := by decide +kernel
theorem dX3_addUp_63 : decode cX3_addUp 63 = .ok (.lload 5, 2) := by decide +kernel
theorem dX3_addUp_65 : decode cX3_addUp 65 = .ok (.aload_n 0, 1) := by decide +kernel
theorem dX3_addUp_66 : decode cX3_addUp 66 = .ok (.getfield 9, 3) := by decide +kernel
theorem dX3_addUp_69 : decode cX3_addUp 69 = .ok (.iload 7, 2) := by decide +kernel
theorem dX3_addUp_71 : decode cX3_addUp 71 = .ok (.iaload, 1) := by decide +kernel
theorem dX3_addUp_72 : decode cX3_addUp 72 = .ok (.i2l, 1) := by decide +kernel
theorem dX3_addUp_73 : decode cX3_addUp 73 = .ok (.aload_n 2, 1) := by decide +kernel
theorem dX3_addUp_74 : decode cX3_addUp 74 = .ok (.iload 4, 2) := by decide +kernel
theorem dX3_addUp_76 : decode cX3_addUp 76 = .ok (.iload 7, 2) := by decide +kernel
theorem dX3_addUp_78 : decode cX3_addUp 78 = .ok (.isub, 1) := by decide +kernel
theorem dX3_addUp_79 : decode cX3_addUp 79 = .ok (.laload, 1) := by decide +kernel
theorem dX3_addUp_80 : decode cX3_addUp 80 = .ok (.lmul, 1) := by decide +kernel
theorem dX3_addUp_81 : decode cX3_addUp 81 = .ok (.ladd, 1) := by decide +kernel
theorem dX3_addUp_82 : decode cX3_addUp 82 = .ok (.lstore 5, 2) := by decide +kernel
theorem dX3_addUp_84 : decode cX3_addUp 84 = .ok (.iinc 7 1, 3) := by decide +kernel
theorem dX3_addUp_87 : decode cX3_addUp 87 = .ok (.goto (-37), 3) := by decide +kernel
theorem dX3_addUp_90 : decode cX3_addUp 90 = .ok (.aload_n 2, 1) := by decide +kernel
theorem dX3_addUp_91 : decode cX3_addUp 91 = .ok (.iload 4, 2) := by decide +kernel
theorem dX3_addUp_93 : decode cX3_addUp 93 = .ok (.lload 5, 2) := by decide +kernel
theorem dX3_addUp_95 : decode cX3_addUp 95 = .ok (.lastore, 1) := by decide +kernel
theorem dX3_addUp_96 : decode cX3_addUp 96 = .ok (.iinc 4 (-1), 3) := by decide +kernel
theorem dX3_addUp_99 : decode cX3_addUp 99 = .ok (.goto (-60), 3) := by decide +kernel
theorem dX3_addUp_102 : decode cX3_addUp 102 = .ok (.iinc 3 1, 3) := by decide +kernel
theorem dX3_addUp_105 : decode cX3_addUp 105 = .ok (.goto (-77), 3) := by decide +kernel
theorem dX3_addUp_108 : decode cX3_addUp 108 = .ok (.return_, 1) := by decide +kernel
theorem dX3_work_0 : decode cX3_work 0 = .ok (.aload_n 0, 1) := by decide +kernel
theorem dX3_work_1 : decode cX3_work 1 = .ok (.aload_n 0, 1) := by decide +kernel
theorem dX3_work_2 : decode cX3_work 2 = .ok (.getfield 26, 3) := by decide +kernel
theorem dX3_work_5 : decode cX3_work 5 = .ok (.iconst 1, 1) := by decide +kernel
theorem dX3_work_6 : decode cX3_work 6 = .ok (.iadd, 1) := by decide +kernel
theorem dX3_work_7 : decode cX3_work 7 = .ok (.aload_n 0, 1) := by decide +kernel
theorem dX3_work_8 : decode cX3_work 8 = .ok (.getfield 17, 3) := by decide +kernel
theorem dX3_work_11 : decode cX3_work 11 = .ok (.invokevirtual 48, 3) := by decide +kernel
theorem dX3_work_14 : decode cX3_work 14 = .ok (.aload_n 0, 1) := by decide +kernel
theorem dX3_work_15 : decode cX3_work 15 = .ok (.aload_n 0, 1) := by decide +kernel
theorem dX3_work_16 : decode cX3_work 16 = .ok (.getfield 30, 3) := by decide +kernel
theorem dX3_work_19 : decode cX3_work 19 = .ok (.aload_n 0, 1) := by decide +kernel
theorem dX3_work_20 : decode cX3_work 20 = .ok (.getfield 20, 3) := by decide +kernel
theorem dX3_work_23 : decode cX3_work 23 = .ok (.invokevirtual 48, 3) := by decide +kernel
theorem dX3_work_26 : decode cX3_work 26 = .ok (.aload_n 0, 1) := by decide +kernel
theorem dX3_work_27 : decode cX3_work 27 = .ok (.lconst 0, 1) := by decide +kernel
theorem dX3_work_28 : decode cX3_work 28 = .ok (.putfield 52, 3) := by decide +kernel
theorem dX3_work_31 : decode cX3_work 31 = .ok (.aload_n 0, 1) := by decide +kernel
theorem dX3_work_32 : decode cX3_work 32 = .ok (.getfield 17, 3) := by decide +kernel
theorem dX3_work_35 : decode cX3_work 35 = .ok (.astore_n 1, 1) := by decide +kernel
theorem dX3_work_36 : decode cX3_work 36 = .ok (.aload_n 1, 1) := by decide +kernel
theorem dX3_work_37 : decode cX3_work 37 = .ok (.arraylength, 1) := by decide +kernel
theorem dX3_work_38 : decode cX3_work 38 = .ok (.istore_n 2, 1) := by decide +kernel
theorem dX3_work_39 : decode cX3_work 39 = .ok (.iconst 0, 1) := by decide +kernel
theorem dX3_work_40 : decode cX3_work 40 = .ok (.istore_n 3, 1) := by decide +kernel
theorem dX3_work_41 : decode cX3_work 41 = .ok (.iload_n 3, 1) := by decide +kernel
theorem dX3_work_42 : decode cX3_work 42 = .ok (.iload_n 2, 1) := by decide +kernel
theorem dX3_work_43 : decode cX3_work 43 = .ok (.if_icmp .ge 25, 3) := by decide +kernel
theorem dX3_work_46 : decode cX3_work 46 = .ok (.aload_n 1, 1) := by decide +kernel
theorem dX3_work_47 : decode cX3_work 47 = .ok (.iload_n 3, 1) := by decide +kernel
theorem dX3_work_48 : decode cX3_work 48 = .ok (.laload, 1) := by decide +kernel
theorem dX3_work_49 : decode cX3_work 49 = .ok (.lstore 4, 2) := by decide +kernel
theorem dX3_work_51 : decode cX3_work 51 = .ok (.aload_n 0, 1) := by decide +kernel
theorem dX3_work_52 : decode cX3_work 52 = .ok (.dup, 1) := by decide +kernel
theorem dX3_work_53 : decode cX3_work 53 = .ok (.getfield 52, 3) := by decide +kernel
theorem dX3_work_56 : decode cX3_work 56 = .ok (.lload 4, 2) := by decide +kernel
theorem dX3_work_58 : decode cX3_work 58 = .ok (.ladd, 1) := by decide +kernel
theorem dX3_work_59 : decode cX3_work 59 = .ok (.putfield 52, 3) := by decide +kernel
theorem dX3_work_62 : decode cX3_work 62 = .ok (.iinc 3 1, 3) := by decide +kernel
theorem dX3_work_65 : decode cX3_work 65 = .ok (.goto (-24), 3) := by decide +kernel
theorem dX3_work_68 : decode cX3_work 68 = .ok (.bipush (-42), 2) := by decide +kernel
theorem dX3_work_70 : decode cX3_work 70 = .ok (.istore_n 1, 1) := by decide +kernel
theorem dX3_work_71 : decode cX3_work 71 = .ok (.iload_n 1, 1) := by decide +kernel
theorem dX3_work_72 : decode cX3_work 72 = .ok (.bipush 30, 2) := by decide +kernel
theorem dX3_work_74 : decode cX3_work 74 = .ok (.if_icmp .gt 23, 3) := by decide +kernel
theorem dX3_work_77 : decode cX3_work 77 = .ok (.aload_n 0, 1) := by decide +kernel
theorem dX3_work_78 : decode cX3_work 78 = .ok (.getfield 23, 3) := by decide +kernel
theorem dX3_work_81 : decode cX3_work 81 = .ok (.iload_n 1, 1) := by decide +kernel
theorem dX3_work_82 : decode cX3_work 82 = .ok (.bipush (-42), 2) := by decide +kernel
theorem dX3_work_84 : decode cX3_work 84 = .ok (.isub, 1) := by decide +kernel
theorem dX3_work_85 : decode cX3_work 85 = .ok (.aload_n 0, 1) := by decide +kernel
theorem dX3_work_86 : decode cX3_work 86 = .ok (.iload_n 1, 1) := by decide +kernel
theorem dX3_work_87 : decode cX3_work 87 = .ok (.invokevirtual 56, 3) := by decide +kernel
theorem dX3_work_90 : decode cX3_work 90 = .ok (.lastore, 1) := by decide +kernel
theorem dX3_work_91 : decode cX3_work 91 = .ok (.iinc 1 1, 3) := by decide +kernel
theorem dX3_work_94 : decode cX3_work 94 = .ok (.goto (-23), 3) := by decide +kernel
theorem dX3_work_97 : decode cX3_work 97 = .ok (.aload_n 0, 1) := by decide +kernel
theorem dX3_work_98 : decode cX3_work 98 = .ok (.iconst 0, 1) := by decide +kernel
theorem dX3_work_99 : decode cX3_work 99 = .ok (.putfield 60, 3) := by decide +kernel
theorem dX3_work_102 : decode cX3_work 102 = .ok (.iconst 1, 1) := by decide +kernel
theorem dX3_work_103 : decode cX3_work 103 = .ok (.istore_n 1, 1) := by decide +kernel
theorem dX3_work_104 : decode cX3_work 104 = .ok (.iload_n 1, 1) := by decide +kernel
theorem dX3_work_105 : decode cX3_work 105 = .ok (.bipush 30, 2) := by decide +kernel
theorem dX3_work_107 : decode cX3_work 107 = .ok (.if_icmp .gt 38, 3) := by decide +kernel
theorem dX3_work_110 : decode cX3_work 110 = .ok (.aload_n 0, 1) := by decide +kernel
theorem dX3_work_111 : decode cX3_work 111 = .ok (.aload_n 0, 1) := by decide +kernel
theorem dX3_work_112 : decode cX3_work 112 = .ok (.iload_n 1, 1) := by decide +kernel
theorem dX3_work_113 : decode cX3_work 113 = .ok (.invokevirtual 63, 3) := by decide +kernel
theorem dX3_work_116 : decode cX3_work 116 = .ok (.aload_n 0, 1) := by decide +kernel
theorem dX3_work_117 : decode cX3_work 117 = .ok (.aload_n 0, 1) := by decide +kernel
theorem dX3_work_118 : decode cX3_work 118 = .ok (.getfield 60, 3) := by decide +kernel
theorem dX3_work_121 : decode cX3_work 121 = .ok (.invokevirtual 63, 3) := by decide +kernel
theorem dX3_work_124 : decode cX3_work 124 = .ok (.lcmp, 1) := by decide +kernel
theorem dX3_work_125 : decode cX3_work 125 = .ok (.ifCond .ge 7, 3) := by decide +kernel
theorem dX3_work_128 : decode cX3_work 128 = .ok (.iload_n 1, 1) := by decide +kernel
theorem dX3_work_129 : decode cX3_work 129 = .ok (.goto 7, 3) := by decide +kernel
theorem dX3_work_132 : decode cX3_work 132 = .ok (.aload_n 0, 1) := by decide +kernel
theorem dX3_work_133 : decode cX3_work 133 = .ok (.getfield 60, 3) := by decide +kernel
theorem dX3_work_136 : decode cX3_work 136 = .ok (.putfield 60, 3) := by decide +kernel
theorem dX3_work_139 : decode cX3_work 139 = .ok (.iinc 1 1, 3) := by decide +kernel
theorem dX3_work_142 : decode cX3_work 142 = .ok (.goto (-38), 3) := by decide +kernel
theorem dX3_work_145 : decode cX3_work 145 = .ok (.return_, 1) := by decide +kernel
theorem dX3_nearSum_0 : decode cX3_nearSum 0 = .ok (.lconst 0, 1) := by decide +kernel
theorem dX3_nearSum_1 : decode cX3_nearSum 1 = .ok (.lstore_n 2, 1) := by decide +kernel
theorem dX3_nearSum_2 : decode cX3_nearSum 2 = .ok (.iconst 0, 1) := by decide +kernel
theorem dX3_nearSum_3 : decode cX3_nearSum 3 = .ok (.istore 4, 2) := by decide +kernel
theorem dX3_nearSum_5 : decode cX3_nearSum 5 = .ok (.iload 4, 2) := by decide +kernel
theorem dX3_nearSum_7 : decode cX3_nearSum 7 = .ok (.aload_n 0, 1) := by decide +kernel
theorem dX3_nearSum_8 : decode cX3_nearSum 8 = .ok (.getfield 17, 3) := by decide +kernel
theorem dX3_nearSum_11 : decode cX3_nearSum 11 = .ok (.arraylength, 1) := by decide +kernel
theorem dX3_nearSum_12 : decode cX3_nearSum 12 = .ok (.if_icmp .ge 67, 3) := by decide +kernel
theorem dX3_nearSum_15 : decode cX3_nearSum 15 = .ok (.aload_n 0, 1) := by decide +kernel
theorem dX3_nearSum_16 : decode cX3_nearSum 16 = .ok (.getfield 33, 3) := by decide +kernel
theorem dX3_nearSum_19 : decode cX3_nearSum 19 = .ok (.i2l, 1) := by decide +kernel
theorem dX3_nearSum_20 : decode cX3_nearSum 20 = .ok (.iload_n 1, 1) := by decide +kernel
theorem dX3_nearSum_21 : decode cX3_nearSum 21 = .ok (.iload 4, 2) := by decide +kernel
theorem dX3_nearSum_23 : decode cX3_nearSum 23 = .ok (.isub, 1) := by decide +kernel
theorem dX3_nearSum_24 : decode cX3_nearSum 24 = .ok (.i2l, 1) := by decide +kernel
theorem dX3_nearSum_25 : decode cX3_nearSum 25 = .ok (.lmul, 1) := by decide +kernel
theorem dX3_nearSum_26 : decode cX3_nearSum 26 = .ok (.lstore 5, 2) := by decide +kernel
theorem dX3_nearSum_28 : decode cX3_nearSum 28 = .ok (.iload 4, 2) := by decide +kernel
theorem dX3_nearSum_30 : decode cX3_nearSum 30 = .ok (.iload_n 1, 1) := by decide +kernel
theorem dX3_nearSum_31 : decode cX3_nearSum 31 = .ok (.if_icmp .le 29, 3) := by decide +kernel
theorem dX3_nearSum_34 : decode cX3_nearSum 34 = .ok (.lload 5, 2) := by decide +kernel
theorem dX3_nearSum_36 : decode cX3_nearSum 36 = .ok (.aload_n 0, 1) := by decide +kernel
theorem dX3_nearSum_37 : decode cX3_nearSum 37 = .ok (.getfield 39, 3) := by decide +kernel
theorem dX3_nearSum_40 : decode cX3_nearSum 40 = .ok (.aload_n 0, 1) := by decide +kernel
theorem dX3_nearSum_41 : decode cX3_nearSum 41 = .ok (.getfield 33, 3) := by decide +kernel
theorem dX3_nearSum_44 : decode cX3_nearSum 44 = .ok (.iadd, 1) := by decide +kernel
theorem dX3_nearSum_45 : decode cX3_nearSum 45 = .ok (.aload_n 0, 1) := by decide +kernel
theorem dX3_nearSum_46 : decode cX3_nearSum 46 = .ok (.getfield 36, 3) := by decide +kernel
theorem dX3_nearSum_49 : decode cX3_nearSum 49 = .ok (.iadd, 1) := by decide +kernel
theorem dX3_nearSum_50 : decode cX3_nearSum 50 = .ok (.i2l, 1) := by decide +kernel
theorem dX3_nearSum_51 : decode cX3_nearSum 51 = .ok (.iload 4, 2) := by decide +kernel
theorem dX3_nearSum_53 : decode cX3_nearSum 53 = .ok (.iload_n 1, 1) := by decide +kernel
theorem dX3_nearSum_54 : decode cX3_nearSum 54 = .ok (.isub, 1) := by decide +kernel
theorem dX3_nearSum_55 : decode cX3_nearSum 55 = .ok (.i2l, 1) := by decide +kernel
theorem dX3_nearSum_56 : decode cX3_nearSum 56 = .ok (.lmul, 1) := by decide +kernel
theorem dX3_nearSum_57 : decode cX3_nearSum 57 = .ok (.ladd, 1) := by decide +kernel
theorem dX3_nearSum_58 : decode cX3_nearSum 58 = .ok (.lstore 5, 2) := by decide +kernel
theorem dX3_nearSum_60 : decode cX3_nearSum 60 = .ok (.lload_n 2, 1) := by decide +kernel
theorem dX3_nearSum_61 : decode cX3_nearSum 61 = .ok (.aload_n 0, 1) := by decide +kernel
theorem dX3_nearSum_62 : decode cX3_nearSum 62 = .ok (.getfield 17, 3) := by decide +kernel
theorem dX3_nearSum_65 : decode cX3_nearSum 65 = .ok (.iload 4, 2) := by decide +kernel
theorem dX3_nearSum_67 : decode cX3_nearSum 67 = .ok (.laload, 1) := by decide +kernel
theorem dX3_nearSum_68 : decode cX3_nearSum 68 = .ok (.lload 5, 2) := by decide +kernel
theorem dX3_nearSum_70 : decode cX3_nearSum 70 = .ok (.lmul, 1) := by decide +kernel
theorem dX3_nearSum_71 : decode cX3_nearSum 71 = .ok (.ladd, 1) := by decide +kernel
theorem dX3_nearSum_72 : decode cX3_nearSum 72 = .ok (.lstore_n 2, 1) := by decide +kernel
theorem dX3_nearSum_73 : decode cX3_nearSum 73 = .ok (.iinc 4 1, 3) := by decide +kernel
theorem dX3_nearSum_76 : decode cX3_nearSum 76 = .ok (.goto (-71), 3) := by decide +kernel
theorem dX3_nearSum_79 : decode cX3_nearSum 79 = .ok (.lload_n 2, 1) := by decide +kernel
theorem dX3_nearSum_80 : decode cX3_nearSum 80 = .ok (.lreturn, 1) := by decide +kernel
theorem dX3_nearCost_0 : decode cX3_nearCost 0 = .ok (.iload_n 1, 1) := by decide +kernel
theorem dX3_nearCost_1 : decode cX3_nearCost 1 = .ok (.bipush (-42), 2) := by decide +kernel
theorem dX3_nearCost_3 : decode cX3_nearCost 3 = .ok (.bipush 30, 2) := by decide +kernel
theorem dX3_nearCost_5 : decode cX3_nearCost 5 = .ok (.invokestatic 42, 3) := by decide +kernel
theorem dX3_nearCost_8 : decode cX3_nearCost 8 = .ok (.ifCond .eq 15, 3) := by decide +kernel
theorem dX3_nearCost_11 : decode cX3_nearCost 11 = .ok (.aload_n 0, 1) := by decide +kernel
theorem dX3_nearCost_12 : decode cX3_nearCost 12 = .ok (.getfield 23, 3) := by decide +kernel
theorem dX3_nearCost_15 : decode cX3_nearCost 15 = .ok (.iload_n 1, 1) := by decide +kernel
theorem dX3_nearCost_16 : decode cX3_nearCost 16 = .ok (.bipush (-42), 2) := by decide +kernel
theorem dX3_nearCost_18 : decode cX3_nearCost 18 = .ok (.isub, 1) := by decide +kernel
theorem dX3_nearCost_19 : decode cX3_nearCost 19 = .ok (.laload, 1) := by decide +kernel
theorem dX3_nearCost_20 : decode cX3_nearCost 20 = .ok (.goto 4, 3) := by decide +kernel
theorem dX3_nearCost_23 : decode cX3_nearCost 23 = .ok (.lconst 0, 1) := by decide +kernel
theorem dX3_nearCost_24 : decode cX3_nearCost 24 = .ok (.lreturn, 1) := by decide +kernel
theorem dX3_farCost_0 : decode cX3_farCost 0 = .ok (.lconst 0, 1) := by decide +kernel
theorem dX3_farCost_1 : decode cX3_farCost 1 = .ok (.lstore_n 2, 1) := by decide +kernel
theorem dX3_farCost_2 : decode cX3_farCost 2 = .ok (.iconst 0, 1) := by decide +kernel
theorem dX3_farCost_3 : decode cX3_farCost 3 = .ok (.istore 4, 2) := by decide +kernel
theorem dX3_farCost_5 : decode cX3_farCost 5 = .ok (.iload 4, 2) := by decide +kernel
theorem dX3_farCost_7 : decode cX3_farCost 7 = .ok (.aload_n 0, 1) := by decide +kernel
theorem dX3_farCost_8 : decode cX3_farCost 8 = .ok (.getfield 20, 3) := by decide +kernel
theorem dX3_farCost_11 : decode cX3_farCost 11 = .ok (.arraylength, 1) := by decide +kernel
theorem dX3_farCost_12 : decode cX3_farCost 12 = .ok (.if_icmp .ge 56, 3) := by decide +kernel
theorem dX3_farCost_15 : decode cX3_farCost 15 = .ok (.aload_n 0, 1) := by decide +kernel
theorem dX3_farCost_16 : decode cX3_farCost 16 = .ok (.getfield 36, 3) := by decide +kernel
theorem dX3_farCost_19 : decode cX3_farCost 19 = .ok (.i2l, 1) := by decide +kernel
theorem dX3_farCost_20 : decode cX3_farCost 20 = .ok (.iload_n 1, 1) := by decide +kernel
theorem dX3_farCost_21 : decode cX3_farCost 21 = .ok (.iload 4, 2) := by decide +kernel
theorem dX3_farCost_23 : decode cX3_farCost 23 = .ok (.isub, 1) := by decide +kernel
theorem dX3_farCost_24 : decode cX3_farCost 24 = .ok (.i2l, 1) := by decide +kernel
theorem dX3_farCost_25 : decode cX3_farCost 25 = .ok (.lmul, 1) := by decide +kernel
theorem dX3_farCost_26 : decode cX3_farCost 26 = .ok (.aload_n 0, 1) := by decide +kernel
theorem dX3_farCost_27 : decode cX3_farCost 27 = .ok (.getfield 52, 3) := by decide +kernel
theorem dX3_farCost_30 : decode cX3_farCost 30 = .ok (.lmul, 1) := by decide +kernel
theorem dX3_farCost_31 : decode cX3_farCost 31 = .ok (.lstore 5, 2) := by decide +kernel
theorem dX3_farCost_33 : decode cX3_farCost 33 = .ok (.lload_n 2, 1) := by decide +kernel
theorem dX3_farCost_34 : decode cX3_farCost 34 = .ok (.aload_n 0, 1) := by decide +kernel
theorem dX3_farCost_35 : decode cX3_farCost 35 = .ok (.getfield 20, 3) := by decide +kernel
theorem dX3_farCost_38 : decode cX3_farCost 38 = .ok (.iload 4, 2) := by decide +kernel
theorem dX3_farCost_40 : decode cX3_farCost 40 = .ok (.laload, 1) := by decide +kernel
theorem dX3_farCost_41 : decode cX3_farCost 41 = .ok (.lload 5, 2) := by decide +kernel
theorem dX3_farCost_43 : decode cX3_farCost 43 = .ok (.aload_n 0, 1) := by decide +kernel
theorem dX3_farCost_44 : decode cX3_farCost 44 = .ok (.aload_n 0, 1) := by decide +kernel
theorem dX3_farCost_45 : decode cX3_farCost 45 = .ok (.getfield 60, 3) := by decide +kernel
theorem dX3_farCost_48 : decode cX3_farCost 48 = .ok (.iload_n 1, 1) := by decide +kernel
theorem dX3_farCost_49 : decode cX3_farCost 49 = .ok (.iload 4, 2) := by decide +kernel
theorem dX3_farCost_51 : decode cX3_farCost 51 = .ok (.isub, 1) := by decide +kernel
theorem dX3_farCost_52 : decode cX3_farCost 52 = .ok (.invokestatic 66, 3) := by decide +kernel
theorem dX3_farCost_55 : decode cX3_farCost 55 = .ok (.invokevirtual 63, 3) := by decide +kernel
theorem dX3_farCost_58 : decode cX3_farCost 58 = .ok (.ladd, 1) := by decide +kernel
theorem dX3_farCost_59 : decode cX3_farCost 59 = .ok (.lmul, 1) := by decide +kernel
theorem dX3_farCost_60 : decode cX3_farCost 60 = .ok (.ladd, 1) := by decide +kernel
theorem dX3_farCost_61 : decode cX3_farCost 61 = .ok (.lstore_n 2, 1) := by decide +kernel
theorem dX3_farCost_62 : decode cX3_farCost 62 = .ok (.iinc 4 1, 3) := by decide +kernel
theorem dX3_farCost_65 : decode cX3_farCost 65 = .ok (.goto (-60), 3) := by decide +kernel
theorem dX3_farCost_68 : decode cX3_farCost 68 = .ok (.lload_n 2, 1) := by decide +kernel
theorem dX3_farCost_69 : decode cX3_farCost 69 = .ok (.lreturn, 1) := by decide +kernel
theorem dX3_far_0 : decode cX3_far 0 = .ok (.iconst 0, 1) := by decide +kernel
theorem dX3_far_1 : decode cX3_far 1 = .ok (.istore_n 1, 1) := by decide +kernel
theorem dX3_far_2 : decode cX3_far 2 = .ok (.aload_n 0, 1) := by decide +kernel
theorem dX3_far_3 : decode cX3_far 3 = .ok (.iconst 0, 1) := by decide +kernel
theorem dX3_far_4 : decode cX3_far 4 = .ok (.invokevirtual 72, 3) := by decide +kernel
theorem dX3_far_7 : decode cX3_far 7 = .ok (.lstore_n 2, 1) := by decide +kernel
theorem dX3_far_8 : decode cX3_far 8 = .ok (.iconst 1, 1) := by decide +kernel
theorem dX3_far_9 : decode cX3_far 9 = .ok (.istore 4, 2) := by decide +kernel
theorem dX3_far_11 : decode cX3_far 11 = .ok (.iload 4, 2) := by decide +kernel
theorem dX3_far_13 : decode cX3_far 13 = .ok (.bipush 30, 2) := by decide +kernel
theorem dX3_far_15 : decode cX3_far 15 = .ok (.if_icmp .gt 30, 3) := by decide +kernel
theorem dX3_far_18 : decode cX3_far 18 = .ok (.aload_n 0, 1) := by decide +kernel
theorem dX3_far_19 : decode cX3_far 19 = .ok (.iload 4, 2) := by decide +kernel
theorem dX3_far_21 : decode cX3_far 21 = .ok (.invokevirtual 72, 3) := by decide +kernel
theorem dX3_far_24 : decode cX3_far 24 = .ok (.lstore 5, 2) := by decide +kernel
theorem dX3_far_26 : decode cX3_far 26 = .ok (.lload 5, 2) := by decide +kernel
theorem dX3_far_28 : decode cX3_far 28 = .ok (.lload_n 2, 1) := by decide +kernel
theorem dX3_far_29 : decode cX3_far 29 = .ok (.lcmp, 1) := by decide +kernel
theorem dX3_far_30 : decode cX3_far 30 = .ok (.ifCond .ge 9, 3) := by decide +kernel
theorem dX3_far_33 : decode cX3_far 33 = .ok (.lload 5, 2) := by decide +kernel
theorem dX3_far_35 : decode cX3_far 35 = .ok (.lstore_n 2, 1) := by decide +kernel
theorem dX3_far_36 : decode cX3_far 36 = .ok (.iload 4, 2) := by decide +kernel
theorem dX3_far_38 : decode cX3_far 38 = .ok (.istore_n 1, 1) := by decide +kernel
theorem dX3_far_39 : decode cX3_far 39 = .ok (.iinc 4 1, 3) := by decide +kernel
theorem dX3_far_42 : decode cX3_far 42 = .ok (.goto (-31), 3) := by decide +kernel
theorem dX3_far_45 : decode cX3_far 45 = .ok (.iload_n 1, 1) := by decide +kernel
theorem dX3_far_46 : decode cX3_far 46 = .ok (.ireturn, 1) := by decide +kernel
theorem dX4_init_0 : decode cX4_init 0 = .ok (.aload_n 0, 1) := by decide +kernel
theorem dX4_init_1 : decode cX4_init 1 = .ok (.invokespecial 1, 3) := by decide +kernel
theorem dX4_init_4 : decode cX4_init 4 = .ok (.aload_n 0, 1) := by decide +kernel
theorem dX4_init_5 : decode cX4_init 5 = .ok (.new 7, 3) := by decide +kernel
theorem dX4_init_8 : decode cX4_init 8 = .ok (.dup, 1) := by decide +kernel
theorem dX4_init_9 : decode cX4_init 9 = .ok (.invokespecial 9, 3) := by decide +kernel
theorem dX4_init_12 : decode cX4_init 12 = .ok (.putfield 10, 3) := by decide +kernel
theorem dX4_init_15 : decode cX4_init 15 = .ok (.aload_n 0, 1) := by decide +kernel
theorem dX4_init_16 : decode cX4_init 16 = .ok (.new 7, 3) := by decide +kernel
theorem dX4_init_19 : decode cX4_init 19 = .ok (.dup, 1) := by decide +kernel
theorem dX4_init_20 : decode cX4_init 20 = .ok (.invokespecial 9, 3) := by decide +kernel
theorem dX4_init_23 : decode cX4_init 23 = .ok (.putfield 16, 3) := by decide +kernel
theorem dX4_init_26 : decode cX4_init 26 = .ok (.aload_n 0, 1) := by decide +kernel
theorem dX4_init_27 : decode cX4_init 27 = .ok (.new 7, 3) := by decide +kernel
theorem dX4_init_30 : decode cX4_init 30 = .ok (.dup, 1) := by decide +kernel
theorem dX4_init_31 : decode cX4_init 31 = .ok (.invokespecial 9, 3) := by decide +kernel
theorem dX4_init_34 : decode cX4_init 34 = .ok (.putfield 19, 3) := by decide +kernel
theorem dX4_init_37 : decode cX4_init 37 = .ok (.aload_n 0, 1) := by decide +kernel
theorem dX4_init_38 : decode cX4_init 38 = .ok (.new 7, 3) := by decide +kernel
theorem dX4_init_41 : decode cX4_init 41 = .ok (.dup, 1) := by decide +kernel
theorem dX4_init_42 : decode cX4_init 42 = .ok (.invokespecial 9, 3) := by decide +kernel
theorem dX4_init_45 : decode cX4_init 45 = .ok (.putfield 22, 3) := by decide +kernel
theorem dX4_init_48 : decode cX4_init 48 = .ok (.aload_n 0, 1) := by decide +kernel
theorem dX4_init_49 : decode cX4_init 49 = .ok (.new 7, 3) := by decide +kernel
theorem dX4_init_52 : decode cX4_init 52 = .ok (.dup, 1) := by decide +kernel
theorem dX4_init_53 : decode cX4_init 53 = .ok (.invokespecial 9, 3) := by decide +kernel
theorem dX4_init_56 : decode cX4_init 56 = .ok (.putfield 25, 3) := by decide +kernel
theorem dX4_init_59 : decode cX4_init 59 = .ok (.aload_n 0, 1) := by decide +kernel
theorem dX4_init_60 : decode cX4_init 60 = .ok (.new 7, 3) := by decide +kernel
theorem dX4_init_63 : decode cX4_init 63 = .ok (.dup, 1) := by decide +kernel
theorem dX4_init_64 : decode cX4_init 64 = .ok (.invokespecial 9, 3) := by decide +kernel
theorem dX4_init_67 : decode cX4_init 67 = .ok (.putfield 28, 3) := by decide +kernel
theorem dX4_init_70 : decode cX4_init 70 = .ok (.aload_n 0, 1) := by decide +kernel
theorem dX4_init_71 : decode cX4_init 71 = .ok (.new 7, 3) := by decide +kernel
theorem dX4_init_74 : decode cX4_init 74 = .ok (.dup, 1) := by decide +kernel
theorem dX4_init_75 : decode cX4_init 75 = .ok (.invokespecial 9, 3) := by decide +kernel
theorem dX4_init_78 : decode cX4_init 78 = .ok (.putfield 31, 3) := by decide +kernel
theorem dX4_init_81 : decode cX4_init 81 = .ok (.aload_n 0, 1) := by decide +kernel
theorem dX4_init_82 : decode cX4_init 82 = .ok (.new 7, 3) := by decide +kernel
theorem dX4_init_85 : decode cX4_init 85 = .ok (.dup, 1) := by decide +kernel
theorem dX4_init_86 : decode cX4_init 86 = .ok (.invokespecial 9, 3) := by decide +kernel
theorem dX4_init_89 : decode cX4_init 89 = .ok (.putfield 34, 3) := by decide +kernel
theorem dX4_init_92 : decode cX4_init 92 = .ok (.aload_n 0, 1) := by decide +kernel
theorem dX4_init_93 : decode cX4_init 93 = .ok (.new 7, 3) := by decide +kernel
theorem dX4_init_96 : decode cX4_init 96 = .ok (.dup, 1) := by decide +kernel
theorem dX4_init_97 : decode cX4_init 97 = .ok (.invokespecial 9, 3) := by decide +kernel
theorem dX4_init_100 : decode cX4_init 100 = .ok (.putfield 37, 3) := by decide +kernel
theorem dX4_init_103 : decode cX4_init 103 = .ok (.aload_n 0, 1) := by decide +kernel
theorem dX4_init_104 : decode cX4_init 104 = .ok (.new 7, 3) := by decide +kernel
theorem dX4_init_107 : decode cX4_init 107 = .ok (.dup, 1) := by decide +kernel
theorem dX4_init_108 : decode cX4_init 108 = .ok (.invokespecial 9, 3) := by decide +kernel
theorem dX4_init_111 : decode cX4_init 111 = .ok (.putfield 40, 3) := by decide +kernel
theorem dX4_init_114 : decode cX4_init 114 = .ok (.aload_n 0, 1) := by decide +kernel
theorem dX4_init_115 : decode cX4_init 115 = .ok (.new 7, 3) := by decide +kernel
theorem dX4_init_118 : decode cX4_init 118 = .ok (.dup, 1) := by decide +kernel
theorem dX4_init_119 : decode cX4_init 119 = .ok (.invokespecial 9, 3) := by decide +kernel
theorem dX4_init_122 : decode cX4_init 122 = .ok (.putfield 43, 3) := by decide +kernel
theorem dX4_init_125 : decode cX4_init 125 = .ok (.aload_n 0, 1) := by decide +kernel
theorem dX4_init_126 : decode cX4_init 126 = .ok (.getfield 10, 3) := by decide +kernel
theorem dX4_init_129 : decode cX4_init 129 = .ok (.lconst 1, 1) := by decide +kernel
theorem dX4_init_130 : decode cX4_init 130 = .ok (.putfield 46, 3) := by decide +kernel
theorem dX4_init_133 : decode cX4_init 133 = .ok (.aload_n 0, 1) := by decide +kernel
theorem dX4_init_134 : decode cX4_init 134 = .ok (.getfield 16, 3) := by decide +kernel
theorem dX4_init_137 : decode cX4_init 137 = .ok (.lconst 1, 1) := by decide +kernel
theorem dX4_init_138 : decode cX4_init 138 = .ok (.putfield 46, 3) := by decide +kernel
theorem dX4_init_141 : decode cX4_init 141 = .ok (.aload_n 0, 1) := by decide +kernel
theorem dX4_init_142 : decode cX4_init 142 = .ok (.getfield 19, 3) := by decide +kernel
theorem dX4_init_145 : decode cX4_init 145 = .ok (.lconst 1, 1) := by decide +kernel
theorem dX4_init_146 : decode cX4_init 146 = .ok (.putfield 46, 3) := by decide +kernel
theorem dX4_init_149 : decode cX4_init 149 = .ok (.aload_n 0, 1) := by decide +kernel
theorem dX4_init_150 : decode cX4_init 150 = .ok (.getfield 22, 3) := by decide +kernel
theorem dX4_init_153 : decode cX4_init 153 = .ok (.lconst 1, 1) := by decide +kernel
theorem dX4_init_154 : decode cX4_init 154 = .ok (.putfield 46, 3) := by decide +kernel
theorem dX4_init_157 : decode cX4_init 157 = .ok (.return_, 1) := by decide +kernel
theorem dX4_begin_0 : decode cX4_begin 0 = .ok (.aload_n 0, 1) := by decide +kernel
theorem dX4_begin_1 : decode cX4_begin 1 = .ok (.getfield 28, 3) := by decide +kernel
theorem dX4_begin_4 : decode cX4_begin 4 = .ok (.lconst 0, 1) := by decide +kernel
theorem dX4_begin_5 : decode cX4_begin 5 = .ok (.lconst 1, 1) := by decide +kernel
theorem dX4_begin_6 : decode cX4_begin 6 = .ok (.invokevirtual 50, 3) := by decide +kernel
theorem dX4_begin_9 : decode cX4_begin 9 = .ok (.aload_n 0, 1) := by decide +kernel
theorem dX4_begin_10 : decode cX4_begin 10 = .ok (.getfield 31, 3) := by decide +kernel
theorem dX4_begin_13 : decode cX4_begin 13 = .ok (.lconst 0, 1) := by decide +kernel
theorem dX4_begin_14 : decode cX4_begin 14 = .ok (.lconst 1, 1) := by decide +kernel
theorem dX4_begin_15 : decode cX4_begin 15 = .ok (.invokevirtual 50, 3) := by decide +kernel
theorem dX4_begin_18 : decode cX4_begin 18 = .ok (.aload_n 0, 1) := by decide +kernel
theorem dX4_begin_19 : decode cX4_begin 19 = .ok (.getfield 43, 3) := by decide +kernel
theorem dX4_begin_22 : decode cX4_begin 22 = .ok (.lconst 0, 1) := by decide +kernel
theorem dX4_begin_23 : decode cX4_begin 23 = .ok (.lconst 1, 1) := by decide +kernel
theorem dX4_begin_24 : decode cX4_begin 24 = .ok (.invokevirtual 50, 3) := by decide +kernel
theorem dX4_begin_27 : decode cX4_begin 27 = .ok (.return_, 1) := by decide +kernel
theorem dX4_pass_0 : decode cX4_pass 0 = .ok (.aload_n 0, 1) := by decide +kernel
theorem dX4_pass_1 : decode cX4_pass 1 = .ok (.getfield 25, 3) := by decide +kernel
theorem dX4_pass_4 : decode cX4_pass 4 = .ok (.iload_n 1, 1) := by decide +kernel
theorem dX4_pass_5 : decode cX4_pass 5 = .ok (.ifCond .ne 7, 3) := by decide +kernel
theorem dX4_pass_8 : decode cX4_pass 8 = .ok (.lconst 1, 1) := by decide +kernel
theorem dX4_pass_9 : decode cX4_pass 9 = .ok (.goto 4, 3) := by decide +kernel
theorem dX4_pass_12 : decode cX4_pass 12 = .ok (.lconst 0, 1) := by decide +kernel
theorem dX4_pass_13 : decode cX4_pass 13 = .ok (.lconst 1, 1) := by decide +kernel
theorem dX4_pass_14 : decode cX4_pass 14 = .ok (.invokevirtual 50, 3) := by decide +kernel
theorem dX4_pass_17 : decode cX4_pass 17 = .ok (.aload_n 0, 1) := by decide +kernel
theorem dX4_pass_18 : decode cX4_pass 18 = .ok (.getfield 37, 3) := by decide +kernel
theorem dX4_pass_21 : decode cX4_pass 21 = .ok (.aload_n 0, 1) := by decide +kernel
theorem dX4_pass_22 : decode cX4_pass 22 = .ok (.getfield 25, 3) := by decide +kernel
theorem dX4_pass_25 : decode cX4_pass 25 = .ok (.aload_n 0, 1) := by decide +kernel
theorem dX4_pass_26 : decode cX4_pass 26 = .ok (.getfield 28, 3) := by decide +kernel
theorem dX4_pass_29 : decode cX4_pass 29 = .ok (.invokevirtual 54, 3) := by decide +kernel
theorem dX4_pass_32 : decode cX4_pass 32 = .ok (.aload_n 0, 1) := by decide +kernel
theorem dX4_pass_33 : decode cX4_pass 33 = .ok (.getfield 37, 3) := by decide +kernel
theorem dX4_pass_36 : decode cX4_pass 36 = .ok (.aload_n 0, 1) := by decide +kernel
theorem dX4_pass_37 : decode cX4_pass 37 = .ok (.getfield 10, 3) := by decide +kernel
theorem dX4_pass_40 : decode cX4_pass 40 = .ok (.aload_n 0, 1) := by decide +kernel
theorem dX4_pass_41 : decode cX4_pass 41 = .ok (.getfield 37, 3) := by decide +kernel
theorem dX4_pass_44 : decode cX4_pass 44 = .ok (.invokevirtual 58, 3) := by decide +kernel
theorem dX4_pass_47 : decode cX4_pass 47 = .ok (.aload_n 0, 1) := by decide +kernel
theorem dX4_pass_48 : decode cX4_pass 48 = .ok (.getfield 28, 3) := by decide +kernel
theorem dX4_pass_51 : decode cX4_pass 51 = .ok (.aload_n 0, 1) := by decide +kernel
theorem dX4_pass_52 : decode cX4_pass 52 = .ok (.getfield 28, 3) := by decide +kernel
theorem dX4_pass_55 : decode cX4_pass 55 = .ok (.aload_n 0, 1) := by decide +kernel
theorem dX4_pass_56 : decode cX4_pass 56 = .ok (.getfield 37, 3) := by decide +kernel
theorem dX4_pass_59 : decode cX4_pass 59 = .ok (.invokevirtual 61, 3) := by decide +kernel
theorem dX4_pass_62 : decode cX4_pass 62 = .ok (.aload_n 0, 1) := by decide +kernel
theorem dX4_pass_63 : decode cX4_pass 63 = .ok (.getfield 31, 3) := by decide +kernel
theorem dX4_pass_66 : decode cX4_pass 66 = .ok (.aload_n 0, 1) := by decide +kernel
theorem dX4_pass_67 : decode cX4_pass 67 = .ok (.getfield 31, 3) := by decide +kernel
theorem dX4_pass_70 : decode cX4_pass 70 = .ok (.aload_n 0, 1) := by decide +kernel
theorem dX4_pass_71 : decode cX4_pass 71 = .ok (.getfield 25, 3) := by decide +kernel
theorem dX4_pass_74 : decode cX4_pass 74 = .ok (.invokevirtual 54, 3) := by decide +kernel
theorem dX4_pass_77 : decode cX4_pass 77 = .ok (.aload_n 0, 1) := by decide +kernel
theorem dX4_pass_78 : decode cX4_pass 78 = .ok (.getfield 37, 3) := by decide +kernel
theorem dX4_pass_81 : decode cX4_pass 81 = .ok (.aload_n 0, 1) := by decide +kernel
theorem dX4_pass_82 : decode cX4_pass 82 = .ok (.getfield 19, 3) := by decide +kernel
theorem dX4_pass_85 : decode cX4_pass 85 = .ok (.aload_n 0, 1) := by decide +kernel
theorem dX4_pass_86 : decode cX4_pass 86 = .ok (.getfield 28, 3) := by decide +kernel
theorem dX4_pass_89 : decode cX4_pass 89 = .ok (.invokevirtual 58, 3) := by decide +kernel
theorem dX4_pass_92 : decode cX4_pass 92 = .ok (.aload_n 0, 1) := by decide +kernel
theorem dX4_pass_93 : decode cX4_pass 93 = .ok (.getfield 37, 3) := by decide +kernel
theorem dX4_pass_96 : decode cX4_pass 96 = .ok (.aload_n 0, 1) := by decide +kernel
theorem dX4_pass_97 : decode cX4_pass 97 = .ok (.getfield 37, 3) := by decide +kernel
theorem dX4_pass_100 : decode cX4_pass 100 = .ok (.aload_n 0, 1) := by decide +kernel
theorem dX4_pass_101 : decode cX4_pass 101 = .ok (.getfield 31, 3) := by decide +kernel
theorem dX4_pass_104 : decode cX4_pass 104 = .ok (.invokevirtual 54, 3) := by decide +kernel
theorem dX4_pass_107 : decode cX4_pass 107 = .ok (.aload_n 0, 1) := by decide +kernel
theorem dX4_pass_108 : decode cX4_pass 108 = .ok (.getfield 37, 3) := by decide +kernel
theorem dX4_pass_111 : decode cX4_pass 111 = .ok (.aload_n 0, 1) := by decide +kernel
theorem dX4_pass_112 : decode cX4_pass 112 = .ok (.getfield 16, 3) := by decide +kernel
theorem dX4_pass_115 : decode cX4_pass 115 = .ok (.aload_n 0, 1) := by decide +kernel
theorem dX4_pass_116 : decode cX4_pass 116 = .ok (.getfield 37, 3) := by decide +kernel
theorem dX4_pass_119 : decode cX4_pass 119 = .ok (.invokevirtual 58, 3) := by decide +kernel
theorem dX4_pass_122 : decode cX4_pass 122 = .ok (.aload_n 0, 1) := by decide +kernel
theorem dX4_pass_123 : decode cX4_pass 123 = .ok (.getfield 34, 3) := by decide +kernel
theorem dX4_pass_126 : decode cX4_pass 126 = .ok (.aload_n 0, 1) := by decide +kernel
theorem dX4_pass_127 : decode cX4_pass 127 = .ok (.getfield 25, 3) := by decide +kernel
theorem dX4_pass_130 : decode cX4_pass 130 = .ok (.aload_n 0, 1) := by decide +kernel
theorem dX4_pass_131 : decode cX4_pass 131 = .ok (.getfield 37, 3) := by decide +kernel
theorem dX4_pass_134 : decode cX4_pass 134 = .ok (.invokevirtual 61, 3) := by decide +kernel
theorem dX4_pass_137 : decode cX4_pass 137 = .ok (.aload_n 0, 1) := by decide +kernel
theorem dX4_pass_138 : decode cX4_pass 138 = .ok (.getfield 31, 3) := by decide +kernel
theorem dX4_pass_141 : decode cX4_pass 141 = .ok (.aload_n 0, 1) := by decide +kernel
theorem dX4_pass_142 : decode cX4_pass 142 = .ok (.getfield 31, 3) := by decide +kernel
theorem dX4_pass_145 : decode cX4_pass 145 = .ok (.aload_n 0, 1) := by decide +kernel
theorem dX4_pass_146 : decode cX4_pass 146 = .ok (.getfield 34, 3) := by decide +kernel
theorem dX4_pass_149 : decode cX4_pass 149 = .ok (.invokevirtual 61, 3) := by decide +kernel
theorem dX4_pass_152 : decode cX4_pass 152 = .ok (.aload_n 0, 1) := by decide +kernel
theorem dX4_pass_153 : decode cX4_pass 153 = .ok (.getfield 34, 3) := by decide +kernel
theorem dX4_pass_156 : decode cX4_pass 156 = .ok (.aload_n 0, 1) := by decide +kernel
theorem dX4_pass_157 : decode cX4_pass 157 = .ok (.getfield 34, 3) := by decide +kernel
theorem dX4_pass_160 : decode cX4_pass 160 = .ok (.getfield 64, 3) := by decide +kernel
theorem dX4_pass_163 : decode cX4_pass 163 = .ok (.ifCond .ne 13, 3) := by decide +kernel
theorem dX4_pass_166 : decode cX4_pass 166 = .ok (.aload_n 0, 1) := by decide +kernel
theorem dX4_pass_167 : decode cX4_pass 167 = .ok (.getfield 31, 3) := by decide +kernel
theorem dX4_pass_170 : decode cX4_pass 170 = .ok (.getfield 64, 3) := by decide +kernel
theorem dX4_pass_173 : decode cX4_pass 173 = .ok (.ifCond .eq 7, 3) := by decide +kernel
theorem dX4_pass_176 : decode cX4_pass 176 = .ok (.iconst 1, 1) := by decide +kernel
theorem dX4_pass_177 : decode cX4_pass 177 = .ok (.goto 4, 3) := by decide +kernel
theorem dX4_pass_180 : decode cX4_pass 180 = .ok (.iconst 0, 1) := by decide +kernel
theorem dX4_pass_181 : decode cX4_pass 181 = .ok (.putfield 64, 3) := by decide +kernel
theorem dX4_pass_184 : decode cX4_pass 184 = .ok (.return_, 1) := by decide +kernel
theorem dX4_below_0 : decode cX4_below 0 = .ok (.aload_n 0, 1) := by decide +kernel
theorem dX4_below_1 : decode cX4_below 1 = .ok (.getfield 40, 3) := by decide +kernel
theorem dX4_below_4 : decode cX4_below 4 = .ok (.aload_n 0, 1) := by decide +kernel
theorem dX4_below_5 : decode cX4_below 5 = .ok (.getfield 22, 3) := by decide +kernel
theorem dX4_below_8 : decode cX4_below 8 = .ok (.aload_n 0, 1) := by decide +kernel
theorem dX4_below_9 : decode cX4_below 9 = .ok (.getfield 10, 3) := by decide +kernel
theorem dX4_below_12 : decode cX4_below 12 = .ok (.invokevirtual 54, 3) := by decide +kernel
theorem dX4_below_15 : decode cX4_below 15 = .ok (.aload_n 0, 1) := by decide +kernel
theorem dX4_below_16 : decode cX4_below 16 = .ok (.getfield 37, 3) := by decide +kernel
theorem dX4_below_19 : decode cX4_below 19 = .ok (.aload_n 0, 1) := by decide +kernel
theorem dX4_below_20 : decode cX4_below 20 = .ok (.getfield 22, 3) := by decide +kernel
theorem dX4_below_23 : decode cX4_below 23 = .ok (.aload_n 0, 1) := by decide +kernel
theorem dX4_below_24 : decode cX4_below 24 = .ok (.getfield 16, 3) := by decide +kernel
theorem dX4_below_27 : decode cX4_below 27 = .ok (.invokevirtual 54, 3) := by decide +kernel
theorem dX4_below_30 : decode cX4_below 30 = .ok (.iload_n 1, 1) := by decide +kernel
theorem dX4_below_31 : decode cX4_below 31 = .ok (.ifCond .ne 15, 3) := by decide +kernel
theorem dX4_below_34 : decode cX4_below 34 = .ok (.aload_n 0, 1) := by decide +kernel
theorem dX4_below_35 : decode cX4_below 35 = .ok (.getfield 40, 3) := by decide +kernel
theorem dX4_below_38 : decode cX4_below 38 = .ok (.lconst 1, 1) := by decide +kernel
theorem dX4_below_39 : decode cX4_below 39 = .ok (.lconst 1, 1) := by decide +kernel
theorem dX4_below_40 : decode cX4_below 40 = .ok (.invokevirtual 50, 3) := by decide +kernel
theorem dX4_below_43 : decode cX4_below 43 = .ok (.goto 56, 3) := by decide +kernel
theorem dX4_below_46 : decode cX4_below 46 = .ok (.iload_n 1, 1) := by decide +kernel
theorem dX4_below_47 : decode cX4_below 47 = .ok (.iconst 1, 1) := by decide +kernel
theorem dX4_below_48 : decode cX4_below 48 = .ok (.if_icmp .ne 36, 3) := by decide +kernel
theorem dX4_below_51 : decode cX4_below 51 = .ok (.aload_n 0, 1) := by decide +kernel
theorem dX4_below_52 : decode cX4_below 52 = .ok (.getfield 40, 3) := by decide +kernel
theorem dX4_below_55 : decode cX4_below 55 = .ok (.aload_n 0, 1) := by decide +kernel
theorem dX4_below_56 : decode cX4_below 56 = .ok (.getfield 40, 3) := by decide +kernel
theorem dX4_below_59 : decode cX4_below 59 = .ok (.aload_n 0, 1) := by decide +kernel
theorem dX4_below_60 : decode cX4_below 60 = .ok (.getfield 37, 3) := by decide +kernel
theorem dX4_below_63 : decode cX4_below 63 = .ok (.invokevirtual 61, 3) := by decide +kernel
theorem dX4_below_66 : decode cX4_below 66 = .ok (.aload_n 0, 1) := by decide +kernel
theorem dX4_below_67 : decode cX4_below 67 = .ok (.getfield 40, 3) := by decide +kernel
theorem dX4_below_70 : decode cX4_below 70 = .ok (.aload_n 0, 1) := by decide +kernel
theorem dX4_below_71 : decode cX4_below 71 = .ok (.getfield 40, 3) := by decide +kernel
theorem dX4_below_74 : decode cX4_below 74 = .ok (.getfield 46, 3) := by decide +kernel
theorem dX4_below_77 : decode cX4_below 77 = .ok (.lneg, 1) := by decide +kernel
theorem dX4_below_78 : decode cX4_below 78 = .ok (.putfield 46, 3) := by decide +kernel
theorem dX4_below_81 : decode cX4_below 81 = .ok (.goto 18, 3) := by decide +kernel
theorem dX4_below_84 : decode cX4_below 84 = .ok (.aload_n 0, 1) := by decide +kernel
theorem dX4_below_85 : decode cX4_below 85 = .ok (.getfield 40, 3) := by decide +kernel
theorem dX4_below_88 : decode cX4_below 88 = .ok (.aload_n 0, 1) := by decide +kernel
theorem dX4_below_89 : decode cX4_below 89 = .ok (.getfield 40, 3) := by decide +kernel
theorem dX4_below_92 : decode cX4_below 92 = .ok (.aload_n 0, 1) := by decide +kernel
theorem dX4_below_93 : decode cX4_below 93 = .ok (.getfield 37, 3) := by decide +kernel
theorem dX4_below_96 : decode cX4_below 96 = .ok (.invokevirtual 58, 3) := by decide +kernel
theorem dX4_below_99 : decode cX4_below 99 = .ok (.return_, 1) := by decide +kernel
theorem dX4_above_0 : decode cX4_above 0 = .ok (.aload_n 0, 1) := by decide +kernel
theorem dX4_above_1 : decode cX4_above 1 = .ok (.invokevirtual 68, 3) := by decide +kernel
theorem dX4_above_4 : decode cX4_above 4 = .ok (.iconst 0, 1) := by decide +kernel
theorem dX4_above_5 : decode cX4_above 5 = .ok (.istore_n 2, 1) := by decide +kernel
theorem dX4_above_6 : decode cX4_above 6 = .ok (.iload_n 2, 1) := by decide +kernel
theorem dX4_above_7 : decode cX4_above 7 = .ok (.iload_n 1, 1) := by decide +kernel
theorem dX4_above_8 : decode cX4_above 8 = .ok (.if_icmp .gt 51, 3) := by decide +kernel
theorem dX4_above_11 : decode cX4_above 11 = .ok (.aload_n 0, 1) := by decide +kernel
theorem dX4_above_12 : decode cX4_above 12 = .ok (.iload_n 2, 1) := by decide +kernel
theorem dX4_above_13 : decode cX4_above 13 = .ok (.invokevirtual 71, 3) := by decide +kernel
theorem dX4_above_16 : decode cX4_above 16 = .ok (.aload_n 0, 1) := by decide +kernel
theorem dX4_above_17 : decode cX4_above 17 = .ok (.iload_n 1, 1) := by decide +kernel
theorem dX4_above_18 : decode cX4_above 18 = .ok (.iload_n 2, 1) := by decide +kernel
theorem dX4_above_19 : decode cX4_above 19 = .ok (.isub, 1) := by decide +kernel
theorem dX4_above_20 : decode cX4_above 20 = .ok (.invokevirtual 75, 3) := by decide +kernel
theorem dX4_above_23 : decode cX4_above 23 = .ok (.aload_n 0, 1) := by decide +kernel
theorem dX4_above_24 : decode cX4_above 24 = .ok (.getfield 37, 3) := by decide +kernel
theorem dX4_above_27 : decode cX4_above 27 = .ok (.aload_n 0, 1) := by decide +kernel
theorem dX4_above_28 : decode cX4_above 28 = .ok (.getfield 34, 3) := by decide +kernel
theorem dX4_above_31 : decode cX4_above 31 = .ok (.aload_n 0, 1) := by decide +kernel
theorem dX4_above_32 : decode cX4_above 32 = .ok (.getfield 40, 3) := by decide +kernel
theorem dX4_above_35 : decode cX4_above 35 = .ok (.invokevirtual 58, 3) := by decide +kernel
theorem dX4_above_38 : decode cX4_above 38 = .ok (.aload_n 0, 1) := by decide +kernel
theorem dX4_above_39 : decode cX4_above 39 = .ok (.getfield 43, 3) := by decide +kernel
theorem dX4_above_42 : decode cX4_above 42 = .ok (.aload_n 0, 1) := by decide +kernel
theorem dX4_above_43 : decode cX4_above 43 = .ok (.getfield 43, 3) := by decide +kernel
theorem dX4_above_46 : decode cX4_above 46 = .ok (.aload_n 0, 1) := by decide +kernel
theorem dX4_above_47 : decode cX4_above 47 = .ok (.getfield 37, 3) := by decide +kernel
theorem dX4_above_50 : decode cX4_above 50 = .ok (.invokevirtual 61, 3) := by decide +kernel
theorem dX4_above_53 : decode cX4_above 53 = .ok (.iinc 2 1, 3) := by decide +kernel
theorem dX4_above_56 : decode cX4_above 56 = .ok (.goto (-50), 3) := by decide +kernel
theorem dX4_above_59 : decode cX4_above 59 = .ok (.return_, 1) := by decide +kernel
theorem dX4_loudness_0 : decode cX4_loudness 0 = .ok (.aload_n 0, 1) := by decide +kernel
theorem dX4_loudness_1 : decode cX4_loudness 1 = .ok (.invokevirtual 68, 3) := by decide +kernel
theorem dX4_loudness_4 : decode cX4_loudness 4 = .ok (.iconst 0, 1) := by decide +kernel
theorem dX4_loudness_5 : decode cX4_loudness 5 = .ok (.istore_n 2, 1) := by decide +kernel
theorem dX4_loudness_6 : decode cX4_loudness 6 = .ok (.iload_n 2, 1) := by decide +kernel
theorem dX4_loudness_7 : decode cX4_loudness 7 = .ok (.iload_n 1, 1) := by decide +kernel
theorem dX4_loudness_8 : decode cX4_loudness 8 = .ok (.if_icmp .ge 44, 3) := by decide +kernel
theorem dX4_loudness_11 : decode cX4_loudness 11 = .ok (.aload_n 0, 1) := by decide +kernel
theorem dX4_loudness_12 : decode cX4_loudness 12 = .ok (.iload_n 2, 1) := by decide +kernel
theorem dX4_loudness_13 : decode cX4_loudness 13 = .ok (.invokevirtual 71, 3) := by decide +kernel
theorem dX4_loudness_16 : decode cX4_loudness 16 = .ok (.aload_n 0, 1) := by decide +kernel
theorem dX4_loudness_17 : decode cX4_loudness 17 = .ok (.getfield 37, 3) := by decide +kernel
theorem dX4_loudness_20 : decode cX4_loudness 20 = .ok (.aload_n 0, 1) := by decide +kernel
theorem dX4_loudness_21 : decode cX4_loudness 21 = .ok (.getfield 34, 3) := by decide +kernel
theorem dX4_loudness_24 : decode cX4_loudness 24 = .ok (.aload_n 0, 1) := by decide +kernel
theorem dX4_loudness_25 : decode cX4_loudness 25 = .ok (.getfield 34, 3) := by decide +kernel
theorem dX4_loudness_28 : decode cX4_loudness 28 = .ok (.invokevirtual 58, 3) := by decide +kernel
theorem dX4_loudness_31 : decode cX4_loudness 31 = .ok (.aload_n 0, 1) := by decide +kernel
theorem dX4_loudness_32 : decode cX4_loudness 32 = .ok (.getfield 43, 3) := by decide +kernel
theorem dX4_loudness_35 : decode cX4_loudness 35 = .ok (.aload_n 0, 1) := by decide +kernel
theorem dX4_loudness_36 : decode cX4_loudness 36 = .ok (.getfield 43, 3) := by decide +kernel
theorem dX4_loudness_39 : decode cX4_loudness 39 = .ok (.aload_n 0, 1) := by decide +kernel
theorem dX4_loudness_40 : decode cX4_loudness 40 = .ok (.getfield 37, 3) := by decide +kernel
theorem dX4_loudness_43 : decode cX4_loudness 43 = .ok (.invokevirtual 61, 3) := by decide +kernel
theorem dX4_loudness_46 : decode cX4_loudness 46 = .ok (.iinc 2 1, 3) := by decide +kernel
theorem dX4_loudness_49 : decode cX4_loudness 49 = .ok (.goto (-43), 3) := by decide +kernel
theorem dX4_loudness_52 : decode cX4_loudness 52 = .ok (.return_, 1) := by decide +kernel
theorem dX5_init_0 : decode cX5_init 0 = .ok (.aload_n 0, 1) := by decide +kernel
theorem dX5_init_1 : decode cX5_init 1 = .ok (.invokespecial 3, 3) := by decide +kernel
theorem dX5_init_4 : decode cX5_init 4 = .ok (.aload_n 0, 1) := by decide +kernel
theorem dX5_init_5 : decode cX5_init 5 = .ok (.sipush 320, 3) := by decide +kernel
theorem dX5_init_8 : decode cX5_init 8 = .ok (.newarray .int, 2) := by decide +kernel
theorem dX5_init_10 : decode cX5_init 10 = .ok (.putfield 9, 3) := by decide +kernel
theorem dX5_init_13 : decode cX5_init 13 = .ok (.aload_n 0, 1) := by decide +kernel
theorem dX5_init_14 : decode cX5_init 14 = .ok (.sipush 320, 3) := by decide +kernel
theorem dX5_init_17 : decode cX5_init 17 = .ok (.newarray .int, 2) := by decide +kernel
theorem dX5_init_19 : decode cX5_init 19 = .ok (.putfield 15, 3) := by decide +kernel
theorem dX5_init_22 : decode cX5_init 22 = .ok (.return_, 1) := by decide +kernel
theorem dX5_note_0 : decode cX5_note 0 = .ok (.iconst 0, 1) := by decide +kernel
theorem dX5_note_1 : decode cX5_note 1 = .ok (.aload_n 1, 1) := by decide +kernel
theorem dX5_note_2 : decode cX5_note 2 = .ok (.getfield 18, 3) := by decide +kernel
theorem dX5_note_5 : decode cX5_note 5 = .ok (.iconst 1, 1) := by decide +kernel
theorem dX5_note_6 : decode cX5_note 6 = .ok (.isub, 1) := by decide +kernel
theorem dX5_note_7 : decode cX5_note 7 = .ok (.invokestatic 24, 3) := by decide +kernel
theorem dX5_note_10 : decode cX5_note 10 = .ok (.bipush 40, 2) := by decide +kernel
theorem dX5_note_12 : decode cX5_note 12 = .ok (.irem, 1) := by decide +kernel
theorem dX5_note_13 : decode cX5_note 13 = .ok (.istore_n 3, 1) := by decide +kernel
theorem dX5_note_14 : decode cX5_note 14 = .ok (.iconst 0, 1) := by decide +kernel
theorem dX5_note_15 : decode cX5_note 15 = .ok (.istore 4, 2) := by decide +kernel
theorem dX5_note_17 : decode cX5_note 17 = .ok (.iload 4, 2) := by decide +kernel
theorem dX5_note_19 : decode cX5_note 19 = .ok (.iload_n 2, 1) := by decide +kernel
theorem dX5_note_20 : decode cX5_note 20 = .ok (.if_icmp .ge 53, 3) := by decide +kernel
theorem dX5_note_23 : decode cX5_note 23 = .ok (.aload_n 0, 1) := by decide +kernel
theorem dX5_note_24 : decode cX5_note 24 = .ok (.getfield 9, 3) := by decide +kernel
theorem dX5_note_27 : decode cX5_note 27 = .ok (.iload 4, 2) := by decide +kernel
theorem dX5_note_29 : decode cX5_note 29 = .ok (.bipush 40, 2) := by decide +kernel
theorem dX5_note_31 : decode cX5_note 31 = .ok (.imul, 1) := by decide +kernel
theorem dX5_note_32 : decode cX5_note 32 = .ok (.iload_n 3, 1) := by decide +kernel
theorem dX5_note_33 : decode cX5_note 33 = .ok (.iadd, 1) := by decide +kernel
theorem dX5_note_34 : decode cX5_note 34 = .ok (.aload_n 1, 1) := by decide +kernel
theorem dX5_note_35 : decode cX5_note 35 = .ok (.aload_n 1, 1) := by decide +kernel
theorem dX5_note_36 : decode cX5_note 36 = .ok (.getfield 30, 3) := by decide +kernel
theorem dX5_note_39 : decode cX5_note 39 = .ok (.iload 4, 2) := by decide +kernel
theorem dX5_note_41 : decode cX5_note 41 = .ok (.invokevirtual 31, 3) := by decide +kernel
theorem dX5_note_44 : decode cX5_note 44 = .ok (.iastore, 1) := by decide +kernel
theorem dX5_note_45 : decode cX5_note 45 = .ok (.aload_n 0, 1) := by decide +kernel
theorem dX5_note_46 : decode cX5_note 46 = .ok (.getfield 15, 3) := by decide +kernel
theorem dX5_note_49 : decode cX5_note 49 = .ok (.iload 4, 2) := by decide +kernel
theorem dX5_note_51 : decode cX5_note 51 = .ok (.bipush 40, 2) := by decide +kernel
theorem dX5_note_53 : decode cX5_note 53 = .ok (.imul, 1) := by decide +kernel
theorem dX5_note_54 : decode cX5_note 54 = .ok (.iload_n 3, 1) := by decide +kernel
theorem dX5_note_55 : decode cX5_note 55 = .ok (.iadd, 1) := by decide +kernel
theorem dX5_note_56 : decode cX5_note 56 = .ok (.aload_n 1, 1) := by decide +kernel
theorem dX5_note_57 : decode cX5_note 57 = .ok (.aload_n 1, 1) := by decide +kernel
theorem dX5_note_58 : decode cX5_note 58 = .ok (.getfield 35, 3) := by decide +kernel
theorem dX5_note_61 : decode cX5_note 61 = .ok (.iload 4, 2) := by decide +kernel
theorem dX5_note_63 : decode cX5_note 63 = .ok (.invokevirtual 31, 3) := by decide +kernel
theorem dX5_note_66 : decode cX5_note 66 = .ok (.iastore, 1) := by decide +kernel
theorem dX5_note_67 : decode cX5_note 67 = .ok (.iinc 4 1, 3) := by decide +kernel
theorem dX5_note_70 : decode cX5_note 70 = .ok (.goto (-53), 3) := by decide +kernel
theorem dX5_note_73 : decode cX5_note 73 = .ok (.return_, 1) := by decide +kernel
theorem dX5_spread_0 : decode cX5_spread 0 = .ok (.iload_n 2, 1) := by decide +kernel
theorem dX5_spread_1 : decode cX5_spread 1 = .ok (.ifCond .ne 10, 3) := by decide +kernel
theorem dX5_spread_4 : decode cX5_spread 4 = .ok (.aload_n 0, 1) := by decide +kernel
theorem dX5_spread_5 : decode cX5_spread 5 = .ok (.getfield 9, 3) := by decide +kernel
theorem dX5_spread_8 : decode cX5_spread 8 = .ok (.goto 7, 3) := by decide +kernel
theorem dX5_spread_11 : decode cX5_spread 11 = .ok (.aload_n 0, 1) := by decide +kernel
theorem dX5_spread_12 : decode cX5_spread 12 = .ok (.getfield 15, 3) := by decide +kernel
theorem dX5_spread_15 : decode cX5_spread 15 = .ok (.astore 5, 2) := by decide +kernel
theorem dX5_spread_17 : decode cX5_spread 17 = .ok (.lconst 0, 1) := by decide +kernel
theorem dX5_spread_18 : decode cX5_spread 18 = .ok (.lstore 6, 2) := by decide +kernel
theorem dX5_spread_20 : decode cX5_spread 20 = .ok (.lconst 0, 1) := by decide +kernel
theorem dX5_spread_21 : decode cX5_spread 21 = .ok (.lstore 8, 2) := by decide +kernel
theorem dX5_spread_23 : decode cX5_spread 23 = .ok (.iconst 0, 1) := by decide +kernel
theorem dX5_spread_24 : decode cX5_spread 24 = .ok (.iload 4, 2) := by decide +kernel
theorem dX5_spread_26 : decode cX5_spread 26 = .ok (.iload_n 3, 1) := by decide +kernel
theorem dX5_spread_27 : decode cX5_spread 27 = .ok (.isub, 1) := by decide +kernel
theorem dX5_spread_28 : decode cX5_spread 28 = .ok (.invokestatic 24, 3) := by decide +kernel
theorem dX5_spread_31 : decode cX5_spread 31 = .ok (.istore 10, 2) := by decide +kernel
theorem dX5_spread_33 : decode cX5_spread 33 = .ok (.iload 10, 2) := by decide +kernel
theorem dX5_spread_35 : decode cX5_spread 35 = .ok (.iload 4, 2) := by decide +kernel
theorem dX5_spread_37 : decode cX5_spread 37 = .ok (.if_icmp .ge 42, 3) := by decide +kernel
theorem dX5_spread_40 : decode cX5_spread 40 = .ok (.aload 5, 2) := by decide +kernel
theorem dX5_spread_42 : decode cX5_spread 42 = .ok (.iload_n 1, 1) := by decide +kernel
theorem dX5_spread_43 : decode cX5_spread 43 = .ok (.bipush 40, 2) := by decide +kernel
theorem dX5_spread_45 : decode cX5_spread 45 = .ok (.imul, 1) := by decide +kernel
theorem dX5_spread_46 : decode cX5_spread 46 = .ok (.iload 10, 2) := by decide +kernel
theorem dX5_spread_48 : decode cX5_spread 48 = .ok (.bipush 40, 2) := by decide +kernel
theorem dX5_spread_50 : decode cX5_spread 50 = .ok (.irem, 1) := by decide +kernel
theorem dX5_spread_51 : decode cX5_spread 51 = .ok (.iadd, 1) := by decide +kernel
theorem dX5_spread_52 : decode cX5_spread 52 = .ok (.iaload, 1) := by decide +kernel
theorem dX5_spread_53 : decode cX5_spread 53 = .ok (.i2l, 1) := by decide +kernel
theorem dX5_spread_54 : decode cX5_spread 54 = .ok (.lstore 11, 2) := by decide +kernel
theorem dX5_spread_56 : decode cX5_spread 56 = .ok (.lload 6, 2) := by decide +kernel
theorem dX5_spread_58 : decode cX5_spread 58 = .ok (.lload 11, 2) := by decide +kernel
theorem dX5_spread_60 : decode cX5_spread 60 = .ok (.ladd, 1) := by decide +kernel
theorem dX5_spread_61 : decode cX5_spread 61 = .ok (.lstore 6, 2) := by decide +kernel
theorem dX5_spread_63 : decode cX5_spread 63 = .ok (.lload 8, 2) := by decide +kernel
theorem dX5_spread_65 : decode cX5_spread 65 = .ok (.lload 11, 2) := by decide +kernel
theorem dX5_spread_67 : decode cX5_spread 67 = .ok (.lload 11, 2) := by decide +kernel
theorem dX5_spread_69 : decode cX5_spread 69 = .ok (.lmul, 1) := by decide +kernel
theorem dX5_spread_70 : decode cX5_spread 70 = .ok (.ladd, 1) := by decide +kernel
theorem dX5_spread_71 : decode cX5_spread 71 = .ok (.lstore 8, 2) := by decide +kernel
theorem dX5_spread_73 : decode cX5_spread 73 = .ok (.iinc 10 1, 3) := by decide +kernel
theorem dX5_spread_76 : decode cX5_spread 76 = .ok (.goto (-43), 3) := by decide +kernel
theorem dX5_spread_79 : decode cX5_spread 79 = .ok (.iload_n 3, 1) := by decide +kernel
theorem dX5_spread_80 : decode cX5_spread 80 = .ok (.i2l, 1) := by decide +kernel
theorem dX5_spread_81 : decode cX5_spread 81 = .ok (.lload 8, 2) := by decide +kernel
theorem dX5_spread_83 : decode cX5_spread 83 = .ok (.lmul, 1) := by decide +kernel
theorem dX5_spread_84 : decode cX5_spread 84 = .ok (.lload 6, 2) := by decide +kernel
theorem dX5_spread_86 : decode cX5_spread 86 = .ok (.lload 6, 2) := by decide +kernel
theorem dX5_spread_88 : decode cX5_spread 88 = .ok (.lmul, 1) := by decide +kernel
theorem dX5_spread_89 : decode cX5_spread 89 = .ok (.lsub, 1) := by decide +kernel
theorem dX5_spread_90 : decode cX5_spread 90 = .ok (.lreturn, 1) := by decide +kernel
theorem dX6_init_0 : decode cX6_init 0 = .ok (.aload_n 0, 1) := by decide +kernel
theorem dX6_init_1 : decode cX6_init 1 = .ok (.invokespecial 3, 3) := by decide +kernel
theorem dX6_init_4 : decode cX6_init 4 = .ok (.aload_n 0, 1) := by decide +kernel
theorem dX6_init_5 : decode cX6_init 5 = .ok (.bipush 8, 2) := by decide +kernel
theorem dX6_init_7 : decode cX6_init 7 = .ok (.newarray .int, 2) := by decide +kernel
theorem dX6_init_9 : decode cX6_init 9 = .ok (.putfield 9, 3) := by decide +kernel
theorem dX6_init_12 : decode cX6_init 12 = .ok (.aload_n 0, 1) := by decide +kernel
theorem dX6_init_13 : decode cX6_init 13 = .ok (.bipush 8, 2) := by decide +kernel
theorem dX6_init_15 : decode cX6_init 15 = .ok (.newarray .int, 2) := by decide +kernel
theorem dX6_init_17 : decode cX6_init 17 = .ok (.putfield 15, 3) := by decide +kernel
theorem dX6_init_20 : decode cX6_init 20 = .ok (.aload_n 0, 1) := by decide +kernel
theorem dX6_init_21 : decode cX6_init 21 = .ok (.bipush 8, 2) := by decide +kernel
theorem dX6_init_23 : decode cX6_init 23 = .ok (.newarray .int, 2) := by decide +kernel
theorem dX6_init_25 : decode cX6_init 25 = .ok (.putfield 18, 3) := by decide +kernel
theorem dX6_init_28 : decode cX6_init 28 = .ok (.aload_n 0, 1) := by decide +kernel
theorem dX6_init_29 : decode cX6_init 29 = .ok (.bipush 8, 2) := by decide +kernel
theorem dX6_init_31 : decode cX6_init 31 = .ok (.newarray .int, 2) := by decide +kernel
theorem dX6_init_33 : decode cX6_init 33 = .ok (.putfield 21, 3) := by decide +kernel
theorem dX6_init_36 : decode cX6_init 36 = .ok (.aload_n 0, 1) := by decide +kernel
theorem dX6_init_37 : decode cX6_init 37 = .ok (.bipush 8, 2) := by decide +kernel
theorem dX6_init_39 : decode cX6_init 39 = .ok (.newarray .int, 2) := by decide +kernel
theorem dX6_init_41 : decode cX6_init 41 = .ok (.putfield 24, 3) := by decide +kernel
theorem dX6_init_44 : decode cX6_init 44 = .ok (.aload_n 0, 1) := by decide +kernel
theorem dX6_init_45 : decode cX6_init 45 = .ok (.bipush 8, 2) := by decide +kernel
theorem dX6_init_47 : decode cX6_init 47 = .ok (.newarray .int, 2) := by decide +kernel
theorem dX6_init_49 : decode cX6_init 49 = .ok (.putfield 27, 3) := by decide +kernel
theorem dX6_init_52 : decode cX6_init 52 = .ok (.aload_n 0, 1) := by decide +kernel
theorem dX6_init_53 : decode cX6_init 53 = .ok (.bipush 8, 2) := by decide +kernel
theorem dX6_init_55 : decode cX6_init 55 = .ok (.newarray .int, 2) := by decide +kernel
theorem dX6_init_57 : decode cX6_init 57 = .ok (.putfield 30, 3) := by decide +kernel
theorem dX6_init_60 : decode cX6_init 60 = .ok (.aload_n 0, 1) := by decide +kernel
theorem dX6_init_61 : decode cX6_init 61 = .ok (.bipush 8, 2) := by decide +kernel
theorem dX6_init_63 : decode cX6_init 63 = .ok (.newarray .int, 2) := by decide +kernel
theorem dX6_init_65 : decode cX6_init 65 = .ok (.putfield 33, 3) := by decide +kernel
theorem dX6_init_68 : decode cX6_init 68 = .ok (.aload_n 0, 1) := by decide +kernel
theorem dX6_init_69 : decode cX6_init 69 = .ok (.bipush 8, 2) := by decide +kernel
theorem dX6_init_71 : decode cX6_init 71 = .ok (.newarray .int, 2) := by decide +kernel
theorem dX6_init_73 : decode cX6_init 73 = .ok (.putfield 36, 3) := by decide +kernel
theorem dX6_init_76 : decode cX6_init 76 = .ok (.return_, 1) := by decide +kernel
theorem dX6_has_0 : decode cX6_has 0 = .ok (.iload_n 1, 1) := by decide +kernel
theorem dX6_has_1 : decode cX6_has 1 = .ok (.ifCond .lt 15, 3) := by decide +kernel
theorem dX6_has_4 : decode cX6_has 4 = .ok (.iload_n 1, 1) := by decide +kernel
theorem dX6_has_5 : decode cX6_has 5 = .ok (.aload_n 0, 1) := by decide +kernel
theorem dX6_has_6 : decode cX6_has 6 = .ok (.getfield 39, 3) := by decide +kernel
theorem dX6_has_9 : decode cX6_has 9 = .ok (.if_icmp .ge 7, 3) := by decide +kernel
theorem dX6_has_12 : decode cX6_has 12 = .ok (.iconst 1, 1) := by decide +kernel
theorem dX6_has_13 : decode cX6_has 13 = .ok (.goto 4, 3) := by decide +kernel
theorem dX6_has_16 : decode cX6_has 16 = .ok (.iconst 0, 1) := by decide +kernel
theorem dX6_has_17 : decode cX6_has 17 = .ok (.ireturn, 1) := by decide +kernel
theorem dX6_isShop_0 : decode cX6_isShop 0 = .ok (.aload_n 0, 1) := by decide +kernel
theorem dX6_isShop_1 : decode cX6_isShop 1 = .ok (.iload_n 1, 1) := by decide +kernel
theorem dX6_isShop_2 : decode cX6_isShop 2 = .ok (.invokevirtual 43, 3) := by decide +kernel
theorem dX6_isShop_5 : decode cX6_isShop 5 = .ok (.ifCond .eq 17, 3) := by decide +kernel
theorem dX6_isShop_8 : decode cX6_isShop 8 = .ok (.aload_n 0, 1) := by decide +kernel
theorem dX6_isShop_9 : decode cX6_isShop 9 = .ok (.getfield 9, 3) := by decide +kernel
theorem dX6_isShop_12 : decode cX6_isShop 12 = .ok (.iload_n 1, 1) := by decide +kernel
theorem dX6_isShop_13 : decode cX6_isShop 13 = .ok (.iaload, 1) := by decide +kernel
theorem dX6_isShop_14 : decode cX6_isShop 14 = .ok (.iconst 3, 1) := by decide +kernel
theorem dX6_isShop_15 : decode cX6_isShop 15 = .ok (.if_icmp .ne 7, 3) := by decide +kernel
theorem dX6_isShop_18 : decode cX6_isShop 18 = .ok (.iconst 1, 1) := by decide +kernel
theorem dX6_isShop_19 : decode cX6_isShop 19 = .ok (.goto 4, 3) := by decide +kernel
theorem dX6_isShop_22 : decode cX6_isShop 22 = .ok (.iconst 0, 1) := by decide +kernel
theorem dX6_isShop_23 : decode cX6_isShop 23 = .ok (.ireturn, 1) := by decide +kernel
theorem dX6_settings_0 : decode cX6_settings 0 = .ok (.iload_n 1, 1) := by decide +kernel
theorem dX6_settings_1 : decode cX6_settings 1 = .ok (.tableswitch 42 0 2 #[27, 32, 37], 27) := by decide +kernel
theorem dX6_settings_28 : decode cX6_settings 28 = .ok (.aload_n 0, 1) := by decide +kernel
theorem dX6_settings_29 : decode cX6_settings 29 = .ok (.getfield 24, 3) := by decide +kernel
theorem dX6_settings_32 : decode cX6_settings 32 = .ok (.areturn, 1) := by decide +kernel
theorem dX6_settings_33 : decode cX6_settings 33 = .ok (.aload_n 0, 1) := by decide +kernel
theorem dX6_settings_34 : decode cX6_settings 34 = .ok (.getfield 27, 3) := by decide +kernel
theorem dX6_settings_37 : decode cX6_settings 37 = .ok (.areturn, 1) := by decide +kernel
theorem dX6_settings_38 : decode cX6_settings 38 = .ok (.aload_n 0, 1) := by decide +kernel
theorem dX6_settings_39 : decode cX6_settings 39 = .ok (.getfield 30, 3) := by decide +kernel
theorem dX6_settings_42 : decode cX6_settings 42 = .ok (.areturn, 1) := by decide +kernel
theorem dX6_settings_43 : decode cX6_settings 43 = .ok (.aload_n 0, 1) := by decide +kernel
theorem dX6_settings_44 : decode cX6_settings 44 = .ok (.getfield 33, 3) := by decide +kernel
theorem dX6_settings_47 : decode cX6_settings 47 = .ok (.areturn, 1) := by decide +kernel
theorem dX6_enlarge_0 : decode cX6_enlarge 0 = .ok (.aload_n 0, 1) := by decide +kernel
theorem dX6_enlarge_1 : decode cX6_enlarge 1 = .ok (.getfield 39, 3) := by decide +kernel
theorem dX6_enlarge_4 : decode cX6_enlarge 4 = .ok (.istore 6, 2) := by decide +kernel
theorem dX6_enlarge_6 : decode cX6_enlarge 6 = .ok (.iload 6, 2) := by decide +kernel
theorem dX6_enlarge_8 : decode cX6_enlarge 8 = .ok (.bipush 8, 2) := by decide +kernel
theorem dX6_enlarge_10 : decode cX6_enlarge 10 = .ok (.if_icmp .lt 4, 3) := by decide +kernel
theorem dX6_enlarge_13 : decode cX6_enlarge 13 = .ok (.return_, 1) := by decide +kernel
theorem dX6_enlarge_14 : decode cX6_enlarge 14 = .ok (.aload_n 0, 1) := by decide +kernel
theorem dX6_enlarge_15 : decode cX6_enlarge 15 = .ok (.getfield 9, 3) := by decide +kernel
theorem dX6_enlarge_18 : decode cX6_enlarge 18 = .ok (.iload 6, 2) := by decide +kernel
theorem dX6_enlarge_20 : decode cX6_enlarge 20 = .ok (.iload_n 1, 1) := by decide +kernel
theorem dX6_enlarge_21 : decode cX6_enlarge 21 = .ok (.iastore, 1) := by decide +kernel
theorem dX6_enlarge_22 : decode cX6_enlarge 22 = .ok (.aload_n 0, 1) := by decide +kernel
theorem dX6_enlarge_23 : decode cX6_enlarge 23 = .ok (.getfield 15, 3) := by decide +kernel
theorem dX6_enlarge_26 : decode cX6_enlarge 26 = .ok (.iload 6, 2) := by decide +kernel
theorem dX6_enlarge_28 : decode cX6_enlarge 28 = .ok (.iload_n 2, 1) := by decide +kernel
theorem dX6_enlarge_29 : decode cX6_enlarge 29 = .ok (.iastore, 1) := by decide +kernel
theorem dX6_enlarge_30 : decode cX6_enlarge 30 = .ok (.aload_n 0, 1) := by decide +kernel
theorem dX6_enlarge_31 : decode cX6_enlarge 31 = .ok (.getfield 18, 3) := by decide +kernel
theorem dX6_enlarge_34 : decode cX6_enlarge 34 = .ok (.iload 6, 2) := by decide +kernel
theorem dX6_enlarge_36 : decode cX6_enlarge 36 = .ok (.iload_n 3, 1) := by decide +kernel
theorem dX6_enlarge_37 : decode cX6_enlarge 37 = .ok (.iastore, 1) := by decide +kernel
theorem dX6_enlarge_38 : decode cX6_enlarge 38 = .ok (.aload_n 0, 1) := by decide +kernel
theorem dX6_enlarge_39 : decode cX6_enlarge 39 = .ok (.getfield 21, 3) := by decide +kernel
theorem dX6_enlarge_42 : decode cX6_enlarge 42 = .ok (.iload 6, 2) := by decide +kernel
theorem dX6_enlarge_44 : decode cX6_enlarge 44 = .ok (.iload 4, 2) := by decide +kernel
theorem dX6_enlarge_46 : decode cX6_enlarge 46 = .ok (.iastore, 1) := by decide +kernel
theorem dX6_enlarge_47 : decode cX6_enlarge 47 = .ok (.aload_n 0, 1) := by decide +kernel
theorem dX6_enlarge_48 : decode cX6_enlarge 48 = .ok (.getfield 24, 3) := by decide +kernel
theorem dX6_enlarge_51 : decode cX6_enlarge 51 = .ok (.iload 6, 2) := by decide +kernel
theorem dX6_enlarge_53 : decode cX6_enlarge 53 = .ok (.iconst 1, 1) := by decide +kernel
theorem dX6_enlarge_54 : decode cX6_enlarge 54 = .ok (.iastore, 1) := by decide +kernel
theorem dX6_enlarge_55 : decode cX6_enlarge 55 = .ok (.aload_n 0, 1) := by decide +kernel
theorem dX6_enlarge_56 : decode cX6_enlarge 56 = .ok (.getfield 27, 3) := by decide +kernel
theorem dX6_enlarge_59 : decode cX6_enlarge 59 = .ok (.iload 6, 2) := by decide +kernel
theorem dX6_enlarge_61 : decode cX6_enlarge 61 = .ok (.sipush 9999, 3) := by decide +kernel
theorem dX6_enlarge_64 : decode cX6_enlarge 64 = .ok (.iastore, 1) := by decide +kernel
theorem dX6_enlarge_65 : decode cX6_enlarge 65 = .ok (.aload_n 0, 1) := by decide +kernel
theorem dX6_enlarge_66 : decode cX6_enlarge 66 = .ok (.getfield 30, 3) := by decide +kernel
theorem dX6_enlarge_69 : decode cX6_enlarge 69 = .ok (.iload 6, 2) := by decide +kernel
theorem dX6_enlarge_71 : decode cX6_enlarge 71 = .ok (.iconst 1, 1) := by decide +kernel
theorem dX6_enlarge_72 : decode cX6_enlarge 72 = .ok (.iastore, 1) := by decide +kernel
theorem dX6_enlarge_73 : decode cX6_enlarge 73 = .ok (.aload_n 0, 1) := by decide +kernel
theorem dX6_enlarge_74 : decode cX6_enlarge 74 = .ok (.getfield 33, 3) := by decide +kernel
theorem dX6_enlarge_77 : decode cX6_enlarge 77 = .ok (.iload 6, 2) := by decide +kernel
theorem dX6_enlarge_79 : decode cX6_enlarge 79 = .ok (.iconst 1, 1) := by decide +kernel
theorem dX6_enlarge_80 : decode cX6_enlarge 80 = .ok (.iastore, 1) := by decide +kernel
theorem dX6_enlarge_81 : decode cX6_enlarge 81 = .ok (.aload_n 0, 1) := by decide +kernel
theorem dX6_enlarge_82 : decode cX6_enlarge 82 = .ok (.getfield 36, 3) := by decide +kernel
theorem dX6_enlarge_85 : decode cX6_enlarge 85 = .ok (.iload 6, 2) := by decide +kernel
theorem dX6_enlarge_87 : decode cX6_enlarge 87 = .ok (.iconst (-1), 1) := by decide +kernel
theorem dX6_enlarge_88 : decode cX6_enlarge 88 = .ok (.iastore, 1) := by decide +kernel
theorem dX6_enlarge_89 : decode cX6_enlarge 89 = .ok (.aload_n 0, 1) := by decide +kernel
theorem dX6_enlarge_90 : decode cX6_enlarge 90 = .ok (.dup, 1) := by decide +kernel
theorem dX6_enlarge_91 : decode cX6_enlarge 91 = .ok (.getfield 47, 3) := by decide +kernel
theorem dX6_enlarge_94 : decode cX6_enlarge 94 = .ok (.iload 5, 2) := by decide +kernel
theorem dX6_enlarge_96 : decode cX6_enlarge 96 = .ok (.i2l, 1) := by decide +kernel
theorem dX6_enlarge_97 : decode cX6_enlarge 97 = .ok (.ladd, 1) := by decide +kernel
theorem dX6_enlarge_98 : decode cX6_enlarge 98 = .ok (.putfield 47, 3) := by decide +kernel
theorem dX6_enlarge_101 : decode cX6_enlarge 101 = .ok (.aload_n 0, 1) := by decide +kernel
theorem dX6_enlarge_102 : decode cX6_enlarge 102 = .ok (.dup, 1) := by decide +kernel
theorem dX6_enlarge_103 : decode cX6_enlarge 103 = .ok (.getfield 51, 3) := by decide +kernel
theorem dX6_enlarge_106 : decode cX6_enlarge 106 = .ok (.iload_n 1, 1) := by decide +kernel
theorem dX6_enlarge_107 : decode cX6_enlarge 107 = .ok (.iconst 3, 1) := by decide +kernel
theorem dX6_enlarge_108 : decode cX6_enlarge 108 = .ok (.if_icmp .ne 7, 3) := by decide +kernel
theorem dX6_enlarge_111 : decode cX6_enlarge 111 = .ok (.iconst 1, 1) := by decide +kernel
theorem dX6_enlarge_112 : decode cX6_enlarge 112 = .ok (.goto 4, 3) := by decide +kernel
theorem dX6_enlarge_115 : decode cX6_enlarge 115 = .ok (.iconst 0, 1) := by decide +kernel
theorem dX6_enlarge_116 : decode cX6_enlarge 116 = .ok (.iadd, 1) := by decide +kernel
theorem dX6_enlarge_117 : decode cX6_enlarge 117 = .ok (.putfield 51, 3) := by decide +kernel
theorem dX6_enlarge_120 : decode cX6_enlarge 120 = .ok (.aload_n 0, 1) := by decide +kernel
theorem dX6_enlarge_121 : decode cX6_enlarge 121 = .ok (.dup, 1) := by decide +kernel
theorem dX6_enlarge_122 : decode cX6_enlarge 122 = .ok (.getfield 39, 3) := by decide +kernel
theorem dX6_enlarge_125 : decode cX6_enlarge 125 = .ok (.iconst 1, 1) := by decide +kernel
theorem dX6_enlarge_126 : decode cX6_enlarge 126 = .ok (.iadd, 1) := by decide +kernel
theorem dX6_enlarge_127 : decode cX6_enlarge 127 = .ok (.putfield 39, 3) := by decide +kernel
theorem dX6_enlarge_130 : decode cX6_enlarge 130 = .ok (.return_, 1) := by decide +kernel
theorem dX7_init_0 : decode cX7_init 0 = .ok (.aload_n 0, 1) := by decide +kernel
theorem dX7_init_1 : decode cX7_init 1 = .ok (.invokespecial 3, 3) := by decide +kernel
theorem dX7_init_4 : decode cX7_init 4 = .ok (.aload_n 0, 1) := by decide +kernel
theorem dX7_init_5 : decode cX7_init 5 = .ok (.sipush 1440, 3) := by decide +kernel
theorem dX7_init_8 : decode cX7_init 8 = .ok (.newarray .int, 2) := by decide +kernel
theorem dX7_init_10 : decode cX7_init 10 = .ok (.putfield 9, 3) := by decide +kernel
theorem dX7_init_13 : decode cX7_init 13 = .ok (.aload_n 0, 1) := by decide +kernel
theorem dX7_init_14 : decode cX7_init 14 = .ok (.bipush 12, 2) := by decide +kernel
theorem dX7_init_16 : decode cX7_init 16 = .ok (.newarray .int, 2) := by decide +kernel
theorem dX7_init_18 : decode cX7_init 18 = .ok (.putfield 15, 3) := by decide +kernel
theorem dX7_init_21 : decode cX7_init 21 = .ok (.aload_n 0, 1) := by decide +kernel
theorem dX7_init_22 : decode cX7_init 22 = .ok (.bipush 32, 2) := by decide +kernel
theorem dX7_init_24 : decode cX7_init 24 = .ok (.newarray .long, 2) := by decide +kernel
theorem dX7_init_26 : decode cX7_init 26 = .ok (.putfield 18, 3) := by decide +kernel
theorem dX7_init_29 : decode cX7_init 29 = .ok (.return_, 1) := by decide +kernel
theorem dX7_has_0 : decode cX7_has 0 = .ok (.iload_n 1, 1) := by decide +kernel
theorem dX7_has_1 : decode cX7_has 1 = .ok (.ifCond .lt 15, 3) := by decide +kernel
theorem dX7_has_4 : decode cX7_has 4 = .ok (.iload_n 1, 1) := by decide +kernel
theorem dX7_has_5 : decode cX7_has 5 = .ok (.aload_n 0, 1) := by decide +kernel
theorem dX7_has_6 : decode cX7_has 6 = .ok (.getfield 22, 3) := by decide +kernel
theorem dX7_has_9 : decode cX7_has 9 = .ok (.if_icmp .ge 7, 3) := by decide +kernel
theorem dX7_has_12 : decode cX7_has 12 = .ok (.iconst 1, 1) := by decide +kernel
theorem dX7_has_13 : decode cX7_has 13 = .ok (.goto 4, 3) := by decide +kernel
theorem dX7_has_16 : decode cX7_has 16 = .ok (.iconst 0, 1) := by decide +kernel
theorem dX7_has_17 : decode cX7_has 17 = .ok (.ireturn, 1) := by decide +kernel
theorem dX7_keep_0 : decode cX7_keep 0 = .ok (.aload_n 0, 1) := by decide +kernel
theorem dX7_keep_1 : decode cX7_keep 1 = .ok (.getfield 22, 3) := by decide +kernel
theorem dX7_keep_4 : decode cX7_keep 4 = .ok (.istore_n 3, 1) := by decide +kernel
theorem dX7_keep_5 : decode cX7_keep 5 = .ok (.iload_n 3, 1) := by decide +kernel
theorem dX7_keep_6 : decode cX7_keep 6 = .ok (.bipush 12, 2) := by decide +kernel
theorem dX7_keep_8 : decode cX7_keep 8 = .ok (.if_icmp .lt 6, 3) := by decide +kernel
theorem dX7_keep_11 : decode cX7_keep 11 = .ok (.bipush (-4), 2) := by decide +kernel
theorem dX7_keep_13 : decode cX7_keep 13 = .ok (.ireturn, 1) := by decide +kernel
theorem dX7_keep_14 : decode cX7_keep 14 = .ok (.aload_n 1, 1) := by decide +kernel
theorem dX7_keep_15 : decode cX7_keep 15 = .ok (.iconst 0, 1) := by decide +kernel
theorem dX7_keep_16 : decode cX7_keep 16 = .ok (.aload_n 0, 1) := by decide +kernel
theorem dX7_keep_17 : decode cX7_keep 17 = .ok (.getfield 9, 3) := by decide +kernel
theorem dX7_keep_20 : decode cX7_keep 20 = .ok (.iload_n 3, 1) := by decide +kernel
theorem dX7_keep_21 : decode cX7_keep 21 = .ok (.bipush 120, 2) := by decide +kernel
theorem dX7_keep_23 : decode cX7_keep 23 = .ok (.imul, 1) := by decide +kernel
theorem dX7_keep_24 : decode cX7_keep 24 = .ok (.iload_n 2, 1) := by decide +kernel
theorem dX7_keep_25 : decode cX7_keep 25 = .ok (.invokestatic 26, 3) := by decide +kernel
theorem dX7_keep_28 : decode cX7_keep 28 = .ok (.aload_n 0, 1) := by decide +kernel
theorem dX7_keep_29 : decode cX7_keep 29 = .ok (.getfield 15, 3) := by decide +kernel
theorem dX7_keep_32 : decode cX7_keep 32 = .ok (.iload_n 3, 1) := by decide +kernel
theorem dX7_keep_33 : decode cX7_keep 33 = .ok (.iload_n 2, 1) := by decide +kernel
theorem dX7_keep_34 : decode cX7_keep 34 = .ok (.iastore, 1) := by decide +kernel
theorem dX7_keep_35 : decode cX7_keep 35 = .ok (.aload_n 0, 1) := by decide +kernel
theorem dX7_keep_36 : decode cX7_keep 36 = .ok (.dup, 1) := by decide +kernel
theorem dX7_keep_37 : decode cX7_keep 37 = .ok (.getfield 22, 3) := by decide +kernel
theorem dX7_keep_40 : decode cX7_keep 40 = .ok (.iconst 1, 1) := by decide +kernel
theorem dX7_keep_41 : decode cX7_keep 41 = .ok (.iadd, 1) := by decide +kernel
theorem dX7_keep_42 : decode cX7_keep 42 = .ok (.putfield 22, 3) := by decide +kernel
theorem dX7_keep_45 : decode cX7_keep 45 = .ok (.iload_n 3, 1) := by decide +kernel
theorem dX7_keep_46 : decode cX7_keep 46 = .ok (.ireturn, 1) := by decide +kernel
theorem dX7_valueOf_0 : decode cX7_valueOf 0 = .ok (.iconst 0, 1) := by decide +kernel
theorem dX7_valueOf_1 : decode cX7_valueOf 1 = .ok (.istore 4, 2) := by decide +kernel
theorem dX7_valueOf_3 : decode cX7_valueOf 3 = .ok (.iload_n 1, 1) := by decide +kernel
theorem dX7_valueOf_4 : decode cX7_valueOf 4 = .ok (.bipush 120, 2) := by decide +kernel
theorem dX7_valueOf_6 : decode cX7_valueOf 6 = .ok (.imul, 1) := by decide +kernel
theorem dX7_valueOf_7 : decode cX7_valueOf 7 = .ok (.istore 5, 2) := by decide +kernel
theorem dX7_valueOf_9 : decode cX7_valueOf 9 = .ok (.iload 5, 2) := by decide +kernel
theorem dX7_valueOf_11 : decode cX7_valueOf 11 = .ok (.istore 6, 2) := by decide +kernel
theorem dX7_valueOf_13 : decode cX7_valueOf 13 = .ok (.iload 6, 2) := by decide +kernel
theorem dX7_valueOf_15 : decode cX7_valueOf 15 = .ok (.iload 5, 2) := by decide +kernel
theorem dX7_valueOf_17 : decode cX7_valueOf 17 = .ok (.aload_n 0, 1) := by decide +kernel
theorem dX7_valueOf_18 : decode cX7_valueOf 18 = .ok (.getfield 15, 3) := by decide +kernel
theorem dX7_valueOf_21 : decode cX7_valueOf 21 = .ok (.iload_n 1, 1) := by decide +kernel
theorem dX7_valueOf_22 : decode cX7_valueOf 22 = .ok (.iaload, 1) := by decide +kernel
theorem dX7_valueOf_23 : decode cX7_valueOf 23 = .ok (.iadd, 1) := by decide +kernel
theorem dX7_valueOf_24 : decode cX7_valueOf 24 = .ok (.if_icmp .ge 110, 3) := by decide +kernel
theorem dX7_valueOf_27 : decode cX7_valueOf 27 = .ok (.aload_n 0, 1) := by decide +kernel
theorem dX7_valueOf_28 : decode cX7_valueOf 28 = .ok (.getfield 9, 3) := by decide +kernel
theorem dX7_valueOf_31 : decode cX7_valueOf 31 = .ok (.iload 6, 2) := by decide +kernel
theorem dX7_valueOf_33 : decode cX7_valueOf 33 = .ok (.iaload, 1) := by decide +kernel
theorem dX7_valueOf_34 : decode cX7_valueOf 34 = .ok (.istore 7, 2) := by decide +kernel
theorem dX7_valueOf_36 : decode cX7_valueOf 36 = .ok (.iload 7, 2) := by decide +kernel
theorem dX7_valueOf_38 : decode cX7_valueOf 38 = .ok (.bipush (-8), 2) := by decide +kernel
theorem dX7_valueOf_40 : decode cX7_valueOf 40 = .ok (.if_icmp .le 46, 3) := by decide +kernel
theorem dX7_valueOf_43 : decode cX7_valueOf 43 = .ok (.iload 4, 2) := by decide +kernel
theorem dX7_valueOf_45 : decode cX7_valueOf 45 = .ok (.aload_n 0, 1) := by decide +kernel
theorem dX7_valueOf_46 : decode cX7_valueOf 46 = .ok (.getfield 18, 3) := by decide +kernel
theorem dX7_valueOf_49 : decode cX7_valueOf 49 = .ok (.arraylength, 1) := by decide +kernel
theorem dX7_valueOf_50 : decode cX7_valueOf 50 = .ok (.if_icmp .ge 78, 3) := by decide +kernel
theorem dX7_valueOf_53 : decode cX7_valueOf 53 = .ok (.aload_n 0, 1) := by decide +kernel
theorem dX7_valueOf_54 : decode cX7_valueOf 54 = .ok (.getfield 18, 3) := by decide +kernel
theorem dX7_valueOf_57 : decode cX7_valueOf 57 = .ok (.iload 4, 2) := by decide +kernel
theorem dX7_valueOf_59 : decode cX7_valueOf 59 = .ok (.iload 7, 2) := by decide +kernel
theorem dX7_valueOf_61 : decode cX7_valueOf 61 = .ok (.ifCond .lt 9, 3) := by decide +kernel
theorem dX7_valueOf_64 : decode cX7_valueOf 64 = .ok (.iload 7, 2) := by decide +kernel
theorem dX7_valueOf_66 : decode cX7_valueOf 66 = .ok (.i2l, 1) := by decide +kernel
theorem dX7_valueOf_67 : decode cX7_valueOf 67 = .ok (.goto 12, 3) := by decide +kernel
theorem dX7_valueOf_70 : decode cX7_valueOf 70 = .ok (.aload_n 2, 1) := by decide +kernel
theorem dX7_valueOf_71 : decode cX7_valueOf 71 = .ok (.iconst (-1), 1) := by decide +kernel
theorem dX7_valueOf_72 : decode cX7_valueOf 72 = .ok (.iload 7, 2) := by decide +kernel
theorem dX7_valueOf_74 : decode cX7_valueOf 74 = .ok (.isub, 1) := by decide +kernel
theorem dX7_valueOf_75 : decode cX7_valueOf 75 = .ok (.iload_n 3, 1) := by decide +kernel
theorem dX7_valueOf_76 : decode cX7_valueOf 76 = .ok (.invokevirtual 32, 3) := by decide +kernel
theorem dX7_valueOf_79 : decode cX7_valueOf 79 = .ok (.lastore, 1) := by decide +kernel
theorem dX7_valueOf_80 : decode cX7_valueOf 80 = .ok (.iinc 4 1, 3) := by decide +kernel
theorem dX7_valueOf_83 : decode cX7_valueOf 83 = .ok (.goto 45, 3) := by decide +kernel
theorem dX7_valueOf_86 : decode cX7_valueOf 86 = .ok (.iload 4, 2) := by decide +kernel
theorem dX7_valueOf_88 : decode cX7_valueOf 88 = .ok (.iconst 1, 1) := by decide +kernel
theorem dX7_valueOf_89 : decode cX7_valueOf 89 = .ok (.if_icmp .le 39, 3) := by decide +kernel
theorem dX7_valueOf_92 : decode cX7_valueOf 92 = .ok (.iinc 4 (-1), 3) := by decide +kernel
theorem dX7_valueOf_95 : decode cX7_valueOf 95 = .ok (.aload_n 0, 1) := by decide +kernel
theorem dX7_valueOf_96 : decode cX7_valueOf 96 = .ok (.getfield 18, 3) := by decide +kernel
theorem dX7_valueOf_99 : decode cX7_valueOf 99 = .ok (.iload 4, 2) := by decide +kernel
theorem dX7_valueOf_101 : decode cX7_valueOf 101 = .ok (.iconst 1, 1) := by decide +kernel
theorem dX7_valueOf_102 : decode cX7_valueOf 102 = .ok (.isub, 1) := by decide +kernel
theorem dX7_valueOf_103 : decode cX7_valueOf 103 = .ok (.iload 7, 2) := by decide +kernel
theorem dX7_valueOf_105 : decode cX7_valueOf 105 = .ok (.aload_n 0, 1) := by decide +kernel
theorem dX7_valueOf_106 : decode cX7_valueOf 106 = .ok (.getfield 18, 3) := by decide +kernel
theorem dX7_valueOf_109 : decode cX7_valueOf 109 = .ok (.iload 4, 2) := by decide +kernel
theorem dX7_valueOf_111 : decode cX7_valueOf 111 = .ok (.iconst 1, 1) := by decide +kernel
theorem dX7_valueOf_112 : decode cX7_valueOf 112 = .ok (.isub, 1) := by decide +kernel
theorem dX7_valueOf_113 : decode cX7_valueOf 113 = .ok (.laload, 1) := by decide +kernel
theorem dX7_valueOf_114 : decode cX7_valueOf 114 = .ok (.aload_n 0, 1) := by decide +kernel
theorem dX7_valueOf_115 : decode cX7_valueOf 115 = .ok (.getfield 18, 3) := by decide +kernel
theorem dX7_valueOf_118 : decode cX7_valueOf 118 = .ok (.iload 4, 2) := by decide +kernel
theorem dX7_valueOf_120 : decode cX7_valueOf 120 = .ok (.laload, 1) := by decide +kernel
theorem dX7_valueOf_121 : decode cX7_valueOf 121 = .ok (.invokestatic 38, 3) := by decide +kernel
theorem dX7_valueOf_124 : decode cX7_valueOf 124 = .ok (.invokestatic 42, 3) := by decide +kernel
theorem dX7_valueOf_127 : decode cX7_valueOf 127 = .ok (.lastore, 1) := by decide +kernel
theorem dX7_valueOf_128 : decode cX7_valueOf 128 = .ok (.iinc 6 1, 3) := by decide +kernel
theorem dX7_valueOf_131 : decode cX7_valueOf 131 = .ok (.goto (-118), 3) := by decide +kernel
theorem dX7_valueOf_134 : decode cX7_valueOf 134 = .ok (.iload 4, 2) := by decide +kernel
theorem dX7_valueOf_136 : decode cX7_valueOf 136 = .ok (.ifCond .le 12, 3) := by decide +kernel
theorem dX7_valueOf_139 : decode cX7_valueOf 139 = .ok (.aload_n 0, 1) := by decide +kernel
theorem dX7_valueOf_140 : decode cX7_valueOf 140 = .ok (.getfield 18, 3) := by decide +kernel
theorem dX7_valueOf_143 : decode cX7_valueOf 143 = .ok (.iconst 0, 1) := by decide +kernel
theorem dX7_valueOf_144 : decode cX7_valueOf 144 = .ok (.laload, 1) := by decide +kernel
theorem dX7_valueOf_145 : decode cX7_valueOf 145 = .ok (.goto 4, 3) := by decide +kernel
theorem dX7_valueOf_148 : decode cX7_valueOf 148 = .ok (.lconst 0, 1) := by decide +kernel
theorem dX7_valueOf_149 : decode cX7_valueOf 149 = .ok (.lreturn, 1) := by decide +kernel
theorem dX7_apply_0 : decode cX7_apply 0 = .ok (.iload_n 0, 1) := by decide +kernel
theorem dX7_apply_1 : decode cX7_apply 1 = .ok (.tableswitch 67 (-12) (-8) #[61, 47, 43, 39, 35], 35) := by decide +kernel
theorem dX7_apply_36 : decode cX7_apply 36 = .ok (.lload_n 1, 1) := by decide +kernel
theorem dX7_apply_37 : decode cX7_apply 37 = .ok (.lload_n 3, 1) := by decide +kernel
theorem dX7_apply_38 : decode cX7_apply 38 = .ok (.ladd, 1) := by decide +kernel
theorem dX7_apply_39 : decode cX7_apply 39 = .ok (.lreturn, 1) := by decide +kernel
theorem dX7_apply_40 : decode cX7_apply 40 = .ok (.lload_n 1, 1) := by decide +kernel
theorem dX7_apply_41 : decode cX7_apply 41 = .ok (.lload_n 3, 1) := by decide +kernel
theorem dX7_apply_42 : decode cX7_apply 42 = .ok (.lsub, 1) := by decide +kernel
theorem dX7_apply_43 : decode cX7_apply 43 = .ok (.lreturn, 1) := by decide +kernel
theorem dX7_apply_44 : decode cX7_apply 44 = .ok (.lload_n 1, 1) := by decide +kernel
theorem dX7_apply_45 : decode cX7_apply 45 = .ok (.lload_n 3, 1) := by decide +kernel
theorem dX7_apply_46 : decode cX7_apply 46 = .ok (.lmul, 1) := by decide +kernel
theorem dX7_apply_47 : decode cX7_apply 47 = .ok (.lreturn, 1) := by decide +kernel
theorem dX7_apply_48 : decode cX7_apply 48 = .ok (.lload_n 3, 1) := by decide +kernel
theorem dX7_apply_49 : decode cX7_apply 49 = .ok (.lconst 0, 1) := by decide +kernel
theorem dX7_apply_50 : decode cX7_apply 50 = .ok (.lcmp, 1) := by decide +kernel
theorem dX7_apply_51 : decode cX7_apply 51 = .ok (.ifCond .ne 7, 3) := by decide +kernel
theorem dX7_apply_54 : decode cX7_apply 54 = .ok (.lconst 0, 1) := by decide +kernel
theorem dX7_apply_55 : decode cX7_apply 55 = .ok (.goto 6, 3) := by decide +kernel
theorem dX7_apply_58 : decode cX7_apply 58 = .ok (.lload_n 1, 1) := by decide +kernel
theorem dX7_apply_59 : decode cX7_apply 59 = .ok (.lload_n 3, 1) := by decide +kernel
theorem dX7_apply_60 : decode cX7_apply 60 = .ok (.ldiv, 1) := by decide +kernel
theorem dX7_apply_61 : decode cX7_apply 61 = .ok (.lreturn, 1) := by decide +kernel
theorem dX7_apply_62 : decode cX7_apply 62 = .ok (.lload_n 1, 1) := by decide +kernel
theorem dX7_apply_63 : decode cX7_apply 63 = .ok (.lload_n 3, 1) := by decide +kernel
theorem dX7_apply_64 : decode cX7_apply 64 = .ok (.invokestatic 46, 3) := by decide +kernel
theorem dX7_apply_67 : decode cX7_apply 67 = .ok (.lreturn, 1) := by decide +kernel
theorem dX7_apply_68 : decode cX7_apply 68 = .ok (.lload_n 1, 1) := by decide +kernel
theorem dX7_apply_69 : decode cX7_apply 69 = .ok (.lload_n 3, 1) := by decide +kernel
theorem dX7_apply_70 : decode cX7_apply 70 = .ok (.invokestatic 52, 3) := by decide +kernel
theorem dX7_apply_73 : decode cX7_apply 73 = .ok (.lreturn, 1) := by decide +kernel
theorem dX7_bound_0 : decode cX7_bound 0 = .ok (.ldc2_w 55, 3) := by decide +kernel
theorem dX7_bound_3 : decode cX7_bound 3 = .ok (.ldc2_w 57, 3) := by decide +kernel
theorem dX7_bound_6 : decode cX7_bound 6 = .ok (.lload_n 0, 1) := by decide +kernel
theorem dX7_bound_7 : decode cX7_bound 7 = .ok (.invokestatic 46, 3) := by decide +kernel
theorem dX7_bound_10 : decode cX7_bound 10 = .ok (.invokestatic 52, 3) := by decide +kernel
theorem dX7_bound_13 : decode cX7_bound 13 = .ok (.lreturn, 1) := by decide +kernel
theorem dX8_init_0 : decode cX8_init 0 = .ok (.aload_n 0, 1) := by decide +kernel
theorem dX8_init_1 : decode cX8_init 1 = .ok (.invokespecial 3, 3) := by decide +kernel
theorem dX8_init_4 : decode cX8_init 4 = .ok (.aload_n 0, 1) := by decide +kernel
theorem dX8_init_5 : decode cX8_init 5 = .ok (.bipush 8, 2) := by decide +kernel
theorem dX8_init_7 : decode cX8_init 7 = .ok (.newarray .int, 2) := by decide +kernel
theorem dX8_init_9 : decode cX8_init 9 = .ok (.putfield 9, 3) := by decide +kernel
theorem dX8_init_12 : decode cX8_init 12 = .ok (.aload_n 0, 1) := by decide +kernel
theorem dX8_init_13 : decode cX8_init 13 = .ok (.bipush 8, 2) := by decide +kernel
theorem dX8_init_15 : decode cX8_init 15 = .ok (.newarray .int, 2) := by decide +kernel
theorem dX8_init_17 : decode cX8_init 17 = .ok (.putfield 15, 3) := by decide +kernel
theorem dX8_init_20 : decode cX8_init 20 = .ok (.return_, 1) := by decide +kernel
theorem dX8_append_0 : decode cX8_append 0 = .ok (.aload_n 0, 1) := by decide +kernel
theorem dX8_append_1 : decode cX8_append 1 = .ok (.getfield 18, 3) := by decide +kernel
theorem dX8_append_4 : decode cX8_append 4 = .ok (.aload_n 0, 1) := by decide +kernel
theorem dX8_append_5 : decode cX8_append 5 = .ok (.getfield 9, 3) := by decide +kernel
theorem dX8_append_8 : decode cX8_append 8 = .ok (.arraylength, 1) := by decide +kernel
theorem dX8_append_9 : decode cX8_append 9 = .ok (.if_icmp .ge 23, 3) := by decide +kernel
theorem dX8_append_12 : decode cX8_append 12 = .ok (.aload_n 0, 1) := by decide +kernel
theorem dX8_append_13 : decode cX8_append 13 = .ok (.getfield 9, 3) := by decide +kernel
theorem dX8_append_16 : decode cX8_append 16 = .ok (.aload_n 0, 1) := by decide +kernel
theorem dX8_append_17 : decode cX8_append 17 = .ok (.getfield 18, 3) := by decide +kernel
theorem dX8_append_20 : decode cX8_append 20 = .ok (.iload_n 1, 1) := by decide +kernel
theorem dX8_append_21 : decode cX8_append 21 = .ok (.iastore, 1) := by decide +kernel
theorem dX8_append_22 : decode cX8_append 22 = .ok (.aload_n 0, 1) := by decide +kernel
theorem dX8_append_23 : decode cX8_append 23 = .ok (.dup, 1) := by decide +kernel
theorem dX8_append_24 : decode cX8_append 24 = .ok (.getfield 18, 3) := by decide +kernel
theorem dX8_append_27 : decode cX8_append 27 = .ok (.iconst 1, 1) := by decide +kernel
theorem dX8_append_28 : decode cX8_append 28 = .ok (.iadd, 1) := by decide +kernel
theorem dX8_append_29 : decode cX8_append 29 = .ok (.putfield 18, 3) := by decide +kernel
theorem dX8_append_32 : decode cX8_append 32 = .ok (.return_, 1) := by decide +kernel
theorem dX8_split_0 : decode cX8_split 0 = .ok (.lconst 0, 1) := by decide +kernel
theorem dX8_split_1 : decode cX8_split 1 = .ok (.lstore_n 3, 1) := by decide +kernel
theorem dX8_split_2 : decode cX8_split 2 = .ok (.iconst 0, 1) := by decide +kernel
theorem dX8_split_3 : decode cX8_split 3 = .ok (.istore 5, 2) := by decide +kernel
theorem dX8_split_5 : decode cX8_split 5 = .ok (.iload 5, 2) := by decide +kernel
theorem dX8_split_7 : decode cX8_split 7 = .ok (.aload_n 0, 1) := by decide +kernel
theorem dX8_split_8 : decode cX8_split 8 = .ok (.getfield 18, 3) := by decide +kernel
theorem dX8_split_11 : decode cX8_split 11 = .ok (.if_icmp .ge 28, 3) := by decide +kernel
theorem dX8_split_14 : decode cX8_split 14 = .ok (.lload_n 3, 1) := by decide +kernel
theorem dX8_split_15 : decode cX8_split 15 = .ok (.aload_n 0, 1) := by decide +kernel
theorem dX8_split_16 : decode cX8_split 16 = .ok (.getfield 9, 3) := by decide +kernel
theorem dX8_split_19 : decode cX8_split 19 = .ok (.iload 5, 2) := by decide +kernel
theorem dX8_split_21 : decode cX8_split 21 = .ok (.iaload, 1) := by decide +kernel
theorem dX8_split_22 : decode cX8_split 22 = .ok (.i2l, 1) := by decide +kernel
theorem dX8_split_23 : decode cX8_split 23 = .ok (.ladd, 1) := by decide +kernel
theorem dX8_split_24 : decode cX8_split 24 = .ok (.lstore_n 3, 1) := by decide +kernel
theorem dX8_split_25 : decode cX8_split 25 = .ok (.aload_n 0, 1) := by decide +kernel
theorem dX8_split_26 : decode cX8_split 26 = .ok (.getfield 15, 3) := by decide +kernel
theorem dX8_split_29 : decode cX8_split 29 = .ok (.iload 5, 2) := by decide +kernel
theorem dX8_split_31 : decode cX8_split 31 = .ok (.iconst 0, 1) := by decide +kernel
theorem dX8_split_32 : decode cX8_split 32 = .ok (.iastore, 1) := by decide +kernel
theorem dX8_split_33 : decode cX8_split 33 = .ok (.iinc 5 1, 3) := by decide +kernel
theorem dX8_split_36 : decode cX8_split 36 = .ok (.goto (-31), 3) := by decide +kernel
theorem dX8_split_39 : decode cX8_split 39 = .ok (.iload_n 1, 1) := by decide +kernel
theorem dX8_split_40 : decode cX8_split 40 = .ok (.ifCond .eq 10, 3) := by decide +kernel
theorem dX8_split_43 : decode cX8_split 43 = .ok (.iload_n 2, 1) := by decide +kernel
theorem dX8_split_44 : decode cX8_split 44 = .ok (.i2l, 1) := by decide +kernel
theorem dX8_split_45 : decode cX8_split 45 = .ok (.lload_n 3, 1) := by decide +kernel
theorem dX8_split_46 : decode cX8_split 46 = .ok (.lcmp, 1) := by decide +kernel
theorem dX8_split_47 : decode cX8_split 47 = .ok (.ifCond .lt 11, 3) := by decide +kernel
theorem dX8_split_50 : decode cX8_split 50 = .ok (.aload_n 0, 1) := by decide +kernel
theorem dX8_split_51 : decode cX8_split 51 = .ok (.iload_n 2, 1) := by decide +kernel
theorem dX8_split_52 : decode cX8_split 52 = .ok (.invokevirtual 22, 3) := by decide +kernel
theorem dX8_split_55 : decode cX8_split 55 = .ok (.goto 22, 3) := by decide +kernel
theorem dX8_split_58 : decode cX8_split 58 = .ok (.iload_n 1, 1) := by decide +kernel
theorem dX8_split_59 : decode cX8_split 59 = .ok (.iconst 1, 1) := by decide +kernel
theorem dX8_split_60 : decode cX8_split 60 = .ok (.if_icmp .ne 12, 3) := by decide +kernel
theorem dX8_split_63 : decode cX8_split 63 = .ok (.aload_n 0, 1) := by decide +kernel
theorem dX8_split_64 : decode cX8_split 64 = .ok (.iload_n 2, 1) := by decide +kernel
theorem dX8_split_65 : decode cX8_split 65 = .ok (.lload_n 3, 1) := by decide +kernel
theorem dX8_split_66 : decode cX8_split 66 = .ok (.invokevirtual 26, 3) := by decide +kernel
theorem dX8_split_69 : decode cX8_split 69 = .ok (.goto 8, 3) := by decide +kernel
theorem dX8_split_72 : decode cX8_split 72 = .ok (.aload_n 0, 1) := by decide +kernel
theorem dX8_split_73 : decode cX8_split 73 = .ok (.iload_n 2, 1) := by decide +kernel
theorem dX8_split_74 : decode cX8_split 74 = .ok (.invokevirtual 30, 3) := by decide +kernel
theorem dX8_split_77 : decode cX8_split 77 = .ok (.return_, 1) := by decide +kernel
theorem dX8_byNumbers_0 : decode cX8_byNumbers 0 = .ok (.iload_n 1, 1) := by decide +kernel
theorem dX8_byNumbers_1 : decode cX8_byNumbers 1 = .ok (.istore_n 2, 1) := by decide +kernel
theorem dX8_byNumbers_2 : decode cX8_byNumbers 2 = .ok (.iconst 0, 1) := by decide +kernel
theorem dX8_byNumbers_3 : decode cX8_byNumbers 3 = .ok (.istore_n 3, 1) := by decide +kernel
theorem dX8_byNumbers_4 : decode cX8_byNumbers 4 = .ok (.iload_n 3, 1) := by decide +kernel
theorem dX8_byNumbers_5 : decode cX8_byNumbers 5 = .ok (.aload_n 0, 1) := by decide +kernel
theorem dX8_byNumbers_6 : decode cX8_byNumbers 6 = .ok (.getfield 18, 3) := by decide +kernel
theorem dX8_byNumbers_9 : decode cX8_byNumbers 9 = .ok (.if_icmp .ge 34, 3) := by decide +kernel
theorem dX8_byNumbers_12 : decode cX8_byNumbers 12 = .ok (.aload_n 0, 1) := by decide +kernel
theorem dX8_byNumbers_13 : decode cX8_byNumbers 13 = .ok (.getfield 15, 3) := by decide +kernel
theorem dX8_byNumbers_16 : decode cX8_byNumbers 16 = .ok (.iload_n 3, 1) := by decide +kernel
theorem dX8_byNumbers_17 : decode cX8_byNumbers 17 = .ok (.iload_n 2, 1) := by decide +kernel
theorem dX8_byNumbers_18 : decode cX8_byNumbers 18 = .ok (.aload_n 0, 1) := by decide +kernel
theorem dX8_byNumbers_19 : decode cX8_byNumbers 19 = .ok (.getfield 9, 3) := by decide +kernel
theorem dX8_byNumbers_22 : decode cX8_byNumbers 22 = .ok (.iload_n 3, 1) := by decide +kernel
theorem dX8_byNumbers_23 : decode cX8_byNumbers 23 = .ok (.iaload, 1) := by decide +kernel
theorem dX8_byNumbers_24 : decode cX8_byNumbers 24 = .ok (.invokestatic 33, 3) := by decide +kernel
theorem dX8_byNumbers_27 : decode cX8_byNumbers 27 = .ok (.iastore, 1) := by decide +kernel
theorem dX8_byNumbers_28 : decode cX8_byNumbers 28 = .ok (.iload_n 2, 1) := by decide +kernel
theorem dX8_byNumbers_29 : decode cX8_byNumbers 29 = .ok (.aload_n 0, 1) := by decide +kernel
theorem dX8_byNumbers_30 : decode cX8_byNumbers 30 = .ok (.getfield 15, 3) := by decide +kernel
theorem dX8_byNumbers_33 : decode cX8_byNumbers 33 = .ok (.iload_n 3, 1) := by decide +kernel
theorem dX8_byNumbers_34 : decode cX8_byNumbers 34 = .ok (.iaload, 1) := by decide +kernel
theorem dX8_byNumbers_35 : decode cX8_byNumbers 35 = .ok (.isub, 1) := by decide +kernel
theorem dX8_byNumbers_36 : decode cX8_byNumbers 36 = .ok (.istore_n 2, 1) := by decide +kernel
theorem dX8_byNumbers_37 : decode cX8_byNumbers 37 = .ok (.iinc 3 1, 3) := by decide +kernel
theorem dX8_byNumbers_40 : decode cX8_byNumbers 40 = .ok (.goto (-36), 3) := by decide +kernel
theorem dX8_byNumbers_43 : decode cX8_byNumbers 43 = .ok (.return_, 1) := by decide +kernel
theorem dX8_byParts_0 : decode cX8_byParts 0 = .ok (.lload_n 2, 1) := by decide +kernel
theorem dX8_byParts_1 : decode cX8_byParts 1 = .ok (.lconst 0, 1) := by decide +kernel
theorem dX8_byParts_2 : decode cX8_byParts 2 = .ok (.lcmp, 1) := by decide +kernel
theorem dX8_byParts_3 : decode cX8_byParts 3 = .ok (.ifCond .gt 4, 3) := by decide +kernel
theorem dX8_byParts_6 : decode cX8_byParts 6 = .ok (.return_, 1) := by decide +kernel
theorem dX8_byParts_7 : decode cX8_byParts 7 = .ok (.iload_n 1, 1) := by decide +kernel
theorem dX8_byParts_8 : decode cX8_byParts 8 = .ok (.istore 4, 2) := by decide +kernel
theorem dX8_byParts_10 : decode cX8_byParts 10 = .ok (.iconst 0, 1) := by decide +kernel
theorem dX8_byParts_11 : decode cX8_byParts 11 = .ok (.istore 5, 2) := by decide +kernel
theorem dX8_byParts_13 : decode cX8_byParts 13 = .ok (.iload 5, 2) := by decide +kernel
theorem dX8_byParts_15 : decode cX8_byParts 15 = .ok (.aload_n 0, 1) := by decide +kernel
theorem dX8_byParts_16 : decode cX8_byParts 16 = .ok (.getfield 18, 3) := by decide +kernel
theorem dX8_byParts_19 : decode cX8_byParts 19 = .ok (.if_icmp .ge 42, 3) := by decide +kernel
theorem dX8_byParts_22 : decode cX8_byParts 22 = .ok (.aload_n 0, 1) := by decide +kernel
theorem dX8_byParts_23 : decode cX8_byParts 23 = .ok (.getfield 15, 3) := by decide +kernel
theorem dX8_byParts_26 : decode cX8_byParts 26 = .ok (.iload 5, 2) := by decide +kernel
theorem dX8_byParts_28 : decode cX8_byParts 28 = .ok (.iload_n 1, 1) := by decide +kernel
theorem dX8_byParts_29 : decode cX8_byParts 29 = .ok (.i2l, 1) := by decide +kernel
theorem dX8_byParts_30 : decode cX8_byParts 30 = .ok (.aload_n 0, 1) := by decide +kernel
theorem dX8_byParts_31 : decode cX8_byParts 31 = .ok (.getfield 9, 3) := by decide +kernel
theorem dX8_byParts_34 : decode cX8_byParts 34 = .ok (.iload 5, 2) := by decide +kernel
theorem dX8_byParts_36 : decode cX8_byParts 36 = .ok (.iaload, 1) := by decide +kernel
theorem dX8_byParts_37 : decode cX8_byParts 37 = .ok (.i2l, 1) := by decide +kernel
theorem dX8_byParts_38 : decode cX8_byParts 38 = .ok (.lmul, 1) := by decide +kernel
theorem dX8_byParts_39 : decode cX8_byParts 39 = .ok (.lload_n 2, 1) := by decide +kernel
theorem dX8_byParts_40 : decode cX8_byParts 40 = .ok (.ldiv, 1) := by decide +kernel
theorem dX8_byParts_41 : decode cX8_byParts 41 = .ok (.l2i, 1) := by decide +kernel
theorem dX8_byParts_42 : decode cX8_byParts 42 = .ok (.iastore, 1) := by decide +kernel
theorem dX8_byParts_43 : decode cX8_byParts 43 = .ok (.iload 4, 2) := by decide +kernel
theorem dX8_byParts_45 : decode cX8_byParts 45 = .ok (.aload_n 0, 1) := by decide +kernel
theorem dX8_byParts_46 : decode cX8_byParts 46 = .ok (.getfield 15, 3) := by decide +kernel
theorem dX8_byParts_49 : decode cX8_byParts 49 = .ok (.iload 5, 2) := by decide +kernel
theorem dX8_byParts_51 : decode cX8_byParts 51 = .ok (.iaload, 1) := by decide +kernel
theorem dX8_byParts_52 : decode cX8_byParts 52 = .ok (.isub, 1) := by decide +kernel
theorem dX8_byParts_53 : decode cX8_byParts 53 = .ok (.istore 4, 2) := by decide +kernel
theorem dX8_byParts_55 : decode cX8_byParts 55 = .ok (.iinc 5 1, 3) := by decide +kernel
theorem dX8_byParts_58 : decode cX8_byParts 58 = .ok (.goto (-45), 3) := by decide +kernel
theorem dX8_byParts_61 : decode cX8_byParts 61 = .ok (.aload_n 0, 1) := by decide +kernel
theorem dX8_byParts_62 : decode cX8_byParts 62 = .ok (.iload 4, 2) := by decide +kernel
theorem dX8_byParts_64 : decode cX8_byParts 64 = .ok (.invokevirtual 39, 3) := by decide +kernel
theorem dX8_byParts_67 : decode cX8_byParts 67 = .ok (.return_, 1) := by decide +kernel
theorem dX8_oneEach_0 : decode cX8_oneEach 0 = .ok (.iload_n 1, 1) := by decide +kernel
theorem dX8_oneEach_1 : decode cX8_oneEach 1 = .ok (.istore_n 2, 1) := by decide +kernel
theorem dX8_oneEach_2 : decode cX8_oneEach 2 = .ok (.iconst 0, 1) := by decide +kernel
theorem dX8_oneEach_3 : decode cX8_oneEach 3 = .ok (.istore_n 3, 1) := by decide +kernel
theorem dX8_oneEach_4 : decode cX8_oneEach 4 = .ok (.iload_n 3, 1) := by decide +kernel
theorem dX8_oneEach_5 : decode cX8_oneEach 5 = .ok (.aload_n 0, 1) := by decide +kernel
theorem dX8_oneEach_6 : decode cX8_oneEach 6 = .ok (.getfield 18, 3) := by decide +kernel
theorem dX8_oneEach_9 : decode cX8_oneEach 9 = .ok (.if_icmp .ge 41, 3) := by decide +kernel
theorem dX8_oneEach_12 : decode cX8_oneEach 12 = .ok (.iload_n 2, 1) := by decide +kernel
theorem dX8_oneEach_13 : decode cX8_oneEach 13 = .ok (.ifCond .le 37, 3) := by decide +kernel
theorem dX8_oneEach_16 : decode cX8_oneEach 16 = .ok (.aload_n 0, 1) := by decide +kernel
theorem dX8_oneEach_17 : decode cX8_oneEach 17 = .ok (.getfield 15, 3) := by decide +kernel
theorem dX8_oneEach_20 : decode cX8_oneEach 20 = .ok (.iload_n 3, 1) := by decide +kernel
theorem dX8_oneEach_21 : decode cX8_oneEach 21 = .ok (.iaload, 1) := by decide +kernel
theorem dX8_oneEach_22 : decode cX8_oneEach 22 = .ok (.aload_n 0, 1) := by decide +kernel
theorem dX8_oneEach_23 : decode cX8_oneEach 23 = .ok (.getfield 9, 3) := by decide +kernel
theorem dX8_oneEach_26 : decode cX8_oneEach 26 = .ok (.iload_n 3, 1) := by decide +kernel
theorem dX8_oneEach_27 : decode cX8_oneEach 27 = .ok (.iaload, 1) := by decide +kernel
theorem dX8_oneEach_28 : decode cX8_oneEach 28 = .ok (.if_icmp .ge 16, 3) := by decide +kernel
theorem dX8_oneEach_31 : decode cX8_oneEach 31 = .ok (.aload_n 0, 1) := by decide +kernel
theorem dX8_oneEach_32 : decode cX8_oneEach 32 = .ok (.getfield 15, 3) := by decide +kernel
theorem dX8_oneEach_35 : decode cX8_oneEach 35 = .ok (.iload_n 3, 1) := by decide +kernel
theorem dX8_oneEach_36 : decode cX8_oneEach 36 = .ok (.dup2, 1) := by decide +kernel
theorem dX8_oneEach_37 : decode cX8_oneEach 37 = .ok (.iaload, 1) := by decide +kernel
theorem dX8_oneEach_38 : decode cX8_oneEach 38 = .ok (.iconst 1, 1) := by decide +kernel
theorem dX8_oneEach_39 : decode cX8_oneEach 39 = .ok (.iadd, 1) := by decide +kernel
theorem dX8_oneEach_40 : decode cX8_oneEach 40 = .ok (.iastore, 1) := by decide +kernel
theorem dX8_oneEach_41 : decode cX8_oneEach 41 = .ok (.iinc 2 (-1), 3) := by decide +kernel
theorem dX8_oneEach_44 : decode cX8_oneEach 44 = .ok (.iinc 3 1, 3) := by decide +kernel
theorem dX8_oneEach_47 : decode cX8_oneEach 47 = .ok (.goto (-43), 3) := by decide +kernel
theorem dX8_oneEach_50 : decode cX8_oneEach 50 = .ok (.return_, 1) := by decide +kernel
theorem dX8_evenly_0 : decode cX8_evenly 0 = .ok (.iload_n 1, 1) := by decide +kernel
theorem dX8_evenly_1 : decode cX8_evenly 1 = .ok (.istore_n 2, 1) := by decide +kernel
theorem dX8_evenly_2 : decode cX8_evenly 2 = .ok (.iconst 0, 1) := by decide +kernel
theorem dX8_evenly_3 : decode cX8_evenly 3 = .ok (.istore_n 3, 1) := by decide +kernel
theorem dX8_evenly_4 : decode cX8_evenly 4 = .ok (.iload_n 3, 1) := by decide +kernel
theorem dX8_evenly_5 : decode cX8_evenly 5 = .ok (.aload_n 0, 1) := by decide +kernel
theorem dX8_evenly_6 : decode cX8_evenly 6 = .ok (.getfield 18, 3) := by decide +kernel
theorem dX8_evenly_9 : decode cX8_evenly 9 = .ok (.iconst 2, 1) := by decide +kernel
theorem dX8_evenly_10 : decode cX8_evenly 10 = .ok (.iadd, 1) := by decide +kernel
theorem dX8_evenly_11 : decode cX8_evenly 11 = .ok (.if_icmp .ge 159, 3) := by decide +kernel
theorem dX8_evenly_14 : decode cX8_evenly 14 = .ok (.iload_n 2, 1) := by decide +kernel
theorem dX8_evenly_15 : decode cX8_evenly 15 = .ok (.ifCond .le 155, 3) := by decide +kernel
theorem dX8_evenly_18 : decode cX8_evenly 18 = .ok (.iconst 0, 1) := by decide +kernel
theorem dX8_evenly_19 : decode cX8_evenly 19 = .ok (.istore 4, 2) := by decide +kernel
theorem dX8_evenly_21 : decode cX8_evenly 21 = .ok (.iload_n 2, 1) := by decide +kernel
theorem dX8_evenly_22 : decode cX8_evenly 22 = .ok (.istore 5, 2) := by decide +kernel
theorem dX8_evenly_24 : decode cX8_evenly 24 = .ok (.iconst 0, 1) := by decide +kernel
theorem dX8_evenly_25 : decode cX8_evenly 25 = .ok (.istore 6, 2) := by decide +kernel
theorem dX8_evenly_27 : decode cX8_evenly 27 = .ok (.iload 6, 2) := by decide +kernel
theorem dX8_evenly_29 : decode cX8_evenly 29 = .ok (.aload_n 0, 1) := by decide +kernel
theorem dX8_evenly_30 : decode cX8_evenly 30 = .ok (.getfield 18, 3) := by decide +kernel
theorem dX8_evenly_33 : decode cX8_evenly 33 = .ok (.if_icmp .ge 51, 3) := by decide +kernel
theorem dX8_evenly_36 : decode cX8_evenly 36 = .ok (.aload_n 0, 1) := by decide +kernel
theorem dX8_evenly_37 : decode cX8_evenly 37 = .ok (.getfield 15, 3) := by decide +kernel
theorem dX8_evenly_40 : decode cX8_evenly 40 = .ok (.iload 6, 2) := by decide +kernel
theorem dX8_evenly_42 : decode cX8_evenly 42 = .ok (.iaload, 1) := by decide +kernel
theorem dX8_evenly_43 : decode cX8_evenly 43 = .ok (.aload_n 0, 1) := by decide +kernel
theorem dX8_evenly_44 : decode cX8_evenly 44 = .ok (.getfield 9, 3) := by decide +kernel
theorem dX8_evenly_47 : decode cX8_evenly 47 = .ok (.iload 6, 2) := by decide +kernel
theorem dX8_evenly_49 : decode cX8_evenly 49 = .ok (.iaload, 1) := by decide +kernel
theorem dX8_evenly_50 : decode cX8_evenly 50 = .ok (.if_icmp .ge 28, 3) := by decide +kernel
theorem dX8_evenly_53 : decode cX8_evenly 53 = .ok (.iinc 4 1, 3) := by decide +kernel
theorem dX8_evenly_56 : decode cX8_evenly 56 = .ok (.iload 5, 2) := by decide +kernel
theorem dX8_evenly_58 : decode cX8_evenly 58 = .ok (.aload_n 0, 1) := by decide +kernel
theorem dX8_evenly_59 : decode cX8_evenly 59 = .ok (.getfield 9, 3) := by decide +kernel
theorem dX8_evenly_62 : decode cX8_evenly 62 = .ok (.iload 6, 2) := by decide +kernel
theorem dX8_evenly_64 : decode cX8_evenly 64 = .ok (.iaload, 1) := by decide +kernel
theorem dX8_evenly_65 : decode cX8_evenly 65 = .ok (.aload_n 0, 1) := by decide +kernel
theorem dX8_evenly_66 : decode cX8_evenly 66 = .ok (.getfield 15, 3) := by decide +kernel
theorem dX8_evenly_69 : decode cX8_evenly 69 = .ok (.iload 6, 2) := by decide +kernel
theorem dX8_evenly_71 : decode cX8_evenly 71 = .ok (.iaload, 1) := by decide +kernel
theorem dX8_evenly_72 : decode cX8_evenly 72 = .ok (.isub, 1) := by decide +kernel
theorem dX8_evenly_73 : decode cX8_evenly 73 = .ok (.invokestatic 33, 3) := by decide +kernel
theorem dX8_evenly_76 : decode cX8_evenly 76 = .ok (.istore 5, 2) := by decide +kernel
theorem dX8_evenly_78 : decode cX8_evenly 78 = .ok (.iinc 6 1, 3) := by decide +kernel
theorem dX8_evenly_81 : decode cX8_evenly 81 = .ok (.goto (-54), 3) := by decide +kernel
theorem dX8_evenly_84 : decode cX8_evenly 84 = .ok (.iload 4, 2) := by decide +kernel
theorem dX8_evenly_86 : decode cX8_evenly 86 = .ok (.ifCond .eq 9, 3) := by decide +kernel
theorem dX8_evenly_89 : decode cX8_evenly 89 = .ok (.iload_n 2, 1) := by decide +kernel
theorem dX8_evenly_90 : decode cX8_evenly 90 = .ok (.iload 4, 2) := by decide +kernel
theorem dX8_evenly_92 : decode cX8_evenly 92 = .ok (.if_icmp .ge 9, 3) := by decide +kernel
theorem dX8_evenly_95 : decode cX8_evenly 95 = .ok (.aload_n 0, 1) := by decide +kernel
theorem dX8_evenly_96 : decode cX8_evenly 96 = .ok (.iload_n 2, 1) := by decide +kernel
theorem dX8_evenly_97 : decode cX8_evenly 97 = .ok (.invokevirtual 39, 3) := by decide +kernel
theorem dX8_evenly_100 : decode cX8_evenly 100 = .ok (.return_, 1) := by decide +kernel
theorem dX8_evenly_101 : decode cX8_evenly 101 = .ok (.iload 5, 2) := by decide +kernel
theorem dX8_evenly_103 : decode cX8_evenly 103 = .ok (.iload_n 2, 1) := by decide +kernel
theorem dX8_evenly_104 : decode cX8_evenly 104 = .ok (.iload 4, 2) := by decide +kernel
theorem dX8_evenly_106 : decode cX8_evenly 106 = .ok (.idiv, 1) := by decide +kernel
theorem dX8_evenly_107 : decode cX8_evenly 107 = .ok (.invokestatic 33, 3) := by decide +kernel
theorem dX8_evenly_110 : decode cX8_evenly 110 = .ok (.istore 6, 2) := by decide +kernel
theorem dX8_evenly_112 : decode cX8_evenly 112 = .ok (.iconst 0, 1) := by decide +kernel
theorem dX8_evenly_113 : decode cX8_evenly 113 = .ok (.istore 7, 2) := by decide +kernel
theorem dX8_evenly_115 : decode cX8_evenly 115 = .ok (.iload 7, 2) := by decide +kernel
theorem dX8_evenly_117 : decode cX8_evenly 117 = .ok (.aload_n 0, 1) := by decide +kernel
theorem dX8_evenly_118 : decode cX8_evenly 118 = .ok (.getfield 18, 3) := by decide +kernel
theorem dX8_evenly_121 : decode cX8_evenly 121 = .ok (.if_icmp .ge 43, 3) := by decide +kernel
theorem dX8_evenly_124 : decode cX8_evenly 124 = .ok (.aload_n 0, 1) := by decide +kernel
theorem dX8_evenly_125 : decode cX8_evenly 125 = .ok (.getfield 15, 3) := by decide +kernel
theorem dX8_evenly_128 : decode cX8_evenly 128 = .ok (.iload 7, 2) := by decide +kernel
theorem dX8_evenly_130 : decode cX8_evenly 130 = .ok (.iaload, 1) := by decide +kernel
theorem dX8_evenly_131 : decode cX8_evenly 131 = .ok (.aload_n 0, 1) := by decide +kernel
theorem dX8_evenly_132 : decode cX8_evenly 132 = .ok (.getfield 9, 3) := by decide +kernel
theorem dX8_evenly_135 : decode cX8_evenly 135 = .ok (.iload 7, 2) := by decide +kernel
theorem dX8_evenly_137 : decode cX8_evenly 137 = .ok (.iaload, 1) := by decide +kernel
theorem dX8_evenly_138 : decode cX8_evenly 138 = .ok (.if_icmp .ge 20, 3) := by decide +kernel
theorem dX8_evenly_141 : decode cX8_evenly 141 = .ok (.aload_n 0, 1) := by decide +kernel
theorem dX8_evenly_142 : decode cX8_evenly 142 = .ok (.getfield 15, 3) := by decide +kernel
theorem dX8_evenly_145 : decode cX8_evenly 145 = .ok (.iload 7, 2) := by decide +kernel
theorem dX8_evenly_147 : decode cX8_evenly 147 = .ok (.dup2, 1) := by decide +kernel
theorem dX8_evenly_148 : decode cX8_evenly 148 = .ok (.iaload, 1) := by decide +kernel
theorem dX8_evenly_149 : decode cX8_evenly 149 = .ok (.iload 6, 2) := by decide +kernel
theorem dX8_evenly_151 : decode cX8_evenly 151 = .ok (.iadd, 1) := by decide +kernel
theorem dX8_evenly_152 : decode cX8_evenly 152 = .ok (.iastore, 1) := by decide +kernel
theorem dX8_evenly_153 : decode cX8_evenly 153 = .ok (.iload_n 2, 1) := by decide +kernel
theorem dX8_evenly_154 : decode cX8_evenly 154 = .ok (.iload 6, 2) := by decide +kernel
theorem dX8_evenly_156 : decode cX8_evenly 156 = .ok (.isub, 1) := by decide +kernel
theorem dX8_evenly_157 : decode cX8_evenly 157 = .ok (.istore_n 2, 1) := by decide +kernel
theorem dX8_evenly_158 : decode cX8_evenly 158 = .ok (.iinc 7 1, 3) := by decide +kernel
theorem dX8_evenly_161 : decode cX8_evenly 161 = .ok (.goto (-46), 3) := by decide +kernel
theorem dX8_evenly_164 : decode cX8_evenly 164 = .ok (.iinc 3 1, 3) := by decide +kernel
theorem dX8_evenly_167 : decode cX8_evenly 167 = .ok (.goto (-163), 3) := by decide +kernel
theorem dX8_evenly_170 : decode cX8_evenly 170 = .ok (.return_, 1) := by decide +kernel
theorem dX9_init_0 : decode cX9_init 0 = .ok (.aload_n 0, 1) := by decide +kernel
theorem dX9_init_1 : decode cX9_init 1 = .ok (.invokespecial 3, 3) := by decide +kernel
theorem dX9_init_4 : decode cX9_init 4 = .ok (.aload_n 0, 1) := by decide +kernel
theorem dX9_init_5 : decode cX9_init 5 = .ok (.bipush 120, 2) := by decide +kernel
theorem dX9_init_7 : decode cX9_init 7 = .ok (.newarray .int, 2) := by decide +kernel
theorem dX9_init_9 : decode cX9_init 9 = .ok (.putfield 9, 3) := by decide +kernel
theorem dX9_init_12 : decode cX9_init 12 = .ok (.aload_n 0, 1) := by decide +kernel
theorem dX9_init_13 : decode cX9_init 13 = .ok (.bipush 120, 2) := by decide +kernel
theorem dX9_init_15 : decode cX9_init 15 = .ok (.newarray .int, 2) := by decide +kernel
theorem dX9_init_17 : decode cX9_init 17 = .ok (.putfield 15, 3) := by decide +kernel
theorem dX9_init_20 : decode cX9_init 20 = .ok (.return_, 1) := by decide +kernel
theorem dX9_append_0 : decode cX9_append 0 = .ok (.aload_n 0, 1) := by decide +kernel
theorem dX9_append_1 : decode cX9_append 1 = .ok (.getfield 18, 3) := by decide +kernel
theorem dX9_append_4 : decode cX9_append 4 = .ok (.aload_n 0, 1) := by decide +kernel
theorem dX9_append_5 : decode cX9_append 5 = .ok (.getfield 9, 3) := by decide +kernel
theorem dX9_append_8 : decode cX9_append 8 = .ok (.arraylength, 1) := by decide +kernel
theorem dX9_append_9 : decode cX9_append 9 = .ok (.if_icmp .ge 23, 3) := by decide +kernel
theorem dX9_append_12 : decode cX9_append 12 = .ok (.aload_n 0, 1) := by decide +kernel
theorem dX9_append_13 : decode cX9_append 13 = .ok (.getfield 9, 3) := by decide +kernel
theorem dX9_append_16 : decode cX9_append 16 = .ok (.aload_n 0, 1) := by decide +kernel
theorem dX9_append_17 : decode cX9_append 17 = .ok (.getfield 18, 3) := by decide +kernel
theorem dX9_append_20 : decode cX9_append 20 = .ok (.iload_n 1, 1) := by decide +kernel
theorem dX9_append_21 : decode cX9_append 21 = .ok (.iastore, 1) := by decide +kernel
theorem dX9_append_22 : decode cX9_append 22 = .ok (.aload_n 0, 1) := by decide +kernel
theorem dX9_append_23 : decode cX9_append 23 = .ok (.dup, 1) := by decide +kernel
theorem dX9_append_24 : decode cX9_append 24 = .ok (.getfield 18, 3) := by decide +kernel
theorem dX9_append_27 : decode cX9_append 27 = .ok (.iconst 1, 1) := by decide +kernel
theorem dX9_append_28 : decode cX9_append 28 = .ok (.iadd, 1) := by decide +kernel
theorem dX9_append_29 : decode cX9_append 29 = .ok (.putfield 18, 3) := by decide +kernel
theorem dX9_append_32 : decode cX9_append 32 = .ok (.return_, 1) := by decide +kernel
theorem dX9_read_0 : decode cX9_read 0 = .ok (.aload_n 0, 1) := by decide +kernel
theorem dX9_read_1 : decode cX9_read 1 = .ok (.iconst 0, 1) := by decide +kernel
theorem dX9_read_2 : decode cX9_read 2 = .ok (.putfield 22, 3) := by decide +kernel
theorem dX9_read_5 : decode cX9_read 5 = .ok (.aload_n 0, 1) := by decide +kernel
theorem dX9_read_6 : decode cX9_read 6 = .ok (.iconst 0, 1) := by decide +kernel
theorem dX9_read_7 : decode cX9_read 7 = .ok (.putfield 25, 3) := by decide +kernel
theorem dX9_read_10 : decode cX9_read 10 = .ok (.aload_n 0, 1) := by decide +kernel
theorem dX9_read_11 : decode cX9_read 11 = .ok (.iconst 0, 1) := by decide +kernel
theorem dX9_read_12 : decode cX9_read 12 = .ok (.invokevirtual 28, 3) := by decide +kernel
theorem dX9_read_15 : decode cX9_read 15 = .ok (.ifCond .eq 18, 3) := by decide +kernel
theorem dX9_read_18 : decode cX9_read 18 = .ok (.aload_n 0, 1) := by decide +kernel
theorem dX9_read_19 : decode cX9_read 19 = .ok (.getfield 22, 3) := by decide +kernel
theorem dX9_read_22 : decode cX9_read 22 = .ok (.aload_n 0, 1) := by decide +kernel
theorem dX9_read_23 : decode cX9_read 23 = .ok (.getfield 18, 3) := by decide +kernel
theorem dX9_read_26 : decode cX9_read 26 = .ok (.if_icmp .ne 7, 3) := by decide +kernel
theorem dX9_read_29 : decode cX9_read 29 = .ok (.iconst 1, 1) := by decide +kernel
theorem dX9_read_30 : decode cX9_read 30 = .ok (.goto 4, 3) := by decide +kernel
theorem dX9_read_33 : decode cX9_read 33 = .ok (.iconst 0, 1) := by decide +kernel
theorem dX9_read_34 : decode cX9_read 34 = .ok (.ireturn, 1) := by decide +kernel
theorem dX9_isNext_0 : decode cX9_isNext 0 = .ok (.aload_n 0, 1) := by decide +kernel
theorem dX9_isNext_1 : decode cX9_isNext 1 = .ok (.getfield 22, 3) := by decide +kernel
theorem dX9_isNext_4 : decode cX9_isNext 4 = .ok (.aload_n 0, 1) := by decide +kernel
theorem dX9_isNext_5 : decode cX9_isNext 5 = .ok (.getfield 18, 3) := by decide +kernel
theorem dX9_isNext_8 : decode cX9_isNext 8 = .ok (.if_icmp .ge 20, 3) := by decide +kernel
theorem dX9_isNext_11 : decode cX9_isNext 11 = .ok (.aload_n 0, 1) := by decide +kernel
theorem dX9_isNext_12 : decode cX9_isNext 12 = .ok (.getfield 9, 3) := by decide +kernel
theorem dX9_isNext_15 : decode cX9_isNext 15 = .ok (.aload_n 0, 1) := by decide +kernel
theorem dX9_isNext_16 : decode cX9_isNext 16 = .ok (.getfield 22, 3) := by decide +kernel
theorem dX9_isNext_19 : decode cX9_isNext 19 = .ok (.iaload, 1) := by decide +kernel
theorem dX9_isNext_20 : decode cX9_isNext 20 = .ok (.iload_n 1, 1) := by decide +kernel
theorem dX9_isNext_21 : decode cX9_isNext 21 = .ok (.if_icmp .ne 7, 3) := by decide +kernel
theorem dX9_isNext_24 : decode cX9_isNext 24 = .ok (.iconst 1, 1) := by decide +kernel
theorem dX9_isNext_25 : decode cX9_isNext 25 = .ok (.goto 4, 3) := by decide +kernel
theorem dX9_isNext_28 : decode cX9_isNext 28 = .ok (.iconst 0, 1) := by decide +kernel
theorem dX9_isNext_29 : decode cX9_isNext 29 = .ok (.ireturn, 1) := by decide +kernel
theorem dX9_take_0 : decode cX9_take 0 = .ok (.aload_n 0, 1) := by decide +kernel
theorem dX9_take_1 : decode cX9_take 1 = .ok (.iload_n 1, 1) := by decide +kernel
theorem dX9_take_2 : decode cX9_take 2 = .ok (.invokevirtual 32, 3) := by decide +kernel
theorem dX9_take_5 : decode cX9_take 5 = .ok (.istore_n 2, 1) := by decide +kernel
theorem dX9_take_6 : decode cX9_take 6 = .ok (.aload_n 0, 1) := by decide +kernel
theorem dX9_take_7 : decode cX9_take 7 = .ok (.dup, 1) := by decide +kernel
theorem dX9_take_8 : decode cX9_take 8 = .ok (.getfield 22, 3) := by decide +kernel
theorem dX9_take_11 : decode cX9_take 11 = .ok (.iload_n 2, 1) := by decide +kernel
theorem dX9_take_12 : decode cX9_take 12 = .ok (.ifCond .eq 7, 3) := by decide +kernel
theorem dX9_take_15 : decode cX9_take 15 = .ok (.iconst 1, 1) := by decide +kernel
theorem dX9_take_16 : decode cX9_take 16 = .ok (.goto 4, 3) := by decide +kernel
theorem dX9_take_19 : decode cX9_take 19 = .ok (.iconst 0, 1) := by decide +kernel
theorem dX9_take_20 : decode cX9_take 20 = .ok (.iadd, 1) := by decide +kernel
theorem dX9_take_21 : decode cX9_take 21 = .ok (.putfield 22, 3) := by decide +kernel
theorem dX9_take_24 : decode cX9_take 24 = .ok (.iload_n 2, 1) := by decide +kernel
theorem dX9_take_25 : decode cX9_take 25 = .ok (.ireturn, 1) := by decide +kernel
theorem dX9_emit_0 : decode cX9_emit 0 = .ok (.aload_n 0, 1) := by decide +kernel
theorem dX9_emit_1 : decode cX9_emit 1 = .ok (.getfield 25, 3) := by decide +kernel
theorem dX9_emit_4 : decode cX9_emit 4 = .ok (.aload_n 0, 1) := by decide +kernel
theorem dX9_emit_5 : decode cX9_emit 5 = .ok (.getfield 15, 3) := by decide +kernel
theorem dX9_emit_8 : decode cX9_emit 8 = .ok (.arraylength, 1) := by decide +kernel
theorem dX9_emit_9 : decode cX9_emit 9 = .ok (.if_icmp .ge 23, 3) := by decide +kernel
theorem dX9_emit_12 : decode cX9_emit 12 = .ok (.aload_n 0, 1) := by decide +kernel
theorem dX9_emit_13 : decode cX9_emit 13 = .ok (.getfield 15, 3) := by decide +kernel
theorem dX9_emit_16 : decode cX9_emit 16 = .ok (.aload_n 0, 1) := by decide +kernel
theorem dX9_emit_17 : decode cX9_emit 17 = .ok (.getfield 25, 3) := by decide +kernel
theorem dX9_emit_20 : decode cX9_emit 20 = .ok (.iload_n 1, 1) := by decide +kernel
theorem dX9_emit_21 : decode cX9_emit 21 = .ok (.iastore, 1) := by decide +kernel
theorem dX9_emit_22 : decode cX9_emit 22 = .ok (.aload_n 0, 1) := by decide +kernel
theorem dX9_emit_23 : decode cX9_emit 23 = .ok (.dup, 1) := by decide +kernel
theorem dX9_emit_24 : decode cX9_emit 24 = .ok (.getfield 25, 3) := by decide +kernel
theorem dX9_emit_27 : decode cX9_emit 27 = .ok (.iconst 1, 1) := by decide +kernel
theorem dX9_emit_28 : decode cX9_emit 28 = .ok (.iadd, 1) := by decide +kernel
theorem dX9_emit_29 : decode cX9_emit 29 = .ok (.putfield 25, 3) := by decide +kernel
theorem dX9_emit_32 : decode cX9_emit 32 = .ok (.return_, 1) := by decide +kernel
theorem dX9_readSum_0 : decode cX9_readSum 0 = .ok (.aload_n 0, 1) := by decide +kernel
theorem dX9_readSum_1 : decode cX9_readSum 1 = .ok (.iload_n 1, 1) := by decide +kernel
theorem dX9_readSum_2 : decode cX9_readSum 2 = .ok (.invokevirtual 36, 3) := by decide +kernel
theorem dX9_readSum_5 : decode cX9_readSum 5 = .ok (.istore_n 2, 1) := by decide +kernel
theorem dX9_readSum_6 : decode cX9_readSum 6 = .ok (.iconst 0, 1) := by decide +kernel
theorem dX9_readSum_7 : decode cX9_readSum 7 = .ok (.istore_n 3, 1) := by decide +kernel
theorem dX9_readSum_8 : decode cX9_readSum 8 = .ok (.iload_n 3, 1) := by decide +kernel
theorem dX9_readSum_9 : decode cX9_readSum 9 = .ok (.bipush 120, 2) := by decide +kernel
theorem dX9_readSum_11 : decode cX9_readSum 11 = .ok (.if_icmp .ge 71, 3) := by decide +kernel
theorem dX9_readSum_14 : decode cX9_readSum 14 = .ok (.iload_n 2, 1) := by decide +kernel
theorem dX9_readSum_15 : decode cX9_readSum 15 = .ok (.ifCond .eq 67, 3) := by decide +kernel
theorem dX9_readSum_18 : decode cX9_readSum 18 = .ok (.aload_n 0, 1) := by decide +kernel
theorem dX9_readSum_19 : decode cX9_readSum 19 = .ok (.bipush 43, 2) := by decide +kernel
theorem dX9_readSum_21 : decode cX9_readSum 21 = .ok (.invokevirtual 32, 3) := by decide +kernel
theorem dX9_readSum_24 : decode cX9_readSum 24 = .ok (.ifCond .ne 12, 3) := by decide +kernel
theorem dX9_readSum_27 : decode cX9_readSum 27 = .ok (.aload_n 0, 1) := by decide +kernel
theorem dX9_readSum_28 : decode cX9_readSum 28 = .ok (.bipush 45, 2) := by decide +kernel
theorem dX9_readSum_30 : decode cX9_readSum 30 = .ok (.invokevirtual 32, 3) := by decide +kernel
theorem dX9_readSum_33 : decode cX9_readSum 33 = .ok (.ifCond .eq 49, 3) := by decide +kernel
theorem dX9_readSum_36 : decode cX9_readSum 36 = .ok (.aload_n 0, 1) := by decide +kernel
theorem dX9_readSum_37 : decode cX9_readSum 37 = .ok (.bipush 43, 2) := by decide +kernel
theorem dX9_readSum_39 : decode cX9_readSum 39 = .ok (.invokevirtual 32, 3) := by decide +kernel
theorem dX9_readSum_42 : decode cX9_readSum 42 = .ok (.ifCond .eq 8, 3) := by decide +kernel
theorem dX9_readSum_45 : decode cX9_readSum 45 = .ok (.bipush (-8), 2) := by decide +kernel
theorem dX9_readSum_47 : decode cX9_readSum 47 = .ok (.goto 5, 3) := by decide +kernel
theorem dX9_readSum_50 : decode cX9_readSum 50 = .ok (.bipush (-9), 2) := by decide +kernel
theorem dX9_readSum_52 : decode cX9_readSum 52 = .ok (.istore 4, 2) := by decide +kernel
theorem dX9_readSum_54 : decode cX9_readSum 54 = .ok (.aload_n 0, 1) := by decide +kernel
theorem dX9_readSum_55 : decode cX9_readSum 55 = .ok (.dup, 1) := by decide +kernel
theorem dX9_readSum_56 : decode cX9_readSum 56 = .ok (.getfield 22, 3) := by decide +kernel
theorem dX9_readSum_59 : decode cX9_readSum 59 = .ok (.iconst 1, 1) := by decide +kernel
theorem dX9_readSum_60 : decode cX9_readSum 60 = .ok (.iadd, 1) := by decide +kernel
theorem dX9_readSum_61 : decode cX9_readSum 61 = .ok (.putfield 22, 3) := by decide +kernel
theorem dX9_readSum_64 : decode cX9_readSum 64 = .ok (.aload_n 0, 1) := by decide +kernel
theorem dX9_readSum_65 : decode cX9_readSum 65 = .ok (.iload_n 1, 1) := by decide +kernel
theorem dX9_readSum_66 : decode cX9_readSum 66 = .ok (.invokevirtual 36, 3) := by decide +kernel
theorem dX9_readSum_69 : decode cX9_readSum 69 = .ok (.istore_n 2, 1) := by decide +kernel
theorem dX9_readSum_70 : decode cX9_readSum 70 = .ok (.aload_n 0, 1) := by decide +kernel
theorem dX9_readSum_71 : decode cX9_readSum 71 = .ok (.iload 4, 2) := by decide +kernel
theorem dX9_readSum_73 : decode cX9_readSum 73 = .ok (.invokevirtual 41, 3) := by decide +kernel
theorem dX9_readSum_76 : decode cX9_readSum 76 = .ok (.iinc 3 1, 3) := by decide +kernel
theorem dX9_readSum_79 : decode cX9_readSum 79 = .ok (.goto (-71), 3) := by decide +kernel
theorem dX9_readSum_82 : decode cX9_readSum 82 = .ok (.iload_n 2, 1) := by decide +kernel
theorem dX9_readSum_83 : decode cX9_readSum 83 = .ok (.ireturn, 1) := by decide +kernel
theorem dX9_readProduct_0 : decode cX9_readProduct 0 = .ok (.aload_n 0, 1) := by decide +kernel
theorem dX9_readProduct_1 : decode cX9_readProduct 1 = .ok (.iload_n 1, 1) := by decide +kernel
theorem dX9_readProduct_2 : decode cX9_readProduct 2 = .ok (.invokevirtual 45, 3) := by decide +kernel
theorem dX9_readProduct_5 : decode cX9_readProduct 5 = .ok (.istore_n 2, 1) := by decide +kernel
theorem dX9_readProduct_6 : decode cX9_readProduct 6 = .ok (.iconst 0, 1) := by decide +kernel
theorem dX9_readProduct_7 : decode cX9_readProduct 7 = .ok (.istore_n 3, 1) := by decide +kernel
theorem dX9_readProduct_8 : decode cX9_readProduct 8 = .ok (.iload_n 3, 1) := by decide +kernel
theorem dX9_readProduct_9 : decode cX9_readProduct 9 = .ok (.bipush 120, 2) := by decide +kernel
theorem dX9_readProduct_11 : decode cX9_readProduct 11 = .ok (.if_icmp .ge 71, 3) := by decide +kernel
theorem dX9_readProduct_14 : decode cX9_readProduct 14 = .ok (.iload_n 2, 1) := by decide +kernel
theorem dX9_readProduct_15 : decode cX9_readProduct 15 = .ok (.ifCond .eq 67, 3) := by decide +kernel
theorem dX9_readProduct_18 : decode cX9_readProduct 18 = .ok (.aload_n 0, 1) := by decide +kernel
theorem dX9_readProduct_19 : decode cX9_readProduct 19 = .ok (.bipush 42, 2) := by decide +kernel
theorem dX9_readProduct_21 : decode cX9_readProduct 21 = .ok (.invokevirtual 32, 3) := by decide +kernel
theorem dX9_readProduct_24 : decode cX9_readProduct 24 = .ok (.ifCond .ne 12, 3) := by decide +kernel
theorem dX9_readProduct_27 : decode cX9_readProduct 27 = .ok (.aload_n 0, 1) := by decide +kernel
theorem dX9_readProduct_28 : decode cX9_readProduct 28 = .ok (.bipush 47, 2) := by decide +kernel
theorem dX9_readProduct_30 : decode cX9_readProduct 30 = .ok (.invokevirtual 32, 3) := by decide +kernel
theorem dX9_readProduct_33 : decode cX9_readProduct 33 = .ok (.ifCond .eq 49, 3) := by decide +kernel
theorem dX9_readProduct_36 : decode cX9_readProduct 36 = .ok (.aload_n 0, 1) := by decide +kernel
theorem dX9_readProduct_37 : decode cX9_readProduct 37 = .ok (.bipush 42, 2) := by decide +kernel
theorem dX9_readProduct_39 : decode cX9_readProduct 39 = .ok (.invokevirtual 32, 3) := by decide +kernel
theorem dX9_readProduct_42 : decode cX9_readProduct 42 = .ok (.ifCond .eq 8, 3) := by decide +kernel
theorem dX9_readProduct_45 : decode cX9_readProduct 45 = .ok (.bipush (-10), 2) := by decide +kernel
theorem dX9_readProduct_47 : decode cX9_readProduct 47 = .ok (.goto 5, 3) := by decide +kernel
theorem dX9_readProduct_50 : decode cX9_readProduct 50 = .ok (.bipush (-11), 2) := by decide +kernel
theorem dX9_readProduct_52 : decode cX9_readProduct 52 = .ok (.istore 4, 2) := by decide +kernel
theorem dX9_readProduct_54 : decode cX9_readProduct 54 = .ok (.aload_n 0, 1) := by decide +kernel
theorem dX9_readProduct_55 : decode cX9_readProduct 55 = .ok (.dup, 1) := by decide +kernel
theorem dX9_readProduct_56 : decode cX9_readProduct 56 = .ok (.getfield 22, 3) := by decide +kernel
theorem dX9_readProduct_59 : decode cX9_readProduct 59 = .ok (.iconst 1, 1) := by decide +kernel
theorem dX9_readProduct_60 : decode cX9_readProduct 60 = .ok (.iadd, 1) := by decide +kernel
theorem dX9_readProduct_61 : decode cX9_readProduct 61 = .ok (.putfield 22, 3) := by decide +kernel
theorem dX9_readProduct_64 : decode cX9_readProduct 64 = .ok (.aload_n 0, 1) := by decide +kernel
theorem dX9_readProduct_65 : decode cX9_readProduct 65 = .ok (.iload_n 1, 1) := by decide +kernel
theorem dX9_readProduct_66 : decode cX9_readProduct 66 = .ok (.invokevirtual 45, 3) := by decide +kernel
theorem dX9_readProduct_69 : decode cX9_readProduct 69 = .ok (.istore_n 2, 1) := by decide +kernel
theorem dX9_readProduct_70 : decode cX9_readProduct 70 = .ok (.aload_n 0, 1) := by decide +kernel
theorem dX9_readProduct_71 : decode cX9_readProduct 71 = .ok (.iload 4, 2) := by decide +kernel
theorem dX9_readProduct_73 : decode cX9_readProduct 73 = .ok (.invokevirtual 41, 3) := by decide +kernel
theorem dX9_readProduct_76 : decode cX9_readProduct 76 = .ok (.iinc 3 1, 3) := by decide +kernel
theorem dX9_readProduct_79 : decode cX9_readProduct 79 = .ok (.goto (-71), 3) := by decide +kernel
theorem dX9_readProduct_82 : decode cX9_readProduct 82 = .ok (.iload_n 2, 1) := by decide +kernel
theorem dX9_readProduct_83 : decode cX9_readProduct 83 = .ok (.ireturn, 1) := by decide +kernel
theorem dX9_readAtom_0 : decode cX9_readAtom 0 = .ok (.aload_n 0, 1) := by decide +kernel
theorem dX9_readAtom_1 : decode cX9_readAtom 1 = .ok (.invokevirtual 48, 3) := by decide +kernel
theorem dX9_readAtom_4 : decode cX9_readAtom 4 = .ok (.ifCond .eq 9, 3) := by decide +kernel
theorem dX9_readAtom_7 : decode cX9_readAtom 7 = .ok (.aload_n 0, 1) := by decide +kernel
theorem dX9_readAtom_8 : decode cX9_readAtom 8 = .ok (.invokevirtual 52, 3) := by decide +kernel
theorem dX9_readAtom_11 : decode cX9_readAtom 11 = .ok (.iconst 1, 1) := by decide +kernel
theorem dX9_readAtom_12 : decode cX9_readAtom 12 = .ok (.ireturn, 1) := by decide +kernel
theorem dX9_readAtom_13 : decode cX9_readAtom 13 = .ok (.aload_n 0, 1) := by decide +kernel
theorem dX9_readAtom_14 : decode cX9_readAtom 14 = .ok (.bipush 40, 2) := by decide +kernel
theorem dX9_readAtom_16 : decode cX9_readAtom 16 = .ok (.invokevirtual 32, 3) := by decide +kernel
theorem dX9_readAtom_19 : decode cX9_readAtom 19 = .ok (.ifCond .eq 36, 3) := by decide +kernel
theorem dX9_readAtom_22 : decode cX9_readAtom 22 = .ok (.aload_n 0, 1) := by decide +kernel
theorem dX9_readAtom_23 : decode cX9_readAtom 23 = .ok (.iload_n 1, 1) := by decide +kernel
theorem dX9_readAtom_24 : decode cX9_readAtom 24 = .ok (.invokevirtual 55, 3) := by decide +kernel
theorem dX9_readAtom_27 : decode cX9_readAtom 27 = .ok (.ifCond .eq 26, 3) := by decide +kernel
theorem dX9_readAtom_30 : decode cX9_readAtom 30 = .ok (.aload_n 0, 1) := by decide +kernel
theorem dX9_readAtom_31 : decode cX9_readAtom 31 = .ok (.iload_n 1, 1) := by decide +kernel
theorem dX9_readAtom_32 : decode cX9_readAtom 32 = .ok (.iconst 1, 1) := by decide +kernel
theorem dX9_readAtom_33 : decode cX9_readAtom 33 = .ok (.iadd, 1) := by decide +kernel
theorem dX9_readAtom_34 : decode cX9_readAtom 34 = .ok (.invokevirtual 28, 3) := by decide +kernel
theorem dX9_readAtom_37 : decode cX9_readAtom 37 = .ok (.ifCond .eq 16, 3) := by decide +kernel
theorem dX9_readAtom_40 : decode cX9_readAtom 40 = .ok (.aload_n 0, 1) := by decide +kernel
theorem dX9_readAtom_41 : decode cX9_readAtom 41 = .ok (.bipush 41, 2) := by decide +kernel
theorem dX9_readAtom_43 : decode cX9_readAtom 43 = .ok (.invokevirtual 58, 3) := by decide +kernel
theorem dX9_readAtom_46 : decode cX9_readAtom 46 = .ok (.ifCond .eq 7, 3) := by decide +kernel
theorem dX9_readAtom_49 : decode cX9_readAtom 49 = .ok (.iconst 1, 1) := by decide +kernel
theorem dX9_readAtom_50 : decode cX9_readAtom 50 = .ok (.goto 4, 3) := by decide +kernel
theorem dX9_readAtom_53 : decode cX9_readAtom 53 = .ok (.iconst 0, 1) := by decide +kernel
theorem dX9_readAtom_54 : decode cX9_readAtom 54 = .ok (.ireturn, 1) := by decide +kernel
theorem dX9_readAtom_55 : decode cX9_readAtom 55 = .ok (.aload_n 0, 1) := by decide +kernel
theorem dX9_readAtom_56 : decode cX9_readAtom 56 = .ok (.invokevirtual 61, 3) := by decide +kernel
theorem dX9_readAtom_59 : decode cX9_readAtom 59 = .ok (.istore_n 2, 1) := by decide +kernel
theorem dX9_readAtom_60 : decode cX9_readAtom 60 = .ok (.iload_n 2, 1) := by decide +kernel
theorem dX9_readAtom_61 : decode cX9_readAtom 61 = .ok (.ifCond .ge 5, 3) := by decide +kernel
theorem dX9_readAtom_64 : decode cX9_readAtom 64 = .ok (.iconst 0, 1) := by decide +kernel
theorem dX9_readAtom_65 : decode cX9_readAtom 65 = .ok (.ireturn, 1) := by decide +kernel
theorem dX9_readAtom_66 : decode cX9_readAtom 66 = .ok (.iload_n 2, 1) := by decide +kernel
theorem dX9_readAtom_67 : decode cX9_readAtom 67 = .ok (.bipush 7, 2) := by decide +kernel
theorem dX9_readAtom_69 : decode cX9_readAtom 69 = .ok (.if_icmp .ge 12, 3) := by decide +kernel
theorem dX9_readAtom_72 : decode cX9_readAtom 72 = .ok (.aload_n 0, 1) := by decide +kernel
theorem dX9_readAtom_73 : decode cX9_readAtom 73 = .ok (.iconst (-1), 1) := by decide +kernel
theorem dX9_readAtom_74 : decode cX9_readAtom 74 = .ok (.iload_n 2, 1) := by decide +kernel
theorem dX9_readAtom_75 : decode cX9_readAtom 75 = .ok (.isub, 1) := by decide +kernel
theorem dX9_readAtom_76 : decode cX9_readAtom 76 = .ok (.invokevirtual 41, 3) := by decide +kernel
theorem dX9_readAtom_79 : decode cX9_readAtom 79 = .ok (.iconst 1, 1) := by decide +kernel
theorem dX9_readAtom_80 : decode cX9_readAtom 80 = .ok (.ireturn, 1) := by decide +kernel
theorem dX9_readAtom_81 : decode cX9_readAtom 81 = .ok (.aload_n 0, 1) := by decide +kernel
theorem dX9_readAtom_82 : decode cX9_readAtom 82 = .ok (.iload_n 1, 1) := by decide +kernel
theorem dX9_readAtom_83 : decode cX9_readAtom 83 = .ok (.invokevirtual 55, 3) := by decide +kernel
theorem dX9_readAtom_86 : decode cX9_readAtom 86 = .ok (.ifCond .eq 45, 3) := by decide +kernel
theorem dX9_readAtom_89 : decode cX9_readAtom 89 = .ok (.aload_n 0, 1) := by decide +kernel
theorem dX9_readAtom_90 : decode cX9_readAtom 90 = .ok (.iload_n 1, 1) := by decide +kernel
theorem dX9_readAtom_91 : decode cX9_readAtom 91 = .ok (.iconst 1, 1) := by decide +kernel
theorem dX9_readAtom_92 : decode cX9_readAtom 92 = .ok (.iadd, 1) := by decide +kernel
theorem dX9_readAtom_93 : decode cX9_readAtom 93 = .ok (.invokevirtual 28, 3) := by decide +kernel
theorem dX9_readAtom_96 : decode cX9_readAtom 96 = .ok (.ifCond .eq 35, 3) := by decide +kernel
theorem dX9_readAtom_99 : decode cX9_readAtom 99 = .ok (.aload_n 0, 1) := by decide +kernel
theorem dX9_readAtom_100 : decode cX9_readAtom 100 = .ok (.bipush 44, 2) := by decide +kernel
theorem dX9_readAtom_102 : decode cX9_readAtom 102 = .ok (.invokevirtual 58, 3) := by decide +kernel
theorem dX9_readAtom_105 : decode cX9_readAtom 105 = .ok (.ifCond .eq 26, 3) := by decide +kernel
theorem dX9_readAtom_108 : decode cX9_readAtom 108 = .ok (.aload_n 0, 1) := by decide +kernel
theorem dX9_readAtom_109 : decode cX9_readAtom 109 = .ok (.iload_n 1, 1) := by decide +kernel
theorem dX9_readAtom_110 : decode cX9_readAtom 110 = .ok (.iconst 1, 1) := by decide +kernel
theorem dX9_readAtom_111 : decode cX9_readAtom 111 = .ok (.iadd, 1) := by decide +kernel
theorem dX9_readAtom_112 : decode cX9_readAtom 112 = .ok (.invokevirtual 28, 3) := by decide +kernel
theorem dX9_readAtom_115 : decode cX9_readAtom 115 = .ok (.ifCond .eq 16, 3) := by decide +kernel
theorem dX9_readAtom_118 : decode cX9_readAtom 118 = .ok (.aload_n 0, 1) := by decide +kernel
theorem dX9_readAtom_119 : decode cX9_readAtom 119 = .ok (.bipush 41, 2) := by decide +kernel
theorem dX9_readAtom_121 : decode cX9_readAtom 121 = .ok (.invokevirtual 58, 3) := by decide +kernel
theorem dX9_readAtom_124 : decode cX9_readAtom 124 = .ok (.ifCond .eq 7, 3) := by decide +kernel
theorem dX9_readAtom_127 : decode cX9_readAtom 127 = .ok (.iconst 1, 1) := by decide +kernel
theorem dX9_readAtom_128 : decode cX9_readAtom 128 = .ok (.goto 4, 3) := by decide +kernel
theorem dX9_readAtom_131 : decode cX9_readAtom 131 = .ok (.iconst 0, 1) := by decide +kernel
theorem dX9_readAtom_132 : decode cX9_readAtom 132 = .ok (.istore_n 3, 1) := by decide +kernel
theorem dX9_readAtom_133 : decode cX9_readAtom 133 = .ok (.aload_n 0, 1) := by decide +kernel
theorem dX9_readAtom_134 : decode cX9_readAtom 134 = .ok (.iload_n 2, 1) := by decide +kernel
theorem dX9_readAtom_135 : decode cX9_readAtom 135 = .ok (.bipush 7, 2) := by decide +kernel
theorem dX9_readAtom_137 : decode cX9_readAtom 137 = .ok (.if_icmp .ne 8, 3) := by decide +kernel
theorem dX9_readAtom_140 : decode cX9_readAtom 140 = .ok (.bipush (-12), 2) := by decide +kernel
theorem dX9_readAtom_142 : decode cX9_readAtom 142 = .ok (.goto 5, 3) := by decide +kernel
theorem dX9_readAtom_145 : decode cX9_readAtom 145 = .ok (.bipush (-13), 2) := by decide +kernel
theorem dX9_readAtom_147 : decode cX9_readAtom 147 = .ok (.invokevirtual 41, 3) := by decide +kernel
theorem dX9_readAtom_150 : decode cX9_readAtom 150 = .ok (.iload_n 3, 1) := by decide +kernel
theorem dX9_readAtom_151 : decode cX9_readAtom 151 = .ok (.ireturn, 1) := by decide +kernel
theorem dX9_openOne_0 : decode cX9_openOne 0 = .ok (.iload_n 1, 1) := by decide +kernel
theorem dX9_openOne_1 : decode cX9_openOne 1 = .ok (.bipush 6, 2) := by decide +kernel
theorem dX9_openOne_3 : decode cX9_openOne 3 = .ok (.if_icmp .ge 16, 3) := by decide +kernel
theorem dX9_openOne_6 : decode cX9_openOne 6 = .ok (.aload_n 0, 1) := by decide +kernel
theorem dX9_openOne_7 : decode cX9_openOne 7 = .ok (.bipush 40, 2) := by decide +kernel
theorem dX9_openOne_9 : decode cX9_openOne 9 = .ok (.invokevirtual 58, 3) := by decide +kernel
theorem dX9_openOne_12 : decode cX9_openOne 12 = .ok (.ifCond .eq 7, 3) := by decide +kernel
theorem dX9_openOne_15 : decode cX9_openOne 15 = .ok (.iconst 1, 1) := by decide +kernel
theorem dX9_openOne_16 : decode cX9_openOne 16 = .ok (.goto 4, 3) := by decide +kernel
theorem dX9_openOne_19 : decode cX9_openOne 19 = .ok (.iconst 0, 1) := by decide +kernel
theorem dX9_openOne_20 : decode cX9_openOne 20 = .ok (.ireturn, 1) := by decide +kernel
theorem dX9_isDigit_0 : decode cX9_isDigit 0 = .ok (.aload_n 0, 1) := by decide +kernel
theorem dX9_isDigit_1 : decode cX9_isDigit 1 = .ok (.getfield 22, 3) := by decide +kernel
theorem dX9_isDigit_4 : decode cX9_isDigit 4 = .ok (.aload_n 0, 1) := by decide +kernel
theorem dX9_isDigit_5 : decode cX9_isDigit 5 = .ok (.getfield 18, 3) := by decide +kernel
theorem dX9_isDigit_8 : decode cX9_isDigit 8 = .ok (.if_icmp .ge 35, 3) := by decide +kernel
theorem dX9_isDigit_11 : decode cX9_isDigit 11 = .ok (.aload_n 0, 1) := by decide +kernel
theorem dX9_isDigit_12 : decode cX9_isDigit 12 = .ok (.getfield 9, 3) := by decide +kernel
theorem dX9_isDigit_15 : decode cX9_isDigit 15 = .ok (.aload_n 0, 1) := by decide +kernel
theorem dX9_isDigit_16 : decode cX9_isDigit 16 = .ok (.getfield 22, 3) := by decide +kernel
theorem dX9_isDigit_19 : decode cX9_isDigit 19 = .ok (.iaload, 1) := by decide +kernel
theorem dX9_isDigit_20 : decode cX9_isDigit 20 = .ok (.bipush 48, 2) := by decide +kernel
theorem dX9_isDigit_22 : decode cX9_isDigit 22 = .ok (.if_icmp .lt 21, 3) := by decide +kernel
theorem dX9_isDigit_25 : decode cX9_isDigit 25 = .ok (.aload_n 0, 1) := by decide +kernel
theorem dX9_isDigit_26 : decode cX9_isDigit 26 = .ok (.getfield 9, 3) := by decide +kernel
theorem dX9_isDigit_29 : decode cX9_isDigit 29 = .ok (.aload_n 0, 1) := by decide +kernel
theorem dX9_isDigit_30 : decode cX9_isDigit 30 = .ok (.getfield 22, 3) := by decide +kernel
theorem dX9_isDigit_33 : decode cX9_isDigit 33 = .ok (.iaload, 1) := by decide +kernel
theorem dX9_isDigit_34 : decode cX9_isDigit 34 = .ok (.bipush 57, 2) := by decide +kernel
theorem dX9_isDigit_36 : decode cX9_isDigit 36 = .ok (.if_icmp .gt 7, 3) := by decide +kernel
theorem dX9_isDigit_39 : decode cX9_isDigit 39 = .ok (.iconst 1, 1) := by decide +kernel
theorem dX9_isDigit_40 : decode cX9_isDigit 40 = .ok (.goto 4, 3) := by decide +kernel
theorem dX9_isDigit_43 : decode cX9_isDigit 43 = .ok (.iconst 0, 1) := by decide +kernel
theorem dX9_isDigit_44 : decode cX9_isDigit 44 = .ok (.ireturn, 1) := by decide +kernel
theorem dX9_readNumber_0 : decode cX9_readNumber 0 = .ok (.iconst 0, 1) := by decide +kernel
theorem dX9_readNumber_1 : decode cX9_readNumber 1 = .ok (.istore_n 1, 1) := by decide +kernel
theorem dX9_readNumber_2 : decode cX9_readNumber 2 = .ok (.iconst 0, 1) := by decide +kernel
theorem dX9_readNumber_3 : decode cX9_readNumber 3 = .ok (.istore_n 2, 1) := by decide +kernel
theorem dX9_readNumber_4 : decode cX9_readNumber 4 = .ok (.iload_n 2, 1) := by decide +kernel
theorem dX9_readNumber_5 : decode cX9_readNumber 5 = .ok (.iconst 4, 1) := by decide +kernel
theorem dX9_readNumber_6 : decode cX9_readNumber 6 = .ok (.if_icmp .ge 44, 3) := by decide +kernel
theorem dX9_readNumber_9 : decode cX9_readNumber 9 = .ok (.aload_n 0, 1) := by decide +kernel
theorem dX9_readNumber_10 : decode cX9_readNumber 10 = .ok (.invokevirtual 48, 3) := by decide +kernel
theorem dX9_readNumber_13 : decode cX9_readNumber 13 = .ok (.ifCond .eq 37, 3) := by decide +kernel
theorem dX9_readNumber_16 : decode cX9_readNumber 16 = .ok (.iload_n 1, 1) := by decide +kernel
theorem dX9_readNumber_17 : decode cX9_readNumber 17 = .ok (.bipush 10, 2) := by decide +kernel
theorem dX9_readNumber_19 : decode cX9_readNumber 19 = .ok (.imul, 1) := by decide +kernel
theorem dX9_readNumber_20 : decode cX9_readNumber 20 = .ok (.aload_n 0, 1) := by decide +kernel
theorem dX9_readNumber_21 : decode cX9_readNumber 21 = .ok (.getfield 9, 3) := by decide +kernel
theorem dX9_readNumber_24 : decode cX9_readNumber 24 = .ok (.aload_n 0, 1) := by decide +kernel
theorem dX9_readNumber_25 : decode cX9_readNumber 25 = .ok (.getfield 22, 3) := by decide +kernel
theorem dX9_readNumber_28 : decode cX9_readNumber 28 = .ok (.iaload, 1) := by decide +kernel
theorem dX9_readNumber_29 : decode cX9_readNumber 29 = .ok (.iadd, 1) := by decide +kernel
theorem dX9_readNumber_30 : decode cX9_readNumber 30 = .ok (.bipush 48, 2) := by decide +kernel
theorem dX9_readNumber_32 : decode cX9_readNumber 32 = .ok (.isub, 1) := by decide +kernel
theorem dX9_readNumber_33 : decode cX9_readNumber 33 = .ok (.istore_n 1, 1) := by decide +kernel
theorem dX9_readNumber_34 : decode cX9_readNumber 34 = .ok (.aload_n 0, 1) := by decide +kernel
theorem dX9_readNumber_35 : decode cX9_readNumber 35 = .ok (.dup, 1) := by decide +kernel
theorem dX9_readNumber_36 : decode cX9_readNumber 36 = .ok (.getfield 22, 3) := by decide +kernel
theorem dX9_readNumber_39 : decode cX9_readNumber 39 = .ok (.iconst 1, 1) := by decide +kernel
theorem dX9_readNumber_40 : decode cX9_readNumber 40 = .ok (.iadd, 1) := by decide +kernel
theorem dX9_readNumber_41 : decode cX9_readNumber 41 = .ok (.putfield 22, 3) := by decide +kernel
theorem dX9_readNumber_44 : decode cX9_readNumber 44 = .ok (.iinc 2 1, 3) := by decide +kernel
theorem dX9_readNumber_47 : decode cX9_readNumber 47 = .ok (.goto (-43), 3) := by decide +kernel
theorem dX9_readNumber_50 : decode cX9_readNumber 50 = .ok (.aload_n 0, 1) := by decide +kernel
theorem dX9_readNumber_51 : decode cX9_readNumber 51 = .ok (.iload_n 1, 1) := by decide +kernel
theorem dX9_readNumber_52 : decode cX9_readNumber 52 = .ok (.invokevirtual 41, 3) := by decide +kernel
theorem dX9_readNumber_55 : decode cX9_readNumber 55 = .ok (.return_, 1) := by decide +kernel
theorem dX9_readWord_0 : decode cX9_readWord 0 = .ok (.iconst 0, 1) := by decide +kernel
theorem dX9_readWord_1 : decode cX9_readWord 1 = .ok (.istore_n 1, 1) := by decide +kernel
theorem dX9_readWord_2 : decode cX9_readWord 2 = .ok (.iconst 0, 1) := by decide +kernel
theorem dX9_readWord_3 : decode cX9_readWord 3 = .ok (.istore_n 2, 1) := by decide +kernel
theorem dX9_readWord_4 : decode cX9_readWord 4 = .ok (.iconst 0, 1) := by decide +kernel
theorem dX9_readWord_5 : decode cX9_readWord 5 = .ok (.istore_n 3, 1) := by decide +kernel
theorem dX9_readWord_6 : decode cX9_readWord 6 = .ok (.iconst 1, 1) := by decide +kernel
theorem dX9_readWord_7 : decode cX9_readWord 7 = .ok (.istore 4, 2) := by decide +kernel
theorem dX9_readWord_9 : decode cX9_readWord 9 = .ok (.iconst 0, 1) := by decide +kernel
theorem dX9_readWord_10 : decode cX9_readWord 10 = .ok (.istore 5, 2) := by decide +kernel
theorem dX9_readWord_12 : decode cX9_readWord 12 = .ok (.iload 5, 2) := by decide +kernel
theorem dX9_readWord_14 : decode cX9_readWord 14 = .ok (.ldc 65, 2) := by decide +kernel
theorem dX9_readWord_16 : decode cX9_readWord 16 = .ok (.invokevirtual 67, 3) := by decide +kernel
theorem dX9_readWord_19 : decode cX9_readWord 19 = .ok (.if_icmp .ge 109, 3) := by decide +kernel
theorem dX9_readWord_22 : decode cX9_readWord 22 = .ok (.ldc 65, 2) := by decide +kernel
theorem dX9_readWord_24 : decode cX9_readWord 24 = .ok (.iload 5, 2) := by decide +kernel
theorem dX9_readWord_26 : decode cX9_readWord 26 = .ok (.invokevirtual 71, 3) := by decide +kernel
theorem dX9_readWord_29 : decode cX9_readWord 29 = .ok (.istore 6, 2) := by decide +kernel
theorem dX9_readWord_31 : decode cX9_readWord 31 = .ok (.iload 6, 2) := by decide +kernel
theorem dX9_readWord_33 : decode cX9_readWord 33 = .ok (.bipush 32, 2) := by decide +kernel
theorem dX9_readWord_35 : decode cX9_readWord 35 = .ok (.if_icmp .ne 20, 3) := by decide +kernel
theorem dX9_readWord_38 : decode cX9_readWord 38 = .ok (.iload 4, 2) := by decide +kernel
theorem dX9_readWord_40 : decode cX9_readWord 40 = .ok (.ifCond .eq 15, 3) := by decide +kernel
theorem dX9_readWord_43 : decode cX9_readWord 43 = .ok (.aload_n 0, 1) := by decide +kernel
theorem dX9_readWord_44 : decode cX9_readWord 44 = .ok (.dup, 1) := by decide +kernel
theorem dX9_readWord_45 : decode cX9_readWord 45 = .ok (.getfield 22, 3) := by decide +kernel
theorem dX9_readWord_48 : decode cX9_readWord 48 = .ok (.iload_n 2, 1) := by decide +kernel
theorem dX9_readWord_49 : decode cX9_readWord 49 = .ok (.iadd, 1) := by decide +kernel
theorem dX9_readWord_50 : decode cX9_readWord 50 = .ok (.putfield 22, 3) := by decide +kernel
theorem dX9_readWord_53 : decode cX9_readWord 53 = .ok (.iload_n 1, 1) := by decide +kernel
theorem dX9_readWord_54 : decode cX9_readWord 54 = .ok (.ireturn, 1) := by decide +kernel
theorem dX9_readWord_55 : decode cX9_readWord 55 = .ok (.iload 6, 2) := by decide +kernel
theorem dX9_readWord_57 : decode cX9_readWord 57 = .ok (.bipush 32, 2) := by decide +kernel
theorem dX9_readWord_59 : decode cX9_readWord 59 = .ok (.if_icmp .ne 14, 3) := by decide +kernel
theorem dX9_readWord_62 : decode cX9_readWord 62 = .ok (.iinc 1 1, 3) := by decide +kernel
theorem dX9_readWord_65 : decode cX9_readWord 65 = .ok (.iconst 0, 1) := by decide +kernel
theorem dX9_readWord_66 : decode cX9_readWord 66 = .ok (.istore_n 2, 1) := by decide +kernel
theorem dX9_readWord_67 : decode cX9_readWord 67 = .ok (.iconst 1, 1) := by decide +kernel
theorem dX9_readWord_68 : decode cX9_readWord 68 = .ok (.istore 4, 2) := by decide +kernel
theorem dX9_readWord_70 : decode cX9_readWord 70 = .ok (.goto 52, 3) := by decide +kernel
theorem dX9_readWord_73 : decode cX9_readWord 73 = .ok (.iload 4, 2) := by decide +kernel
theorem dX9_readWord_75 : decode cX9_readWord 75 = .ok (.ifCond .eq 44, 3) := by decide +kernel
theorem dX9_readWord_78 : decode cX9_readWord 78 = .ok (.aload_n 0, 1) := by decide +kernel
theorem dX9_readWord_79 : decode cX9_readWord 79 = .ok (.getfield 22, 3) := by decide +kernel
theorem dX9_readWord_82 : decode cX9_readWord 82 = .ok (.iload_n 2, 1) := by decide +kernel
theorem dX9_readWord_83 : decode cX9_readWord 83 = .ok (.iadd, 1) := by decide +kernel
theorem dX9_readWord_84 : decode cX9_readWord 84 = .ok (.aload_n 0, 1) := by decide +kernel
theorem dX9_readWord_85 : decode cX9_readWord 85 = .ok (.getfield 18, 3) := by decide +kernel
theorem dX9_readWord_88 : decode cX9_readWord 88 = .ok (.if_icmp .ge 31, 3) := by decide +kernel
theorem dX9_readWord_91 : decode cX9_readWord 91 = .ok (.aload_n 0, 1) := by decide +kernel
theorem dX9_readWord_92 : decode cX9_readWord 92 = .ok (.getfield 9, 3) := by decide +kernel
theorem dX9_readWord_95 : decode cX9_readWord 95 = .ok (.aload_n 0, 1) := by decide +kernel
theorem dX9_readWord_96 : decode cX9_readWord 96 = .ok (.getfield 22, 3) := by decide +kernel
theorem dX9_readWord_99 : decode cX9_readWord 99 = .ok (.iload_n 2, 1) := by decide +kernel
theorem dX9_readWord_100 : decode cX9_readWord 100 = .ok (.iadd, 1) := by decide +kernel
theorem dX9_readWord_101 : decode cX9_readWord 101 = .ok (.iaload, 1) := by decide +kernel
theorem dX9_readWord_102 : decode cX9_readWord 102 = .ok (.iload 6, 2) := by decide +kernel
theorem dX9_readWord_104 : decode cX9_readWord 104 = .ok (.if_icmp .ne 15, 3) := by decide +kernel
theorem dX9_readWord_107 : decode cX9_readWord 107 = .ok (.iinc 2 1, 3) := by decide +kernel
theorem dX9_readWord_110 : decode cX9_readWord 110 = .ok (.iload_n 3, 1) := by decide +kernel
theorem dX9_readWord_111 : decode cX9_readWord 111 = .ok (.iload_n 2, 1) := by decide +kernel
theorem dX9_readWord_112 : decode cX9_readWord 112 = .ok (.invokestatic 75, 3) := by decide +kernel
theorem dX9_readWord_115 : decode cX9_readWord 115 = .ok (.istore_n 3, 1) := by decide +kernel
theorem dX9_readWord_116 : decode cX9_readWord 116 = .ok (.goto 6, 3) := by decide +kernel
theorem dX9_readWord_119 : decode cX9_readWord 119 = .ok (.iconst 0, 1) := by decide +kernel
theorem dX9_readWord_120 : decode cX9_readWord 120 = .ok (.istore 4, 2) := by decide +kernel
theorem dX9_readWord_122 : decode cX9_readWord 122 = .ok (.iinc 5 1, 3) := by decide +kernel
theorem dX9_readWord_125 : decode cX9_readWord 125 = .ok (.goto (-113), 3) := by decide +kernel
theorem dX9_readWord_128 : decode cX9_readWord 128 = .ok (.aload_n 0, 1) := by decide +kernel
theorem dX9_readWord_129 : decode cX9_readWord 129 = .ok (.dup, 1) := by decide +kernel
theorem dX9_readWord_130 : decode cX9_readWord 130 = .ok (.getfield 22, 3) := by decide +kernel
theorem dX9_readWord_133 : decode cX9_readWord 133 = .ok (.iload_n 3, 1) := by decide +kernel
theorem dX9_readWord_134 : decode cX9_readWord 134 = .ok (.iadd, 1) := by decide +kernel
theorem dX9_readWord_135 : decode cX9_readWord 135 = .ok (.putfield 22, 3) := by decide +kernel
theorem dX9_readWord_138 : decode cX9_readWord 138 = .ok (.iconst (-1), 1) := by decide +kernel
theorem dX9_readWord_139 : decode cX9_readWord 139 = .ok (.ireturn, 1) := by decide +kernel
theorem dJ6_bitCount_0f7a4_0 : decode cJ6_bitCount_0f7a4 0 = .ok (.iload_n 0, 1) := by decide +kernel
theorem dJ6_bitCount_0f7a4_1 : decode cJ6_bitCount_0f7a4 1 = .ok (.iload_n 0, 1) := by decide +kernel
theorem dJ6_bitCount_0f7a4_2 : decode cJ6_bitCount_0f7a4 2 = .ok (.iconst 1, 1) := by decide +kernel
theorem dJ6_bitCount_0f7a4_3 : decode cJ6_bitCount_0f7a4 3 = .ok (.iushr, 1) := by decide +kernel
theorem dJ6_bitCount_0f7a4_4 : decode cJ6_bitCount_0f7a4 4 = .ok (.ldc_w 265, 3) := by decide +kernel
theorem dJ6_bitCount_0f7a4_7 : decode cJ6_bitCount_0f7a4 7 = .ok (.iand, 1) := by decide +kernel
theorem dJ6_bitCount_0f7a4_8 : decode cJ6_bitCount_0f7a4 8 = .ok (.isub, 1) := by decide +kernel
theorem dJ6_bitCount_0f7a4_9 : decode cJ6_bitCount_0f7a4 9 = .ok (.istore_n 0, 1) := by decide +kernel
theorem dJ6_bitCount_0f7a4_10 : decode cJ6_bitCount_0f7a4 10 = .ok (.iload_n 0, 1) := by decide +kernel
theorem dJ6_bitCount_0f7a4_11 : decode cJ6_bitCount_0f7a4 11 = .ok (.ldc_w 266, 3) := by decide +kernel
theorem dJ6_bitCount_0f7a4_14 : decode cJ6_bitCount_0f7a4 14 = .ok (.iand, 1) := by decide +kernel
theorem dJ6_bitCount_0f7a4_15 : decode cJ6_bitCount_0f7a4 15 = .ok (.iload_n 0, 1) := by decide +kernel
theorem dJ6_bitCount_0f7a4_16 : decode cJ6_bitCount_0f7a4 16 = .ok (.iconst 2, 1) := by decide +kernel
theorem dJ6_bitCount_0f7a4_17 : decode cJ6_bitCount_0f7a4 17 = .ok (.iushr, 1) := by decide +kernel
theorem dJ6_bitCount_0f7a4_18 : decode cJ6_bitCount_0f7a4 18 = .ok (.ldc_w 266, 3) := by decide +kernel
theorem dJ6_bitCount_0f7a4_21 : decode cJ6_bitCount_0f7a4 21 = .ok (.iand, 1) := by decide +kernel
theorem dJ6_bitCount_0f7a4_22 : decode cJ6_bitCount_0f7a4 22 = .ok (.iadd, 1) := by decide +kernel
theorem dJ6_bitCount_0f7a4_23 : decode cJ6_bitCount_0f7a4 23 = .ok (.istore_n 0, 1) := by decide +kernel
theorem dJ6_bitCount_0f7a4_24 : decode cJ6_bitCount_0f7a4 24 = .ok (.iload_n 0, 1) := by decide +kernel
theorem dJ6_bitCount_0f7a4_25 : decode cJ6_bitCount_0f7a4 25 = .ok (.iload_n 0, 1) := by decide +kernel
theorem dJ6_bitCount_0f7a4_26 : decode cJ6_bitCount_0f7a4 26 = .ok (.iconst 4, 1) := by decide +kernel
theorem dJ6_bitCount_0f7a4_27 : decode cJ6_bitCount_0f7a4 27 = .ok (.iushr, 1) := by decide +kernel
theorem dJ6_bitCount_0f7a4_28 : decode cJ6_bitCount_0f7a4 28 = .ok (.iadd, 1) := by decide +kernel
theorem dJ6_bitCount_0f7a4_29 : decode cJ6_bitCount_0f7a4 29 = .ok (.ldc_w 267, 3) := by decide +kernel
theorem dJ6_bitCount_0f7a4_32 : decode cJ6_bitCount_0f7a4 32 = .ok (.iand, 1) := by decide +kernel
theorem dJ6_bitCount_0f7a4_33 : decode cJ6_bitCount_0f7a4 33 = .ok (.istore_n 0, 1) := by decide +kernel
theorem dJ6_bitCount_0f7a4_34 : decode cJ6_bitCount_0f7a4 34 = .ok (.iload_n 0, 1) := by decide +kernel
theorem dJ6_bitCount_0f7a4_35 : decode cJ6_bitCount_0f7a4 35 = .ok (.iload_n 0, 1) := by decide +kernel
theorem dJ6_bitCount_0f7a4_36 : decode cJ6_bitCount_0f7a4 36 = .ok (.bipush 8, 2) := by decide +kernel
theorem dJ6_bitCount_0f7a4_38 : decode cJ6_bitCount_0f7a4 38 = .ok (.iushr, 1) := by decide +kernel
theorem dJ6_bitCount_0f7a4_39 : decode cJ6_bitCount_0f7a4 39 = .ok (.iadd, 1) := by decide +kernel
theorem dJ6_bitCount_0f7a4_40 : decode cJ6_bitCount_0f7a4 40 = .ok (.istore_n 0, 1) := by decide +kernel
theorem dJ6_bitCount_0f7a4_41 : decode cJ6_bitCount_0f7a4 41 = .ok (.iload_n 0, 1) := by decide +kernel
theorem dJ6_bitCount_0f7a4_42 : decode cJ6_bitCount_0f7a4 42 = .ok (.iload_n 0, 1) := by decide +kernel
theorem dJ6_bitCount_0f7a4_43 : decode cJ6_bitCount_0f7a4 43 = .ok (.bipush 16, 2) := by decide +kernel
theorem dJ6_bitCount_0f7a4_45 : decode cJ6_bitCount_0f7a4 45 = .ok (.iushr, 1) := by decide +kernel
theorem dJ6_bitCount_0f7a4_46 : decode cJ6_bitCount_0f7a4 46 = .ok (.iadd, 1) := by decide +kernel
theorem dJ6_bitCount_0f7a4_47 : decode cJ6_bitCount_0f7a4 47 = .ok (.istore_n 0, 1) := by decide +kernel
theorem dJ6_bitCount_0f7a4_48 : decode cJ6_bitCount_0f7a4 48 = .ok (.iload_n 0, 1) := by decide +kernel
theorem dJ6_bitCount_0f7a4_49 : decode cJ6_bitCount_0f7a4 49 = .ok (.bipush 63, 2) := by decide +kernel
theorem dJ6_bitCount_0f7a4_51 : decode cJ6_bitCount_0f7a4 51 = .ok (.iand, 1) := by decide +kernel
theorem dJ6_bitCount_0f7a4_52 : decode cJ6_bitCount_0f7a4 52 = .ok (.ireturn, 1) := by decide +kernel
theorem dJ9_abs_0f7a4_0 : decode cJ9_abs_0f7a4 0 = .ok (.iload_n 0, 1) := by decide +kernel
theorem dJ9_abs_0f7a4_1 : decode cJ9_abs_0f7a4 1 = .ok (.ifCond .ge 8, 3) := by decide +kernel
theorem dJ9_abs_0f7a4_4 : decode cJ9_abs_0f7a4 4 = .ok (.iload_n 0, 1) := by decide +kernel
theorem dJ9_abs_0f7a4_5 : decode cJ9_abs_0f7a4 5 = .ok (.ineg, 1) := by decide +kernel
theorem dJ9_abs_0f7a4_6 : decode cJ9_abs_0f7a4 6 = .ok (.goto 4, 3) := by decide +kernel
theorem dJ9_abs_0f7a4_9 : decode cJ9_abs_0f7a4 9 = .ok (.iload_n 0, 1) := by decide +kernel
theorem dJ9_abs_0f7a4_10 : decode cJ9_abs_0f7a4 10 = .ok (.ireturn, 1) := by decide +kernel
theorem dJ9_abs_067f4_0 : decode cJ9_abs_067f4 0 = .ok (.lload_n 0, 1) := by decide +kernel
theorem dJ9_abs_067f4_1 : decode cJ9_abs_067f4 1 = .ok (.lconst 0, 1) := by decide +kernel
theorem dJ9_abs_067f4_2 : decode cJ9_abs_067f4 2 = .ok (.lcmp, 1) := by decide +kernel
theorem dJ9_abs_067f4_3 : decode cJ9_abs_067f4 3 = .ok (.ifCond .ge 8, 3) := by decide +kernel
theorem dJ9_abs_067f4_6 : decode cJ9_abs_067f4 6 = .ok (.lload_n 0, 1) := by decide +kernel
theorem dJ9_abs_067f4_7 : decode cJ9_abs_067f4 7 = .ok (.lneg, 1) := by decide +kernel
theorem dJ9_abs_067f4_8 : decode cJ9_abs_067f4 8 = .ok (.goto 4, 3) := by decide +kernel
theorem dJ9_abs_067f4_11 : decode cJ9_abs_067f4 11 = .ok (.lload_n 0, 1) := by decide +kernel
theorem dJ9_abs_067f4_12 : decode cJ9_abs_067f4 12 = .ok (.lreturn, 1) := by decide +kernel
theorem dJ9_max_7cf53_0 : decode cJ9_max_7cf53 0 = .ok (.iload_n 0, 1) := by decide +kernel
theorem dJ9_max_7cf53_1 : decode cJ9_max_7cf53 1 = .ok (.iload_n 1, 1) := by decide +kernel
theorem dJ9_max_7cf53_2 : decode cJ9_max_7cf53 2 = .ok (.if_icmp .lt 7, 3) := by decide +kernel
theorem dJ9_max_7cf53_5 : decode cJ9_max_7cf53 5 = .ok (.iload_n 0, 1) := by decide +kernel
theorem dJ9_max_7cf53_6 : decode cJ9_max_7cf53 6 = .ok (.goto 4, 3) := by decide +kernel
theorem dJ9_max_7cf53_9 : decode cJ9_max_7cf53 9 = .ok (.iload_n 1, 1) := by decide +kernel
theorem dJ9_max_7cf53_10 : decode cJ9_max_7cf53 10 = .ok (.ireturn, 1) := by decide +kernel
theorem dJ9_max_f86c9_0 : decode cJ9_max_f86c9 0 = .ok (.lload_n 0, 1) := by decide +kernel
theorem dJ9_max_f86c9_1 : decode cJ9_max_f86c9 1 = .ok (.lload_n 2, 1) := by decide +kernel
theorem dJ9_max_f86c9_2 : decode cJ9_max_f86c9 2 = .ok (.lcmp, 1) := by decide +kernel
theorem dJ9_max_f86c9_3 : decode cJ9_max_f86c9 3 = .ok (.ifCond .lt 7, 3) := by decide +kernel
theorem dJ9_max_f86c9_6 : decode cJ9_max_f86c9 6 = .ok (.lload_n 0, 1) := by decide +kernel
theorem dJ9_max_f86c9_7 : decode cJ9_max_f86c9 7 = .ok (.goto 4, 3) := by decide +kernel
theorem dJ9_max_f86c9_10 : decode cJ9_max_f86c9 10 = .ok (.lload_n 2, 1) := by decide +kernel
theorem dJ9_max_f86c9_11 : decode cJ9_max_f86c9 11 = .ok (.lreturn, 1) := by decide +kernel
theorem dJ9_min_7cf53_0 : decode cJ9_min_7cf53 0 = .ok (.iload_n 0, 1) := by decide +kernel
theorem dJ9_min_7cf53_1 : decode cJ9_min_7cf53 1 = .ok (.iload_n 1, 1) := by decide +kernel
theorem dJ9_min_7cf53_2 : decode cJ9_min_7cf53 2 = .ok (.if_icmp .gt 7, 3) := by decide +kernel
theorem dJ9_min_7cf53_5 : decode cJ9_min_7cf53 5 = .ok (.iload_n 0, 1) := by decide +kernel
theorem dJ9_min_7cf53_6 : decode cJ9_min_7cf53 6 = .ok (.goto 4, 3) := by decide +kernel
theorem dJ9_min_7cf53_9 : decode cJ9_min_7cf53 9 = .ok (.iload_n 1, 1) := by decide +kernel
theorem dJ9_min_7cf53_10 : decode cJ9_min_7cf53 10 = .ok (.ireturn, 1) := by decide +kernel
theorem dJ9_min_f86c9_0 : decode cJ9_min_f86c9 0 = .ok (.lload_n 0, 1) := by decide +kernel
theorem dJ9_min_f86c9_1 : decode cJ9_min_f86c9 1 = .ok (.lload_n 2, 1) := by decide +kernel
theorem dJ9_min_f86c9_2 : decode cJ9_min_f86c9 2 = .ok (.lcmp, 1) := by decide +kernel
theorem dJ9_min_f86c9_3 : decode cJ9_min_f86c9 3 = .ok (.ifCond .gt 7, 3) := by decide +kernel
theorem dJ9_min_f86c9_6 : decode cJ9_min_f86c9 6 = .ok (.lload_n 0, 1) := by decide +kernel
theorem dJ9_min_f86c9_7 : decode cJ9_min_f86c9 7 = .ok (.goto 4, 3) := by decide +kernel
theorem dJ9_min_f86c9_10 : decode cJ9_min_f86c9 10 = .ok (.lload_n 2, 1) := by decide +kernel
theorem dJ9_min_f86c9_11 : decode cJ9_min_f86c9 11 = .ok (.lreturn, 1) := by decide +kernel
theorem dJ0_length_8abf5_0 : decode cJ0_length_8abf5 0 = .ok (.aload_n 0, 1) := by decide +kernel
theorem dJ0_length_8abf5_1 : decode cJ0_length_8abf5 1 = .ok (.getfield 9, 3) := by decide +kernel
theorem dJ0_length_8abf5_4 : decode cJ0_length_8abf5 4 = .ok (.arraylength, 1) := by decide +kernel
theorem dJ0_length_8abf5_5 : decode cJ0_length_8abf5 5 = .ok (.aload_n 0, 1) := by decide +kernel
theorem dJ0_length_8abf5_6 : decode cJ0_length_8abf5 6 = .ok (.invokevirtual 335, 3) := by decide +kernel
theorem dJ0_length_8abf5_9 : decode cJ0_length_8abf5 9 = .ok (.ishr, 1) := by decide +kernel
theorem dJ0_length_8abf5_10 : decode cJ0_length_8abf5 10 = .ok (.ireturn, 1) := by decide +kernel
theorem dJ0_charAt_5068e_0 : decode cJ0_charAt_5068e 0 = .ok (.aload_n 0, 1) := by decide +kernel
theorem dJ0_charAt_5068e_1 : decode cJ0_charAt_5068e 1 = .ok (.invokevirtual 492, 3) := by decide +kernel
theorem dJ0_charAt_5068e_4 : decode cJ0_charAt_5068e 4 = .ok (.ifCond .eq 12, 3) := by decide +kernel
theorem dJ0_charAt_5068e_7 : decode cJ0_charAt_5068e 7 = .ok (.aload_n 0, 1) := by decide +kernel
theorem dJ0_charAt_5068e_8 : decode cJ0_charAt_5068e 8 = .ok (.getfield 9, 3) := by decide +kernel
theorem dJ0_charAt_5068e_11 : decode cJ0_charAt_5068e 11 = .ok (.iload_n 1, 1) := by decide +kernel
theorem dJ0_charAt_5068e_12 : decode cJ0_charAt_5068e 12 = .ok (.invokestatic 495, 3) := by decide +kernel
theorem dJ0_charAt_5068e_15 : decode cJ0_charAt_5068e 15 = .ok (.ireturn, 1) := by decide +kernel
theorem dJ0_charAt_5068e_16 : decode cJ0_charAt_5068e 16 = .ok (.aload_n 0, 1) := by decide +kernel
theorem dJ0_charAt_5068e_17 : decode cJ0_charAt_5068e 17 = .ok (.getfield 9, 3) := by decide +kernel
theorem dJ0_charAt_5068e_20 : decode cJ0_charAt_5068e 20 = .ok (.iload_n 1, 1) := by decide +kernel
theorem dJ0_charAt_5068e_21 : decode cJ0_charAt_5068e 21 = .ok (.invokestatic 498, 3) := by decide +kernel
theorem dJ0_charAt_5068e_24 : decode cJ0_charAt_5068e 24 = .ok (.ireturn, 1) := by decide +kernel
theorem dJ0_coder_7d493_0 : decode cJ0_coder_7d493 0 = .ok (.getstatic 38, 3) := by decide +kernel
theorem dJ0_coder_7d493_3 : decode cJ0_coder_7d493 3 = .ok (.ifCond .eq 10, 3) := by decide +kernel
theorem dJ0_coder_7d493_6 : decode cJ0_coder_7d493 6 = .ok (.aload_n 0, 1) := by decide +kernel
theorem dJ0_coder_7d493_7 : decode cJ0_coder_7d493 7 = .ok (.getfield 15, 3) := by decide +kernel
theorem dJ0_coder_7d493_10 : decode cJ0_coder_7d493 10 = .ok (.goto 4, 3) := by decide +kernel
theorem dJ0_coder_7d493_13 : decode cJ0_coder_7d493 13 = .ok (.iconst 1, 1) := by decide +kernel
theorem dJ0_coder_7d493_14 : decode cJ0_coder_7d493 14 = .ok (.ireturn, 1) := by decide +kernel
theorem dJ0_isLatin1_aae02_0 : decode cJ0_isLatin1_aae02 0 = .ok (.getstatic 38, 3) := by decide +kernel
theorem dJ0_isLatin1_aae02_3 : decode cJ0_isLatin1_aae02 3 = .ok (.ifCond .eq 14, 3) := by decide +kernel
theorem dJ0_isLatin1_aae02_6 : decode cJ0_isLatin1_aae02 6 = .ok (.aload_n 0, 1) := by decide +kernel
theorem dJ0_isLatin1_aae02_7 : decode cJ0_isLatin1_aae02 7 = .ok (.getfield 15, 3) := by decide +kernel
theorem dJ0_isLatin1_aae02_10 : decode cJ0_isLatin1_aae02 10 = .ok (.ifCond .ne 7, 3) := by decide +kernel
theorem dJ0_isLatin1_aae02_13 : decode cJ0_isLatin1_aae02 13 = .ok (.iconst 1, 1) := by decide +kernel
theorem dJ0_isLatin1_aae02_14 : decode cJ0_isLatin1_aae02 14 = .ok (.goto 4, 3) := by decide +kernel
theorem dJ0_isLatin1_aae02_17 : decode cJ0_isLatin1_aae02 17 = .ok (.iconst 0, 1) := by decide +kernel
theorem dJ0_isLatin1_aae02_18 : decode cJ0_isLatin1_aae02 18 = .ok (.ireturn, 1) := by decide +kernel
theorem dJ0_checkIndex_df160_0 : decode cJ0_checkIndex_df160 0 = .ok (.iload_n 0, 1) := by decide +kernel
theorem dJ0_checkIndex_df160_1 : decode cJ0_checkIndex_df160 1 = .ok (.iload_n 1, 1) := by decide +kernel
theorem dJ0_checkIndex_df160_2 : decode cJ0_checkIndex_df160 2 = .ok (.getstatic 1053, 3) := by decide +kernel
theorem dJ0_checkIndex_df160_5 : decode cJ0_checkIndex_df160 5 = .ok (.invokestatic 1059, 3) := by decide +kernel
theorem dJ0_checkIndex_df160_8 : decode cJ0_checkIndex_df160 8 = .ok (.pop, 1) := by decide +kernel
theorem dJ0_checkIndex_df160_9 : decode cJ0_checkIndex_df160 9 = .ok (.return_, 1) := by decide +kernel
theorem dJ1_charAt_3b067_0 : decode cJ1_charAt_3b067 0 = .ok (.iload_n 1, 1) := by decide +kernel
theorem dJ1_charAt_3b067_1 : decode cJ1_charAt_3b067 1 = .ok (.aload_n 0, 1) := by decide +kernel
theorem dJ1_charAt_3b067_2 : decode cJ1_charAt_3b067 2 = .ok (.arraylength, 1) := by decide +kernel
theorem dJ1_charAt_3b067_3 : decode cJ1_charAt_3b067 3 = .ok (.invokestatic 9, 3) := by decide +kernel
theorem dJ1_charAt_3b067_6 : decode cJ1_charAt_3b067 6 = .ok (.aload_n 0, 1) := by decide +kernel
theorem dJ1_charAt_3b067_7 : decode cJ1_charAt_3b067 7 = .ok (.iload_n 1, 1) := by decide +kernel
theorem dJ1_charAt_3b067_8 : decode cJ1_charAt_3b067 8 = .ok (.baload, 1) := by decide +kernel
theorem dJ1_charAt_3b067_9 : decode cJ1_charAt_3b067 9 = .ok (.sipush 255, 3) := by decide +kernel
theorem dJ1_charAt_3b067_12 : decode cJ1_charAt_3b067 12 = .ok (.iand, 1) := by decide +kernel
theorem dJ1_charAt_3b067_13 : decode cJ1_charAt_3b067 13 = .ok (.i2c, 1) := by decide +kernel
theorem dJ1_charAt_3b067_14 : decode cJ1_charAt_3b067 14 = .ok (.ireturn, 1) := by decide +kernel
theorem dJ2_getChar_3b067_0 : decode cJ2_getChar_3b067 0 = .ok (.getstatic 44, 3) := by decide +kernel
theorem dJ2_getChar_3b067_3 : decode cJ2_getChar_3b067 3 = .ok (.ifCond .ne 25, 3) := by decide +kernel
theorem dJ2_getChar_3b067_6 : decode cJ2_getChar_3b067 6 = .ok (.iload_n 1, 1) := by decide +kernel
theorem dJ2_getChar_3b067_7 : decode cJ2_getChar_3b067 7 = .ok (.ifCond .lt 11, 3) := by decide +kernel
theorem dJ2_getChar_3b067_10 : decode cJ2_getChar_3b067 10 = .ok (.iload_n 1, 1) := by decide +kernel
theorem dJ2_getChar_3b067_11 : decode cJ2_getChar_3b067 11 = .ok (.aload_n 0, 1) := by decide +kernel
theorem dJ2_getChar_3b067_12 : decode cJ2_getChar_3b067 12 = .ok (.invokestatic 48, 3) := by decide +kernel
theorem dJ2_getChar_3b067_15 : decode cJ2_getChar_3b067 15 = .ok (.if_icmp .lt 13, 3) := by decide +kernel
theorem dJ2_getChar_3b067_18 : decode cJ2_getChar_3b067 18 = .ok (.new 52, 3) := by decide +kernel
theorem dJ2_getChar_3b067_21 : decode cJ2_getChar_3b067 21 = .ok (.dup, 1) := by decide +kernel
theorem dJ2_getChar_3b067_22 : decode cJ2_getChar_3b067 22 = .ok (.ldc 54, 2) := by decide +kernel
theorem dJ2_getChar_3b067_24 : decode cJ2_getChar_3b067 24 = .ok (.invokespecial 56, 3) := by decide +kernel
theorem dJ2_getChar_3b067_27 : decode cJ2_getChar_3b067 27 = .ok (.athrow, 1) := by decide +kernel
theorem dJ2_getChar_3b067_28 : decode cJ2_getChar_3b067 28 = .ok (.iload_n 1, 1) := by decide +kernel
theorem dJ2_getChar_3b067_29 : decode cJ2_getChar_3b067 29 = .ok (.iconst 1, 1) := by decide +kernel
theorem dJ2_getChar_3b067_30 : decode cJ2_getChar_3b067 30 = .ok (.ishl, 1) := by decide +kernel
theorem dJ2_getChar_3b067_31 : decode cJ2_getChar_3b067 31 = .ok (.istore_n 1, 1) := by decide +kernel
theorem dJ2_getChar_3b067_32 : decode cJ2_getChar_3b067 32 = .ok (.aload_n 0, 1) := by decide +kernel
theorem dJ2_getChar_3b067_33 : decode cJ2_getChar_3b067 33 = .ok (.iload_n 1, 1) := by decide +kernel
theorem dJ2_getChar_3b067_34 : decode cJ2_getChar_3b067 34 = .ok (.iinc 1 1, 3) := by decide +kernel
theorem dJ2_getChar_3b067_37 : decode cJ2_getChar_3b067 37 = .ok (.baload, 1) := by decide +kernel
theorem dJ2_getChar_3b067_38 : decode cJ2_getChar_3b067 38 = .ok (.sipush 255, 3) := by decide +kernel
theorem dJ2_getChar_3b067_41 : decode cJ2_getChar_3b067 41 = .ok (.iand, 1) := by decide +kernel
theorem dJ2_getChar_3b067_42 : decode cJ2_getChar_3b067 42 = .ok (.getstatic 59, 3) := by decide +kernel
theorem dJ2_getChar_3b067_45 : decode cJ2_getChar_3b067 45 = .ok (.ishl, 1) := by decide +kernel
theorem dJ2_getChar_3b067_46 : decode cJ2_getChar_3b067 46 = .ok (.aload_n 0, 1) := by decide +kernel
theorem dJ2_getChar_3b067_47 : decode cJ2_getChar_3b067 47 = .ok (.iload_n 1, 1) := by decide +kernel
theorem dJ2_getChar_3b067_48 : decode cJ2_getChar_3b067 48 = .ok (.baload, 1) := by decide +kernel
theorem dJ2_getChar_3b067_49 : decode cJ2_getChar_3b067 49 = .ok (.sipush 255, 3) := by decide +kernel
theorem dJ2_getChar_3b067_52 : decode cJ2_getChar_3b067 52 = .ok (.iand, 1) := by decide +kernel
theorem dJ2_getChar_3b067_53 : decode cJ2_getChar_3b067 53 = .ok (.getstatic 63, 3) := by decide +kernel
theorem dJ2_getChar_3b067_56 : decode cJ2_getChar_3b067 56 = .ok (.ishl, 1) := by decide +kernel
theorem dJ2_getChar_3b067_57 : decode cJ2_getChar_3b067 57 = .ok (.ior, 1) := by decide +kernel
theorem dJ2_getChar_3b067_58 : decode cJ2_getChar_3b067 58 = .ok (.i2c, 1) := by decide +kernel
theorem dJ2_getChar_3b067_59 : decode cJ2_getChar_3b067 59 = .ok (.ireturn, 1) := by decide +kernel
theorem dJ2_length_9d52b_0 : decode cJ2_length_9d52b 0 = .ok (.aload_n 0, 1) := by decide +kernel
theorem dJ2_length_9d52b_1 : decode cJ2_length_9d52b 1 = .ok (.arraylength, 1) := by decide +kernel
theorem dJ2_length_9d52b_2 : decode cJ2_length_9d52b 2 = .ok (.iconst 1, 1) := by decide +kernel
theorem dJ2_length_9d52b_3 : decode cJ2_length_9d52b 3 = .ok (.ishr, 1) := by decide +kernel
theorem dJ2_length_9d52b_4 : decode cJ2_length_9d52b 4 = .ok (.ireturn, 1) := by decide +kernel
theorem dJ2_charAt_3b067_0 : decode cJ2_charAt_3b067 0 = .ok (.iload_n 1, 1) := by decide +kernel
theorem dJ2_charAt_3b067_1 : decode cJ2_charAt_3b067 1 = .ok (.aload_n 0, 1) := by decide +kernel
theorem dJ2_charAt_3b067_2 : decode cJ2_charAt_3b067 2 = .ok (.invokestatic 67, 3) := by decide +kernel
theorem dJ2_charAt_3b067_5 : decode cJ2_charAt_3b067 5 = .ok (.aload_n 0, 1) := by decide +kernel
theorem dJ2_charAt_3b067_6 : decode cJ2_charAt_3b067 6 = .ok (.iload_n 1, 1) := by decide +kernel
theorem dJ2_charAt_3b067_7 : decode cJ2_charAt_3b067 7 = .ok (.invokestatic 71, 3) := by decide +kernel
theorem dJ2_charAt_3b067_10 : decode cJ2_charAt_3b067 10 = .ok (.ireturn, 1) := by decide +kernel
theorem dJ2_checkIndex_2214a_0 : decode cJ2_checkIndex_2214a 0 = .ok (.iload_n 0, 1) := by decide +kernel
theorem dJ2_checkIndex_2214a_1 : decode cJ2_checkIndex_2214a 1 = .ok (.aload_n 1, 1) := by decide +kernel
theorem dJ2_checkIndex_2214a_2 : decode cJ2_checkIndex_2214a 2 = .ok (.invokestatic 48, 3) := by decide +kernel
theorem dJ2_checkIndex_2214a_5 : decode cJ2_checkIndex_2214a 5 = .ok (.invokestatic 414, 3) := by decide +kernel
theorem dJ2_checkIndex_2214a_8 : decode cJ2_checkIndex_2214a 8 = .ok (.return_, 1) := by decide +kernel
theorem dJ3_checkIndex_8e157_0 : decode cJ3_checkIndex_8e157 0 = .ok (.iload_n 0, 1) := by decide +kernel
theorem dJ3_checkIndex_8e157_1 : decode cJ3_checkIndex_8e157 1 = .ok (.ifCond .lt 8, 3) := by decide +kernel
theorem dJ3_checkIndex_8e157_4 : decode cJ3_checkIndex_8e157 4 = .ok (.iload_n 0, 1) := by decide +kernel
theorem dJ3_checkIndex_8e157_5 : decode cJ3_checkIndex_8e157 5 = .ok (.iload_n 1, 1) := by decide +kernel
theorem dJ3_checkIndex_8e157_6 : decode cJ3_checkIndex_8e157 6 = .ok (.if_icmp .lt 10, 3) := by decide +kernel
theorem dJ3_checkIndex_8e157_9 : decode cJ3_checkIndex_8e157 9 = .ok (.aload_n 2, 1) := by decide +kernel
theorem dJ3_checkIndex_8e157_10 : decode cJ3_checkIndex_8e157 10 = .ok (.iload_n 0, 1) := by decide +kernel
theorem dJ3_checkIndex_8e157_11 : decode cJ3_checkIndex_8e157 11 = .ok (.iload_n 1, 1) := by decide +kernel
theorem dJ3_checkIndex_8e157_12 : decode cJ3_checkIndex_8e157 12 = .ok (.invokestatic 95, 3) := by decide +kernel
theorem dJ3_checkIndex_8e157_15 : decode cJ3_checkIndex_8e157 15 = .ok (.athrow, 1) := by decide +kernel
theorem dJ3_checkIndex_8e157_16 : decode cJ3_checkIndex_8e157 16 = .ok (.iload_n 0, 1) := by decide +kernel
theorem dJ3_checkIndex_8e157_17 : decode cJ3_checkIndex_8e157 17 = .ok (.ireturn, 1) := by decide +kernel
