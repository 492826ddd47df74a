theorem dM_init_0 : decode bM_init 0 = .ok (.aload_n 0, 1) := by decide +kernel
theorem dM_init_1 : decode bM_init 1 = .ok (.invokespecial 1, 3) := by decide +kernel
theorem dM_init_4 : decode bM_init 4 = .ok (.aload_n 0, 1) := by decide +kernel
theorem dM_init_5 : decode bM_init 5 = .ok (.bipush 32, 2) := by decide +kernel
theorem dM_init_7 : decode bM_init 7 = .ok (.newarray .int, 2) := by decide +kernel
theorem dM_init_9 : decode bM_init 9 = .ok (.putfield 7, 3) := by decide +kernel
theorem dM_init_12 : decode bM_init 12 = .ok (.aload_n 0, 1) := by decide +kernel
theorem dM_init_13 : decode bM_init 13 = .ok (.bipush 32, 2) := by decide +kernel
theorem dM_init_15 : decode bM_init 15 = .ok (.newarray .long, 2) := by decide +kernel
theorem dM_init_17 : decode bM_init 17 = .ok (.putfield 13, 3) := by decide +kernel
theorem dM_init_20 : decode bM_init 20 = .ok (.aload_n 0, 1) := by decide +kernel
theorem dM_init_21 : decode bM_init 21 = .ok (.bipush 32, 2) := by decide +kernel
theorem dM_init_23 : decode bM_init 23 = .ok (.newarray .int, 2) := by decide +kernel
theorem dM_init_25 : decode bM_init 25 = .ok (.putfield 17, 3) := by decide +kernel
theorem dM_init_28 : decode bM_init 28 = .ok (.iconst 0, 1) := by decide +kernel
theorem dM_init_29 : decode bM_init 29 = .ok (.istore_n 1, 1) := by decide +kernel
theorem dM_init_30 : decode bM_init 30 = .ok (.iload_n 1, 1) := by decide +kernel
theorem dM_init_31 : decode bM_init 31 = .ok (.bipush 32, 2) := by decide +kernel
theorem dM_init_33 : decode bM_init 33 = .ok (.if_icmp .ge 16, 3) := by decide +kernel
theorem dM_init_36 : decode bM_init 36 = .ok (.aload_n 0, 1) := by decide +kernel
theorem dM_init_37 : decode bM_init 37 = .ok (.getfield 7, 3) := by decide +kernel
theorem dM_init_40 : decode bM_init 40 = .ok (.iload_n 1, 1) := by decide +kernel
theorem dM_init_41 : decode bM_init 41 = .ok (.iconst 1, 1) := by decide +kernel
theorem dM_init_42 : decode bM_init 42 = .ok (.iastore, 1) := by decide +kernel
theorem dM_init_43 : decode bM_init 43 = .ok (.iinc 1 1, 3) := by decide +kernel
theorem dM_init_46 : decode bM_init 46 = .ok (.goto (-16), 3) := by decide +kernel
theorem dM_init_49 : decode bM_init 49 = .ok (.return_, 1) := by decide +kernel
theorem dM_whole_0 : decode bM_whole 0 = .ok (.iload_n 1, 1) := by decide +kernel
theorem dM_whole_1 : decode bM_whole 1 = .ok (.invokestatic 204, 3) := by decide +kernel
theorem dM_whole_4 : decode bM_whole 4 = .ok (.ifCond .ne 5, 3) := by decide +kernel
theorem dM_whole_7 : decode bM_whole 7 = .ok (.iconst 0, 1) := by decide +kernel
theorem dM_whole_8 : decode bM_whole 8 = .ok (.ireturn, 1) := by decide +kernel
theorem dM_whole_9 : decode bM_whole 9 = .ok (.aload_n 0, 1) := by decide +kernel
theorem dM_whole_10 : decode bM_whole 10 = .ok (.lload_n 2, 1) := by decide +kernel
theorem dM_whole_11 : decode bM_whole 11 = .ok (.invokevirtual 134, 3) := by decide +kernel
theorem dM_whole_14 : decode bM_whole 14 = .ok (.aload_n 0, 1) := by decide +kernel
theorem dM_whole_15 : decode bM_whole 15 = .ok (.iload_n 1, 1) := by decide +kernel
theorem dM_whole_16 : decode bM_whole 16 = .ok (.invokevirtual 207, 3) := by decide +kernel
theorem dM_whole_19 : decode bM_whole 19 = .ok (.iconst 1, 1) := by decide +kernel
theorem dM_whole_20 : decode bM_whole 20 = .ok (.ireturn, 1) := by decide +kernel
theorem dM_isRegister_0 : decode bM_isRegister 0 = .ok (.iload_n 0, 1) := by decide +kernel
theorem dM_isRegister_1 : decode bM_isRegister 1 = .ok (.ifCond .lt 13, 3) := by decide +kernel
theorem dM_isRegister_4 : decode bM_isRegister 4 = .ok (.iload_n 0, 1) := by decide +kernel
theorem dM_isRegister_5 : decode bM_isRegister 5 = .ok (.bipush 32, 2) := by decide +kernel
theorem dM_isRegister_7 : decode bM_isRegister 7 = .ok (.if_icmp .ge 7, 3) := by decide +kernel
theorem dM_isRegister_10 : decode bM_isRegister 10 = .ok (.iconst 1, 1) := by decide +kernel
theorem dM_isRegister_11 : decode bM_isRegister 11 = .ok (.goto 4, 3) := by decide +kernel
theorem dM_isRegister_14 : decode bM_isRegister 14 = .ok (.iconst 0, 1) := by decide +kernel
theorem dM_isRegister_15 : decode bM_isRegister 15 = .ok (.ireturn, 1) := by decide +kernel
theorem dM_setWhole_0 : decode bM_setWhole 0 = .ok (.aload_n 0, 1) := by decide +kernel
theorem dM_setWhole_1 : decode bM_setWhole 1 = .ok (.iconst 1, 1) := by decide +kernel
theorem dM_setWhole_2 : decode bM_setWhole 2 = .ok (.putfield 20, 3) := by decide +kernel
theorem dM_setWhole_5 : decode bM_setWhole 5 = .ok (.aload_n 0, 1) := by decide +kernel
theorem dM_setWhole_6 : decode bM_setWhole 6 = .ok (.lload_n 1, 1) := by decide +kernel
theorem dM_setWhole_7 : decode bM_setWhole 7 = .ok (.putfield 24, 3) := by decide +kernel
theorem dM_setWhole_10 : decode bM_setWhole 10 = .ok (.aload_n 0, 1) := by decide +kernel
theorem dM_setWhole_11 : decode bM_setWhole 11 = .ok (.iconst 0, 1) := by decide +kernel
theorem dM_setWhole_12 : decode bM_setWhole 12 = .ok (.putfield 28, 3) := by decide +kernel
theorem dM_setWhole_15 : decode bM_setWhole 15 = .ok (.return_, 1) := by decide +kernel
theorem dM_put_0 : decode bM_put 0 = .ok (.aload_n 0, 1) := by decide +kernel
theorem dM_put_1 : decode bM_put 1 = .ok (.getfield 7, 3) := by decide +kernel
theorem dM_put_4 : decode bM_put 4 = .ok (.iload_n 1, 1) := by decide +kernel
theorem dM_put_5 : decode bM_put 5 = .ok (.aload_n 0, 1) := by decide +kernel
theorem dM_put_6 : decode bM_put 6 = .ok (.getfield 20, 3) := by decide +kernel
theorem dM_put_9 : decode bM_put 9 = .ok (.iastore, 1) := by decide +kernel
theorem dM_put_10 : decode bM_put 10 = .ok (.aload_n 0, 1) := by decide +kernel
theorem dM_put_11 : decode bM_put 11 = .ok (.getfield 13, 3) := by decide +kernel
theorem dM_put_14 : decode bM_put 14 = .ok (.iload_n 1, 1) := by decide +kernel
theorem dM_put_15 : decode bM_put 15 = .ok (.aload_n 0, 1) := by decide +kernel
theorem dM_put_16 : decode bM_put 16 = .ok (.getfield 24, 3) := by decide +kernel
theorem dM_put_19 : decode bM_put 19 = .ok (.lastore, 1) := by decide +kernel
theorem dM_put_20 : decode bM_put 20 = .ok (.aload_n 0, 1) := by decide +kernel
theorem dM_put_21 : decode bM_put 21 = .ok (.getfield 17, 3) := by decide +kernel
theorem dM_put_24 : decode bM_put 24 = .ok (.iload_n 1, 1) := by decide +kernel
theorem dM_put_25 : decode bM_put 25 = .ok (.aload_n 0, 1) := by decide +kernel
theorem dM_put_26 : decode bM_put 26 = .ok (.getfield 28, 3) := by decide +kernel
theorem dM_put_29 : decode bM_put 29 = .ok (.iastore, 1) := by decide +kernel
theorem dM_put_30 : decode bM_put 30 = .ok (.return_, 1) := by decide +kernel
theorem dM_real_0 : decode bM_real 0 = .ok (.iload_n 1, 1) := by decide +kernel
theorem dM_real_1 : decode bM_real 1 = .ok (.invokestatic 204, 3) := by decide +kernel
theorem dM_real_4 : decode bM_real 4 = .ok (.ifCond .eq 19, 3) := by decide +kernel
theorem dM_real_7 : decode bM_real 7 = .ok (.iload 4, 2) := by decide +kernel
theorem dM_real_9 : decode bM_real 9 = .ok (.sipush (-1200), 3) := by decide +kernel
theorem dM_real_12 : decode bM_real 12 = .ok (.if_icmp .lt 11, 3) := by decide +kernel
theorem dM_real_15 : decode bM_real 15 = .ok (.iload 4, 2) := by decide +kernel
theorem dM_real_17 : decode bM_real 17 = .ok (.sipush 1200, 3) := by decide +kernel
theorem dM_real_20 : decode bM_real 20 = .ok (.if_icmp .le 5, 3) := by decide +kernel
theorem dM_real_23 : decode bM_real 23 = .ok (.iconst 0, 1) := by decide +kernel
theorem dM_real_24 : decode bM_real 24 = .ok (.ireturn, 1) := by decide +kernel
theorem dM_real_25 : decode bM_real 25 = .ok (.aload_n 0, 1) := by decide +kernel
theorem dM_real_26 : decode bM_real 26 = .ok (.lload_n 2, 1) := by decide +kernel
theorem dM_real_27 : decode bM_real 27 = .ok (.iconst 0, 1) := by decide +kernel
theorem dM_real_28 : decode bM_real 28 = .ok (.invokevirtual 69, 3) := by decide +kernel
theorem dM_real_31 : decode bM_real 31 = .ok (.aload_n 0, 1) := by decide +kernel
theorem dM_real_32 : decode bM_real 32 = .ok (.aload_n 0, 1) := by decide +kernel
theorem dM_real_33 : decode bM_real 33 = .ok (.getfield 24, 3) := by decide +kernel
theorem dM_real_36 : decode bM_real 36 = .ok (.invokestatic 47, 3) := by decide +kernel
theorem dM_real_39 : decode bM_real 39 = .ok (.aload_n 0, 1) := by decide +kernel
theorem dM_real_40 : decode bM_real 40 = .ok (.getfield 28, 3) := by decide +kernel
theorem dM_real_43 : decode bM_real 43 = .ok (.iload 4, 2) := by decide +kernel
theorem dM_real_45 : decode bM_real 45 = .ok (.iadd, 1) := by decide +kernel
theorem dM_real_46 : decode bM_real 46 = .ok (.aload_n 0, 1) := by decide +kernel
theorem dM_real_47 : decode bM_real 47 = .ok (.getfield 24, 3) := by decide +kernel
theorem dM_real_50 : decode bM_real 50 = .ok (.lconst 0, 1) := by decide +kernel
theorem dM_real_51 : decode bM_real 51 = .ok (.lcmp, 1) := by decide +kernel
theorem dM_real_52 : decode bM_real 52 = .ok (.ifCond .ge 7, 3) := by decide +kernel
theorem dM_real_55 : decode bM_real 55 = .ok (.iconst 1, 1) := by decide +kernel
theorem dM_real_56 : decode bM_real 56 = .ok (.goto 4, 3) := by decide +kernel
theorem dM_real_59 : decode bM_real 59 = .ok (.iconst 0, 1) := by decide +kernel
theorem dM_real_60 : decode bM_real 60 = .ok (.invokevirtual 43, 3) := by decide +kernel
theorem dM_real_63 : decode bM_real 63 = .ok (.aload_n 0, 1) := by decide +kernel
theorem dM_real_64 : decode bM_real 64 = .ok (.iload_n 1, 1) := by decide +kernel
theorem dM_real_65 : decode bM_real 65 = .ok (.invokevirtual 207, 3) := by decide +kernel
theorem dM_real_68 : decode bM_real 68 = .ok (.iconst 1, 1) := by decide +kernel
theorem dM_real_69 : decode bM_real 69 = .ok (.ireturn, 1) := by decide +kernel
theorem dM_nearestOf_0 : decode bM_nearestOf 0 = .ok (.lload_n 1, 1) := by decide +kernel
theorem dM_nearestOf_1 : decode bM_nearestOf 1 = .ok (.ldc2_w 41, 3) := by decide +kernel
theorem dM_nearestOf_4 : decode bM_nearestOf 4 = .ok (.lcmp, 1) := by decide +kernel
theorem dM_nearestOf_5 : decode bM_nearestOf 5 = .ok (.ifCond .ne 14, 3) := by decide +kernel
theorem dM_nearestOf_8 : decode bM_nearestOf 8 = .ok (.aload_n 0, 1) := by decide +kernel
theorem dM_nearestOf_9 : decode bM_nearestOf 9 = .ok (.lconst 1, 1) := by decide +kernel
theorem dM_nearestOf_10 : decode bM_nearestOf 10 = .ok (.iload_n 3, 1) := by decide +kernel
theorem dM_nearestOf_11 : decode bM_nearestOf 11 = .ok (.bipush 63, 2) := by decide +kernel
theorem dM_nearestOf_13 : decode bM_nearestOf 13 = .ok (.iadd, 1) := by decide +kernel
theorem dM_nearestOf_14 : decode bM_nearestOf 14 = .ok (.iconst 1, 1) := by decide +kernel
theorem dM_nearestOf_15 : decode bM_nearestOf 15 = .ok (.invokevirtual 43, 3) := by decide +kernel
theorem dM_nearestOf_18 : decode bM_nearestOf 18 = .ok (.return_, 1) := by decide +kernel
theorem dM_nearestOf_19 : decode bM_nearestOf 19 = .ok (.lload_n 1, 1) := by decide +kernel
theorem dM_nearestOf_20 : decode bM_nearestOf 20 = .ok (.invokestatic 47, 3) := by decide +kernel
theorem dM_nearestOf_23 : decode bM_nearestOf 23 = .ok (.lstore 4, 2) := by decide +kernel
theorem dM_nearestOf_25 : decode bM_nearestOf 25 = .ok (.lload 4, 2) := by decide +kernel
theorem dM_nearestOf_27 : decode bM_nearestOf 27 = .ok (.bipush 62, 2) := by decide +kernel
theorem dM_nearestOf_29 : decode bM_nearestOf 29 = .ok (.lshr, 1) := by decide +kernel
theorem dM_nearestOf_30 : decode bM_nearestOf 30 = .ok (.lconst 0, 1) := by decide +kernel
theorem dM_nearestOf_31 : decode bM_nearestOf 31 = .ok (.lcmp, 1) := by decide +kernel
theorem dM_nearestOf_32 : decode bM_nearestOf 32 = .ok (.ifCond .eq 33, 3) := by decide +kernel
theorem dM_nearestOf_35 : decode bM_nearestOf 35 = .ok (.aload_n 0, 1) := by decide +kernel
theorem dM_nearestOf_36 : decode bM_nearestOf 36 = .ok (.lload 4, 2) := by decide +kernel
theorem dM_nearestOf_38 : decode bM_nearestOf 38 = .ok (.iconst 1, 1) := by decide +kernel
theorem dM_nearestOf_39 : decode bM_nearestOf 39 = .ok (.lshr, 1) := by decide +kernel
theorem dM_nearestOf_40 : decode bM_nearestOf 40 = .ok (.lload 4, 2) := by decide +kernel
theorem dM_nearestOf_42 : decode bM_nearestOf 42 = .ok (.lconst 1, 1) := by decide +kernel
theorem dM_nearestOf_43 : decode bM_nearestOf 43 = .ok (.land, 1) := by decide +kernel
theorem dM_nearestOf_44 : decode bM_nearestOf 44 = .ok (.lor, 1) := by decide +kernel
theorem dM_nearestOf_45 : decode bM_nearestOf 45 = .ok (.iload_n 3, 1) := by decide +kernel
theorem dM_nearestOf_46 : decode bM_nearestOf 46 = .ok (.iconst 1, 1) := by decide +kernel
theorem dM_nearestOf_47 : decode bM_nearestOf 47 = .ok (.iadd, 1) := by decide +kernel
theorem dM_nearestOf_48 : decode bM_nearestOf 48 = .ok (.lload_n 1, 1) := by decide +kernel
theorem dM_nearestOf_49 : decode bM_nearestOf 49 = .ok (.lconst 0, 1) := by decide +kernel
theorem dM_nearestOf_50 : decode bM_nearestOf 50 = .ok (.lcmp, 1) := by decide +kernel
theorem dM_nearestOf_51 : decode bM_nearestOf 51 = .ok (.ifCond .ge 7, 3) := by decide +kernel
theorem dM_nearestOf_54 : decode bM_nearestOf 54 = .ok (.iconst 1, 1) := by decide +kernel
theorem dM_nearestOf_55 : decode bM_nearestOf 55 = .ok (.goto 4, 3) := by decide +kernel
theorem dM_nearestOf_58 : decode bM_nearestOf 58 = .ok (.iconst 0, 1) := by decide +kernel
theorem dM_nearestOf_59 : decode bM_nearestOf 59 = .ok (.invokevirtual 43, 3) := by decide +kernel
theorem dM_nearestOf_62 : decode bM_nearestOf 62 = .ok (.goto 21, 3) := by decide +kernel
theorem dM_nearestOf_65 : decode bM_nearestOf 65 = .ok (.aload_n 0, 1) := by decide +kernel
theorem dM_nearestOf_66 : decode bM_nearestOf 66 = .ok (.lload 4, 2) := by decide +kernel
theorem dM_nearestOf_68 : decode bM_nearestOf 68 = .ok (.iload_n 3, 1) := by decide +kernel
theorem dM_nearestOf_69 : decode bM_nearestOf 69 = .ok (.lload_n 1, 1) := by decide +kernel
theorem dM_nearestOf_70 : decode bM_nearestOf 70 = .ok (.lconst 0, 1) := by decide +kernel
theorem dM_nearestOf_71 : decode bM_nearestOf 71 = .ok (.lcmp, 1) := by decide +kernel
theorem dM_nearestOf_72 : decode bM_nearestOf 72 = .ok (.ifCond .ge 7, 3) := by decide +kernel
theorem dM_nearestOf_75 : decode bM_nearestOf 75 = .ok (.iconst 1, 1) := by decide +kernel
theorem dM_nearestOf_76 : decode bM_nearestOf 76 = .ok (.goto 4, 3) := by decide +kernel
theorem dM_nearestOf_79 : decode bM_nearestOf 79 = .ok (.iconst 0, 1) := by decide +kernel
theorem dM_nearestOf_80 : decode bM_nearestOf 80 = .ok (.invokevirtual 43, 3) := by decide +kernel
theorem dM_nearestOf_83 : decode bM_nearestOf 83 = .ok (.return_, 1) := by decide +kernel
theorem dM_nearest_0 : decode bM_nearest 0 = .ok (.lload_n 1, 1) := by decide +kernel
theorem dM_nearest_1 : decode bM_nearest 1 = .ok (.lconst 0, 1) := by decide +kernel
theorem dM_nearest_2 : decode bM_nearest 2 = .ok (.lcmp, 1) := by decide +kernel
theorem dM_nearest_3 : decode bM_nearest 3 = .ok (.ifCond .ne 10, 3) := by decide +kernel
theorem dM_nearest_6 : decode bM_nearest 6 = .ok (.aload_n 0, 1) := by decide +kernel
theorem dM_nearest_7 : decode bM_nearest 7 = .ok (.lconst 0, 1) := by decide +kernel
theorem dM_nearest_8 : decode bM_nearest 8 = .ok (.iconst 0, 1) := by decide +kernel
theorem dM_nearest_9 : decode bM_nearest 9 = .ok (.invokevirtual 31, 3) := by decide +kernel
theorem dM_nearest_12 : decode bM_nearest 12 = .ok (.return_, 1) := by decide +kernel
theorem dM_nearest_13 : decode bM_nearest 13 = .ok (.lload_n 1, 1) := by decide +kernel
theorem dM_nearest_14 : decode bM_nearest 14 = .ok (.lstore 5, 2) := by decide +kernel
theorem dM_nearest_16 : decode bM_nearest 16 = .ok (.iload_n 3, 1) := by decide +kernel
theorem dM_nearest_17 : decode bM_nearest 17 = .ok (.istore 7, 2) := by decide +kernel
theorem dM_nearest_19 : decode bM_nearest 19 = .ok (.lload 5, 2) := by decide +kernel
theorem dM_nearest_21 : decode bM_nearest 21 = .ok (.bipush 61, 2) := by decide +kernel
theorem dM_nearest_23 : decode bM_nearest 23 = .ok (.lshr, 1) := by decide +kernel
theorem dM_nearest_24 : decode bM_nearest 24 = .ok (.lconst 0, 1) := by decide +kernel
theorem dM_nearest_25 : decode bM_nearest 25 = .ok (.lcmp, 1) := by decide +kernel
theorem dM_nearest_26 : decode bM_nearest 26 = .ok (.ifCond .ne 15, 3) := by decide +kernel
theorem dM_nearest_29 : decode bM_nearest 29 = .ok (.lload 5, 2) := by decide +kernel
theorem dM_nearest_31 : decode bM_nearest 31 = .ok (.iconst 1, 1) := by decide +kernel
theorem dM_nearest_32 : decode bM_nearest 32 = .ok (.lshl, 1) := by decide +kernel
theorem dM_nearest_33 : decode bM_nearest 33 = .ok (.lstore 5, 2) := by decide +kernel
theorem dM_nearest_35 : decode bM_nearest 35 = .ok (.iinc 7 (-1), 3) := by decide +kernel
theorem dM_nearest_38 : decode bM_nearest 38 = .ok (.goto (-19), 3) := by decide +kernel
theorem dM_nearest_41 : decode bM_nearest 41 = .ok (.iload 7, 2) := by decide +kernel
theorem dM_nearest_43 : decode bM_nearest 43 = .ok (.bipush 9, 2) := by decide +kernel
theorem dM_nearest_45 : decode bM_nearest 45 = .ok (.iadd, 1) := by decide +kernel
theorem dM_nearest_46 : decode bM_nearest 46 = .ok (.sipush (-1074), 3) := by decide +kernel
theorem dM_nearest_49 : decode bM_nearest 49 = .ok (.if_icmp .ge 12, 3) := by decide +kernel
theorem dM_nearest_52 : decode bM_nearest 52 = .ok (.sipush (-1074), 3) := by decide +kernel
theorem dM_nearest_55 : decode bM_nearest 55 = .ok (.iload 7, 2) := by decide +kernel
theorem dM_nearest_57 : decode bM_nearest 57 = .ok (.isub, 1) := by decide +kernel
theorem dM_nearest_58 : decode bM_nearest 58 = .ok (.goto 5, 3) := by decide +kernel
theorem dM_nearest_61 : decode bM_nearest 61 = .ok (.bipush 9, 2) := by decide +kernel
theorem dM_nearest_63 : decode bM_nearest 63 = .ok (.istore 8, 2) := by decide +kernel
theorem dM_nearest_65 : decode bM_nearest 65 = .ok (.lconst 0, 1) := by decide +kernel
theorem dM_nearest_66 : decode bM_nearest 66 = .ok (.lstore 9, 2) := by decide +kernel
theorem dM_nearest_68 : decode bM_nearest 68 = .ok (.iload 8, 2) := by decide +kernel
theorem dM_nearest_70 : decode bM_nearest 70 = .ok (.bipush 62, 2) := by decide +kernel
theorem dM_nearest_72 : decode bM_nearest 72 = .ok (.if_icmp .gt 59, 3) := by decide +kernel
theorem dM_nearest_75 : decode bM_nearest 75 = .ok (.lload 5, 2) := by decide +kernel
theorem dM_nearest_77 : decode bM_nearest 77 = .ok (.iload 8, 2) := by decide +kernel
theorem dM_nearest_79 : decode bM_nearest 79 = .ok (.lshr, 1) := by decide +kernel
theorem dM_nearest_80 : decode bM_nearest 80 = .ok (.lstore 9, 2) := by decide +kernel
theorem dM_nearest_82 : decode bM_nearest 82 = .ok (.lload 5, 2) := by decide +kernel
theorem dM_nearest_84 : decode bM_nearest 84 = .ok (.lload 9, 2) := by decide +kernel
theorem dM_nearest_86 : decode bM_nearest 86 = .ok (.iload 8, 2) := by decide +kernel
theorem dM_nearest_88 : decode bM_nearest 88 = .ok (.lshl, 1) := by decide +kernel
theorem dM_nearest_89 : decode bM_nearest 89 = .ok (.lsub, 1) := by decide +kernel
theorem dM_nearest_90 : decode bM_nearest 90 = .ok (.lstore 11, 2) := by decide +kernel
theorem dM_nearest_92 : decode bM_nearest 92 = .ok (.lconst 1, 1) := by decide +kernel
theorem dM_nearest_93 : decode bM_nearest 93 = .ok (.iload 8, 2) := by decide +kernel
theorem dM_nearest_95 : decode bM_nearest 95 = .ok (.iconst 1, 1) := by decide +kernel
theorem dM_nearest_96 : decode bM_nearest 96 = .ok (.isub, 1) := by decide +kernel
theorem dM_nearest_97 : decode bM_nearest 97 = .ok (.lshl, 1) := by decide +kernel
theorem dM_nearest_98 : decode bM_nearest 98 = .ok (.lstore 13, 2) := by decide +kernel
theorem dM_nearest_100 : decode bM_nearest 100 = .ok (.lload 11, 2) := by decide +kernel
theorem dM_nearest_102 : decode bM_nearest 102 = .ok (.lload 13, 2) := by decide +kernel
theorem dM_nearest_104 : decode bM_nearest 104 = .ok (.lcmp, 1) := by decide +kernel
theorem dM_nearest_105 : decode bM_nearest 105 = .ok (.ifCond .gt 20, 3) := by decide +kernel
theorem dM_nearest_108 : decode bM_nearest 108 = .ok (.lload 11, 2) := by decide +kernel
theorem dM_nearest_110 : decode bM_nearest 110 = .ok (.lload 13, 2) := by decide +kernel
theorem dM_nearest_112 : decode bM_nearest 112 = .ok (.lcmp, 1) := by decide +kernel
theorem dM_nearest_113 : decode bM_nearest 113 = .ok (.ifCond .ne 18, 3) := by decide +kernel
theorem dM_nearest_116 : decode bM_nearest 116 = .ok (.lload 9, 2) := by decide +kernel
theorem dM_nearest_118 : decode bM_nearest 118 = .ok (.lconst 1, 1) := by decide +kernel
theorem dM_nearest_119 : decode bM_nearest 119 = .ok (.land, 1) := by decide +kernel
theorem dM_nearest_120 : decode bM_nearest 120 = .ok (.lconst 1, 1) := by decide +kernel
theorem dM_nearest_121 : decode bM_nearest 121 = .ok (.lcmp, 1) := by decide +kernel
theorem dM_nearest_122 : decode bM_nearest 122 = .ok (.ifCond .ne 9, 3) := by decide +kernel
theorem dM_nearest_125 : decode bM_nearest 125 = .ok (.lload 9, 2) := by decide +kernel
theorem dM_nearest_127 : decode bM_nearest 127 = .ok (.lconst 1, 1) := by decide +kernel
theorem dM_nearest_128 : decode bM_nearest 128 = .ok (.ladd, 1) := by decide +kernel
theorem dM_nearest_129 : decode bM_nearest 129 = .ok (.lstore 9, 2) := by decide +kernel
theorem dM_nearest_131 : decode bM_nearest 131 = .ok (.iconst 0, 1) := by decide +kernel
theorem dM_nearest_132 : decode bM_nearest 132 = .ok (.istore 11, 2) := by decide +kernel
theorem dM_nearest_134 : decode bM_nearest 134 = .ok (.lload 9, 2) := by decide +kernel
theorem dM_nearest_136 : decode bM_nearest 136 = .ok (.iload 11, 2) := by decide +kernel
theorem dM_nearest_138 : decode bM_nearest 138 = .ok (.lshr, 1) := by decide +kernel
theorem dM_nearest_139 : decode bM_nearest 139 = .ok (.lconst 0, 1) := by decide +kernel
theorem dM_nearest_140 : decode bM_nearest 140 = .ok (.lcmp, 1) := by decide +kernel
theorem dM_nearest_141 : decode bM_nearest 141 = .ok (.ifCond .eq 9, 3) := by decide +kernel
theorem dM_nearest_144 : decode bM_nearest 144 = .ok (.iinc 11 1, 3) := by decide +kernel
theorem dM_nearest_147 : decode bM_nearest 147 = .ok (.goto (-13), 3) := by decide +kernel
theorem dM_nearest_150 : decode bM_nearest 150 = .ok (.iload 11, 2) := by decide +kernel
theorem dM_nearest_152 : decode bM_nearest 152 = .ok (.iload 7, 2) := by decide +kernel
theorem dM_nearest_154 : decode bM_nearest 154 = .ok (.iadd, 1) := by decide +kernel
theorem dM_nearest_155 : decode bM_nearest 155 = .ok (.iload 8, 2) := by decide +kernel
theorem dM_nearest_157 : decode bM_nearest 157 = .ok (.iadd, 1) := by decide +kernel
theorem dM_nearest_158 : decode bM_nearest 158 = .ok (.sipush 1024, 3) := by decide +kernel
theorem dM_nearest_161 : decode bM_nearest 161 = .ok (.if_icmp .le 20, 3) := by decide +kernel
theorem dM_nearest_164 : decode bM_nearest 164 = .ok (.aload_n 0, 1) := by decide +kernel
theorem dM_nearest_165 : decode bM_nearest 165 = .ok (.iload 4, 2) := by decide +kernel
theorem dM_nearest_167 : decode bM_nearest 167 = .ok (.ifCond .eq 7, 3) := by decide +kernel
theorem dM_nearest_170 : decode bM_nearest 170 = .ok (.iconst 4, 1) := by decide +kernel
theorem dM_nearest_171 : decode bM_nearest 171 = .ok (.goto 4, 3) := by decide +kernel
theorem dM_nearest_174 : decode bM_nearest 174 = .ok (.iconst 3, 1) := by decide +kernel
theorem dM_nearest_175 : decode bM_nearest 175 = .ok (.invokevirtual 35, 3) := by decide +kernel
theorem dM_nearest_178 : decode bM_nearest 178 = .ok (.goto 25, 3) := by decide +kernel
theorem dM_nearest_181 : decode bM_nearest 181 = .ok (.aload_n 0, 1) := by decide +kernel
theorem dM_nearest_182 : decode bM_nearest 182 = .ok (.iload 4, 2) := by decide +kernel
theorem dM_nearest_184 : decode bM_nearest 184 = .ok (.ifCond .eq 9, 3) := by decide +kernel
theorem dM_nearest_187 : decode bM_nearest 187 = .ok (.lload 9, 2) := by decide +kernel
theorem dM_nearest_189 : decode bM_nearest 189 = .ok (.lneg, 1) := by decide +kernel
theorem dM_nearest_190 : decode bM_nearest 190 = .ok (.goto 5, 3) := by decide +kernel
theorem dM_nearest_193 : decode bM_nearest 193 = .ok (.lload 9, 2) := by decide +kernel
theorem dM_nearest_195 : decode bM_nearest 195 = .ok (.iload 7, 2) := by decide +kernel
theorem dM_nearest_197 : decode bM_nearest 197 = .ok (.iload 8, 2) := by decide +kernel
theorem dM_nearest_199 : decode bM_nearest 199 = .ok (.iadd, 1) := by decide +kernel
theorem dM_nearest_200 : decode bM_nearest 200 = .ok (.invokevirtual 31, 3) := by decide +kernel
theorem dM_nearest_203 : decode bM_nearest 203 = .ok (.return_, 1) := by decide +kernel
theorem dM_plain_0 : decode bM_plain 0 = .ok (.aload_n 0, 1) := by decide +kernel
theorem dM_plain_1 : decode bM_plain 1 = .ok (.iconst 2, 1) := by decide +kernel
theorem dM_plain_2 : decode bM_plain 2 = .ok (.putfield 20, 3) := by decide +kernel
theorem dM_plain_5 : decode bM_plain 5 = .ok (.aload_n 0, 1) := by decide +kernel
theorem dM_plain_6 : decode bM_plain 6 = .ok (.lload_n 1, 1) := by decide +kernel
theorem dM_plain_7 : decode bM_plain 7 = .ok (.putfield 24, 3) := by decide +kernel
theorem dM_plain_10 : decode bM_plain 10 = .ok (.aload_n 0, 1) := by decide +kernel
theorem dM_plain_11 : decode bM_plain 11 = .ok (.lload_n 1, 1) := by decide +kernel
theorem dM_plain_12 : decode bM_plain 12 = .ok (.lconst 0, 1) := by decide +kernel
theorem dM_plain_13 : decode bM_plain 13 = .ok (.lcmp, 1) := by decide +kernel
theorem dM_plain_14 : decode bM_plain 14 = .ok (.ifCond .ne 7, 3) := by decide +kernel
theorem dM_plain_17 : decode bM_plain 17 = .ok (.iconst 0, 1) := by decide +kernel
theorem dM_plain_18 : decode bM_plain 18 = .ok (.goto 4, 3) := by decide +kernel
theorem dM_plain_21 : decode bM_plain 21 = .ok (.iload_n 3, 1) := by decide +kernel
theorem dM_plain_22 : decode bM_plain 22 = .ok (.putfield 28, 3) := by decide +kernel
theorem dM_plain_25 : decode bM_plain 25 = .ok (.aload_n 0, 1) := by decide +kernel
theorem dM_plain_26 : decode bM_plain 26 = .ok (.getfield 24, 3) := by decide +kernel
theorem dM_plain_29 : decode bM_plain 29 = .ok (.lconst 0, 1) := by decide +kernel
theorem dM_plain_30 : decode bM_plain 30 = .ok (.lcmp, 1) := by decide +kernel
theorem dM_plain_31 : decode bM_plain 31 = .ok (.ifCond .eq 37, 3) := by decide +kernel
theorem dM_plain_34 : decode bM_plain 34 = .ok (.aload_n 0, 1) := by decide +kernel
theorem dM_plain_35 : decode bM_plain 35 = .ok (.getfield 24, 3) := by decide +kernel
theorem dM_plain_38 : decode bM_plain 38 = .ok (.lconst 1, 1) := by decide +kernel
theorem dM_plain_39 : decode bM_plain 39 = .ok (.land, 1) := by decide +kernel
theorem dM_plain_40 : decode bM_plain 40 = .ok (.lconst 0, 1) := by decide +kernel
theorem dM_plain_41 : decode bM_plain 41 = .ok (.lcmp, 1) := by decide +kernel
theorem dM_plain_42 : decode bM_plain 42 = .ok (.ifCond .ne 26, 3) := by decide +kernel
theorem dM_plain_45 : decode bM_plain 45 = .ok (.aload_n 0, 1) := by decide +kernel
theorem dM_plain_46 : decode bM_plain 46 = .ok (.aload_n 0, 1) := by decide +kernel
theorem dM_plain_47 : decode bM_plain 47 = .ok (.getfield 24, 3) := by decide +kernel
theorem dM_plain_50 : decode bM_plain 50 = .ok (.iconst 1, 1) := by decide +kernel
theorem dM_plain_51 : decode bM_plain 51 = .ok (.lshr, 1) := by decide +kernel
theorem dM_plain_52 : decode bM_plain 52 = .ok (.putfield 24, 3) := by decide +kernel
theorem dM_plain_55 : decode bM_plain 55 = .ok (.aload_n 0, 1) := by decide +kernel
theorem dM_plain_56 : decode bM_plain 56 = .ok (.dup, 1) := by decide +kernel
theorem dM_plain_57 : decode bM_plain 57 = .ok (.getfield 28, 3) := by decide +kernel
theorem dM_plain_60 : decode bM_plain 60 = .ok (.iconst 1, 1) := by decide +kernel
theorem dM_plain_61 : decode bM_plain 61 = .ok (.iadd, 1) := by decide +kernel
theorem dM_plain_62 : decode bM_plain 62 = .ok (.putfield 28, 3) := by decide +kernel
theorem dM_plain_65 : decode bM_plain 65 = .ok (.goto (-40), 3) := by decide +kernel
theorem dM_plain_68 : decode bM_plain 68 = .ok (.return_, 1) := by decide +kernel
theorem dM_setSpecial_0 : decode bM_setSpecial 0 = .ok (.aload_n 0, 1) := by decide +kernel
theorem dM_setSpecial_1 : decode bM_setSpecial 1 = .ok (.iload_n 1, 1) := by decide +kernel
theorem dM_setSpecial_2 : decode bM_setSpecial 2 = .ok (.putfield 20, 3) := by decide +kernel
theorem dM_setSpecial_5 : decode bM_setSpecial 5 = .ok (.aload_n 0, 1) := by decide +kernel
theorem dM_setSpecial_6 : decode bM_setSpecial 6 = .ok (.lconst 0, 1) := by decide +kernel
theorem dM_setSpecial_7 : decode bM_setSpecial 7 = .ok (.putfield 24, 3) := by decide +kernel
theorem dM_setSpecial_10 : decode bM_setSpecial 10 = .ok (.aload_n 0, 1) := by decide +kernel
theorem dM_setSpecial_11 : decode bM_setSpecial 11 = .ok (.iconst 0, 1) := by decide +kernel
theorem dM_setSpecial_12 : decode bM_setSpecial 12 = .ok (.putfield 28, 3) := by decide +kernel
theorem dM_setSpecial_15 : decode bM_setSpecial 15 = .ok (.return_, 1) := by decide +kernel
theorem dM_size_0 : decode bM_size 0 = .ok (.lload_n 0, 1) := by decide +kernel
theorem dM_size_1 : decode bM_size 1 = .ok (.lconst 0, 1) := by decide +kernel
theorem dM_size_2 : decode bM_size 2 = .ok (.lcmp, 1) := by decide +kernel
theorem dM_size_3 : decode bM_size 3 = .ok (.ifCond .ge 8, 3) := by decide +kernel
theorem dM_size_6 : decode bM_size 6 = .ok (.lload_n 0, 1) := by decide +kernel
theorem dM_size_7 : decode bM_size 7 = .ok (.lneg, 1) := by decide +kernel
theorem dM_size_8 : decode bM_size 8 = .ok (.goto 4, 3) := by decide +kernel
theorem dM_size_11 : decode bM_size 11 = .ok (.lload_n 0, 1) := by decide +kernel
theorem dM_size_12 : decode bM_size 12 = .ok (.lreturn, 1) := by decide +kernel
theorem dM_special_0 : decode bM_special 0 = .ok (.iload_n 1, 1) := by decide +kernel
theorem dM_special_1 : decode bM_special 1 = .ok (.invokestatic 204, 3) := by decide +kernel
theorem dM_special_4 : decode bM_special 4 = .ok (.ifCond .eq 13, 3) := by decide +kernel
theorem dM_special_7 : decode bM_special 7 = .ok (.iload_n 2, 1) := by decide +kernel
theorem dM_special_8 : decode bM_special 8 = .ok (.iconst 3, 1) := by decide +kernel
theorem dM_special_9 : decode bM_special 9 = .ok (.if_icmp .lt 8, 3) := by decide +kernel
theorem dM_special_12 : decode bM_special 12 = .ok (.iload_n 2, 1) := by decide +kernel
theorem dM_special_13 : decode bM_special 13 = .ok (.iconst 5, 1) := by decide +kernel
theorem dM_special_14 : decode bM_special 14 = .ok (.if_icmp .le 5, 3) := by decide +kernel
theorem dM_special_17 : decode bM_special 17 = .ok (.iconst 0, 1) := by decide +kernel
theorem dM_special_18 : decode bM_special 18 = .ok (.ireturn, 1) := by decide +kernel
theorem dM_special_19 : decode bM_special 19 = .ok (.aload_n 0, 1) := by decide +kernel
theorem dM_special_20 : decode bM_special 20 = .ok (.iload_n 2, 1) := by decide +kernel
theorem dM_special_21 : decode bM_special 21 = .ok (.invokevirtual 35, 3) := by decide +kernel
theorem dM_special_24 : decode bM_special 24 = .ok (.aload_n 0, 1) := by decide +kernel
theorem dM_special_25 : decode bM_special 25 = .ok (.iload_n 1, 1) := by decide +kernel
theorem dM_special_26 : decode bM_special 26 = .ok (.invokevirtual 207, 3) := by decide +kernel
theorem dM_special_29 : decode bM_special 29 = .ok (.iconst 1, 1) := by decide +kernel
theorem dM_special_30 : decode bM_special 30 = .ok (.ireturn, 1) := by decide +kernel
theorem dM_operate_0 : decode bM_operate 0 = .ok (.iload_n 1, 1) := by decide +kernel
theorem dM_operate_1 : decode bM_operate 1 = .ok (.ifCond .lt 31, 3) := by decide +kernel
theorem dM_operate_4 : decode bM_operate 4 = .ok (.iload_n 1, 1) := by decide +kernel
theorem dM_operate_5 : decode bM_operate 5 = .ok (.bipush 17, 2) := by decide +kernel
theorem dM_operate_7 : decode bM_operate 7 = .ok (.if_icmp .gt 25, 3) := by decide +kernel
theorem dM_operate_10 : decode bM_operate 10 = .ok (.iload_n 2, 1) := by decide +kernel
theorem dM_operate_11 : decode bM_operate 11 = .ok (.invokestatic 204, 3) := by decide +kernel
theorem dM_operate_14 : decode bM_operate 14 = .ok (.ifCond .eq 18, 3) := by decide +kernel
theorem dM_operate_17 : decode bM_operate 17 = .ok (.iload_n 3, 1) := by decide +kernel
theorem dM_operate_18 : decode bM_operate 18 = .ok (.invokestatic 204, 3) := by decide +kernel
theorem dM_operate_21 : decode bM_operate 21 = .ok (.ifCond .eq 11, 3) := by decide +kernel
theorem dM_operate_24 : decode bM_operate 24 = .ok (.iload 4, 2) := by decide +kernel
theorem dM_operate_26 : decode bM_operate 26 = .ok (.invokestatic 204, 3) := by decide +kernel
theorem dM_operate_29 : decode bM_operate 29 = .ok (.ifCond .ne 5, 3) := by decide +kernel
theorem dM_operate_32 : decode bM_operate 32 = .ok (.iconst (-1), 1) := by decide +kernel
theorem dM_operate_33 : decode bM_operate 33 = .ok (.ireturn, 1) := by decide +kernel
theorem dM_operate_34 : decode bM_operate 34 = .ok (.aload_n 0, 1) := by decide +kernel
theorem dM_operate_35 : decode bM_operate 35 = .ok (.iload_n 3, 1) := by decide +kernel
theorem dM_operate_36 : decode bM_operate 36 = .ok (.invokevirtual 210, 3) := by decide +kernel
theorem dM_operate_39 : decode bM_operate 39 = .ok (.aload_n 0, 1) := by decide +kernel
theorem dM_operate_40 : decode bM_operate 40 = .ok (.iload 4, 2) := by decide +kernel
theorem dM_operate_42 : decode bM_operate 42 = .ok (.invokevirtual 213, 3) := by decide +kernel
theorem dM_operate_45 : decode bM_operate 45 = .ok (.aload_n 0, 1) := by decide +kernel
theorem dM_operate_46 : decode bM_operate 46 = .ok (.iload_n 1, 1) := by decide +kernel
theorem dM_operate_47 : decode bM_operate 47 = .ok (.invokevirtual 216, 3) := by decide +kernel
theorem dM_operate_50 : decode bM_operate 50 = .ok (.istore 5, 2) := by decide +kernel
theorem dM_operate_52 : decode bM_operate 52 = .ok (.iload 5, 2) := by decide +kernel
theorem dM_operate_54 : decode bM_operate 54 = .ok (.ifCond .ne 8, 3) := by decide +kernel
theorem dM_operate_57 : decode bM_operate 57 = .ok (.aload_n 0, 1) := by decide +kernel
theorem dM_operate_58 : decode bM_operate 58 = .ok (.iload_n 2, 1) := by decide +kernel
theorem dM_operate_59 : decode bM_operate 59 = .ok (.invokevirtual 207, 3) := by decide +kernel
theorem dM_operate_62 : decode bM_operate 62 = .ok (.iload 5, 2) := by decide +kernel
theorem dM_operate_64 : decode bM_operate 64 = .ok (.ireturn, 1) := by decide +kernel
theorem dM_takeA_0 : decode bM_takeA 0 = .ok (.aload_n 0, 1) := by decide +kernel
theorem dM_takeA_1 : decode bM_takeA 1 = .ok (.aload_n 0, 1) := by decide +kernel
theorem dM_takeA_2 : decode bM_takeA 2 = .ok (.getfield 7, 3) := by decide +kernel
theorem dM_takeA_5 : decode bM_takeA 5 = .ok (.iload_n 1, 1) := by decide +kernel
theorem dM_takeA_6 : decode bM_takeA 6 = .ok (.iaload, 1) := by decide +kernel
theorem dM_takeA_7 : decode bM_takeA 7 = .ok (.putfield 51, 3) := by decide +kernel
theorem dM_takeA_10 : decode bM_takeA 10 = .ok (.aload_n 0, 1) := by decide +kernel
theorem dM_takeA_11 : decode bM_takeA 11 = .ok (.aload_n 0, 1) := by decide +kernel
theorem dM_takeA_12 : decode bM_takeA 12 = .ok (.getfield 13, 3) := by decide +kernel
theorem dM_takeA_15 : decode bM_takeA 15 = .ok (.iload_n 1, 1) := by decide +kernel
theorem dM_takeA_16 : decode bM_takeA 16 = .ok (.laload, 1) := by decide +kernel
theorem dM_takeA_17 : decode bM_takeA 17 = .ok (.putfield 54, 3) := by decide +kernel
theorem dM_takeA_20 : decode bM_takeA 20 = .ok (.aload_n 0, 1) := by decide +kernel
theorem dM_takeA_21 : decode bM_takeA 21 = .ok (.aload_n 0, 1) := by decide +kernel
theorem dM_takeA_22 : decode bM_takeA 22 = .ok (.getfield 17, 3) := by decide +kernel
theorem dM_takeA_25 : decode bM_takeA 25 = .ok (.iload_n 1, 1) := by decide +kernel
theorem dM_takeA_26 : decode bM_takeA 26 = .ok (.iaload, 1) := by decide +kernel
theorem dM_takeA_27 : decode bM_takeA 27 = .ok (.putfield 57, 3) := by decide +kernel
theorem dM_takeA_30 : decode bM_takeA 30 = .ok (.return_, 1) := by decide +kernel
theorem dM_takeB_0 : decode bM_takeB 0 = .ok (.aload_n 0, 1) := by decide +kernel
theorem dM_takeB_1 : decode bM_takeB 1 = .ok (.aload_n 0, 1) := by decide +kernel
theorem dM_takeB_2 : decode bM_takeB 2 = .ok (.getfield 7, 3) := by decide +kernel
theorem dM_takeB_5 : decode bM_takeB 5 = .ok (.iload_n 1, 1) := by decide +kernel
theorem dM_takeB_6 : decode bM_takeB 6 = .ok (.iaload, 1) := by decide +kernel
theorem dM_takeB_7 : decode bM_takeB 7 = .ok (.putfield 60, 3) := by decide +kernel
theorem dM_takeB_10 : decode bM_takeB 10 = .ok (.aload_n 0, 1) := by decide +kernel
theorem dM_takeB_11 : decode bM_takeB 11 = .ok (.aload_n 0, 1) := by decide +kernel
theorem dM_takeB_12 : decode bM_takeB 12 = .ok (.getfield 13, 3) := by decide +kernel
theorem dM_takeB_15 : decode bM_takeB 15 = .ok (.iload_n 1, 1) := by decide +kernel
theorem dM_takeB_16 : decode bM_takeB 16 = .ok (.laload, 1) := by decide +kernel
theorem dM_takeB_17 : decode bM_takeB 17 = .ok (.putfield 63, 3) := by decide +kernel
theorem dM_takeB_20 : decode bM_takeB 20 = .ok (.aload_n 0, 1) := by decide +kernel
theorem dM_takeB_21 : decode bM_takeB 21 = .ok (.aload_n 0, 1) := by decide +kernel
theorem dM_takeB_22 : decode bM_takeB 22 = .ok (.getfield 17, 3) := by decide +kernel
theorem dM_takeB_25 : decode bM_takeB 25 = .ok (.iload_n 1, 1) := by decide +kernel
theorem dM_takeB_26 : decode bM_takeB 26 = .ok (.iaload, 1) := by decide +kernel
theorem dM_takeB_27 : decode bM_takeB 27 = .ok (.putfield 66, 3) := by decide +kernel
theorem dM_takeB_30 : decode bM_takeB 30 = .ok (.return_, 1) := by decide +kernel
theorem dM_operation_0 : decode bM_operation 0 = .ok (.iload_n 1, 1) := by decide +kernel
theorem dM_operation_1 : decode bM_operation 1 = .ok (.bipush 7, 2) := by decide +kernel
theorem dM_operation_3 : decode bM_operation 3 = .ok (.if_icmp .lt 9, 3) := by decide +kernel
theorem dM_operation_6 : decode bM_operation 6 = .ok (.iload_n 1, 1) := by decide +kernel
theorem dM_operation_7 : decode bM_operation 7 = .ok (.bipush 11, 2) := by decide +kernel
theorem dM_operation_9 : decode bM_operation 9 = .ok (.if_icmp .le 15, 3) := by decide +kernel
theorem dM_operation_12 : decode bM_operation 12 = .ok (.iload_n 1, 1) := by decide +kernel
theorem dM_operation_13 : decode bM_operation 13 = .ok (.bipush 13, 2) := by decide +kernel
theorem dM_operation_15 : decode bM_operation 15 = .ok (.if_icmp .eq 9, 3) := by decide +kernel
theorem dM_operation_18 : decode bM_operation 18 = .ok (.iload_n 1, 1) := by decide +kernel
theorem dM_operation_19 : decode bM_operation 19 = .ok (.bipush 16, 2) := by decide +kernel
theorem dM_operation_21 : decode bM_operation 21 = .ok (.if_icmp .ne 9, 3) := by decide +kernel
theorem dM_operation_24 : decode bM_operation 24 = .ok (.aload_n 0, 1) := by decide +kernel
theorem dM_operation_25 : decode bM_operation 25 = .ok (.iload_n 1, 1) := by decide +kernel
theorem dM_operation_26 : decode bM_operation 26 = .ok (.invokevirtual 183, 3) := by decide +kernel
theorem dM_operation_29 : decode bM_operation 29 = .ok (.ireturn, 1) := by decide +kernel
theorem dM_operation_30 : decode bM_operation 30 = .ok (.iload_n 1, 1) := by decide +kernel
theorem dM_operation_31 : decode bM_operation 31 = .ok (.bipush 12, 2) := by decide +kernel
theorem dM_operation_33 : decode bM_operation 33 = .ok (.if_icmp .lt 9, 3) := by decide +kernel
theorem dM_operation_36 : decode bM_operation 36 = .ok (.aload_n 0, 1) := by decide +kernel
theorem dM_operation_37 : decode bM_operation 37 = .ok (.iload_n 1, 1) := by decide +kernel
theorem dM_operation_38 : decode bM_operation 38 = .ok (.invokevirtual 187, 3) := by decide +kernel
theorem dM_operation_41 : decode bM_operation 41 = .ok (.ireturn, 1) := by decide +kernel
theorem dM_operation_42 : decode bM_operation 42 = .ok (.aload_n 0, 1) := by decide +kernel
theorem dM_operation_43 : decode bM_operation 43 = .ok (.getfield 51, 3) := by decide +kernel
theorem dM_operation_46 : decode bM_operation 46 = .ok (.iconst 1, 1) := by decide +kernel
theorem dM_operation_47 : decode bM_operation 47 = .ok (.if_icmp .ne 15, 3) := by decide +kernel
theorem dM_operation_50 : decode bM_operation 50 = .ok (.aload_n 0, 1) := by decide +kernel
theorem dM_operation_51 : decode bM_operation 51 = .ok (.getfield 60, 3) := by decide +kernel
theorem dM_operation_54 : decode bM_operation 54 = .ok (.iconst 1, 1) := by decide +kernel
theorem dM_operation_55 : decode bM_operation 55 = .ok (.if_icmp .ne 7, 3) := by decide +kernel
theorem dM_operation_58 : decode bM_operation 58 = .ok (.iconst 1, 1) := by decide +kernel
theorem dM_operation_59 : decode bM_operation 59 = .ok (.goto 4, 3) := by decide +kernel
theorem dM_operation_62 : decode bM_operation 62 = .ok (.iconst 0, 1) := by decide +kernel
theorem dM_operation_63 : decode bM_operation 63 = .ok (.istore_n 2, 1) := by decide +kernel
theorem dM_operation_64 : decode bM_operation 64 = .ok (.iload_n 2, 1) := by decide +kernel
theorem dM_operation_65 : decode bM_operation 65 = .ok (.ifCond .eq 22, 3) := by decide +kernel
theorem dM_operation_68 : decode bM_operation 68 = .ok (.iload_n 1, 1) := by decide +kernel
theorem dM_operation_69 : decode bM_operation 69 = .ok (.iconst 3, 1) := by decide +kernel
theorem dM_operation_70 : decode bM_operation 70 = .ok (.if_icmp .eq 17, 3) := by decide +kernel
theorem dM_operation_73 : decode bM_operation 73 = .ok (.iload_n 1, 1) := by decide +kernel
theorem dM_operation_74 : decode bM_operation 74 = .ok (.bipush 6, 2) := by decide +kernel
theorem dM_operation_76 : decode bM_operation 76 = .ok (.if_icmp .eq 11, 3) := by decide +kernel
theorem dM_operation_79 : decode bM_operation 79 = .ok (.aload_n 0, 1) := by decide +kernel
theorem dM_operation_80 : decode bM_operation 80 = .ok (.iload_n 1, 1) := by decide +kernel
theorem dM_operation_81 : decode bM_operation 81 = .ok (.invokevirtual 190, 3) := by decide +kernel
theorem dM_operation_84 : decode bM_operation 84 = .ok (.goto 8, 3) := by decide +kernel
theorem dM_operation_87 : decode bM_operation 87 = .ok (.aload_n 0, 1) := by decide +kernel
theorem dM_operation_88 : decode bM_operation 88 = .ok (.iload_n 1, 1) := by decide +kernel
theorem dM_operation_89 : decode bM_operation 89 = .ok (.invokevirtual 193, 3) := by decide +kernel
theorem dM_operation_92 : decode bM_operation 92 = .ok (.ireturn, 1) := by decide +kernel
theorem dM_bitwise_0 : decode bM_bitwise 0 = .ok (.aload_n 0, 1) := by decide +kernel
theorem dM_bitwise_1 : decode bM_bitwise 1 = .ok (.aload_n 0, 1) := by decide +kernel
theorem dM_bitwise_2 : decode bM_bitwise 2 = .ok (.getfield 51, 3) := by decide +kernel
theorem dM_bitwise_5 : decode bM_bitwise 5 = .ok (.aload_n 0, 1) := by decide +kernel
theorem dM_bitwise_6 : decode bM_bitwise 6 = .ok (.getfield 54, 3) := by decide +kernel
theorem dM_bitwise_9 : decode bM_bitwise 9 = .ok (.aload_n 0, 1) := by decide +kernel
theorem dM_bitwise_10 : decode bM_bitwise 10 = .ok (.getfield 57, 3) := by decide +kernel
theorem dM_bitwise_13 : decode bM_bitwise 13 = .ok (.invokevirtual 126, 3) := by decide +kernel
theorem dM_bitwise_16 : decode bM_bitwise 16 = .ok (.istore_n 2, 1) := by decide +kernel
theorem dM_bitwise_17 : decode bM_bitwise 17 = .ok (.iload_n 1, 1) := by decide +kernel
theorem dM_bitwise_18 : decode bM_bitwise 18 = .ok (.bipush 13, 2) := by decide +kernel
theorem dM_bitwise_20 : decode bM_bitwise 20 = .ok (.if_icmp .eq 28, 3) := by decide +kernel
theorem dM_bitwise_23 : decode bM_bitwise 23 = .ok (.iload_n 1, 1) := by decide +kernel
theorem dM_bitwise_24 : decode bM_bitwise 24 = .ok (.bipush 16, 2) := by decide +kernel
theorem dM_bitwise_26 : decode bM_bitwise 26 = .ok (.if_icmp .eq 22, 3) := by decide +kernel
theorem dM_bitwise_29 : decode bM_bitwise 29 = .ok (.aload_n 0, 1) := by decide +kernel
theorem dM_bitwise_30 : decode bM_bitwise 30 = .ok (.aload_n 0, 1) := by decide +kernel
theorem dM_bitwise_31 : decode bM_bitwise 31 = .ok (.getfield 60, 3) := by decide +kernel
theorem dM_bitwise_34 : decode bM_bitwise 34 = .ok (.aload_n 0, 1) := by decide +kernel
theorem dM_bitwise_35 : decode bM_bitwise 35 = .ok (.getfield 63, 3) := by decide +kernel
theorem dM_bitwise_38 : decode bM_bitwise 38 = .ok (.aload_n 0, 1) := by decide +kernel
theorem dM_bitwise_39 : decode bM_bitwise 39 = .ok (.getfield 66, 3) := by decide +kernel
theorem dM_bitwise_42 : decode bM_bitwise 42 = .ok (.invokevirtual 126, 3) := by decide +kernel
theorem dM_bitwise_45 : decode bM_bitwise 45 = .ok (.ifCond .eq 7, 3) := by decide +kernel
theorem dM_bitwise_48 : decode bM_bitwise 48 = .ok (.iconst 1, 1) := by decide +kernel
theorem dM_bitwise_49 : decode bM_bitwise 49 = .ok (.goto 4, 3) := by decide +kernel
theorem dM_bitwise_52 : decode bM_bitwise 52 = .ok (.iconst 0, 1) := by decide +kernel
theorem dM_bitwise_53 : decode bM_bitwise 53 = .ok (.istore_n 3, 1) := by decide +kernel
theorem dM_bitwise_54 : decode bM_bitwise 54 = .ok (.iload_n 2, 1) := by decide +kernel
theorem dM_bitwise_55 : decode bM_bitwise 55 = .ok (.ifCond .eq 7, 3) := by decide +kernel
theorem dM_bitwise_58 : decode bM_bitwise 58 = .ok (.iload_n 3, 1) := by decide +kernel
theorem dM_bitwise_59 : decode bM_bitwise 59 = .ok (.ifCond .ne 5, 3) := by decide +kernel
theorem dM_bitwise_62 : decode bM_bitwise 62 = .ok (.iconst 2, 1) := by decide +kernel
theorem dM_bitwise_63 : decode bM_bitwise 63 = .ok (.ireturn, 1) := by decide +kernel
theorem dM_bitwise_64 : decode bM_bitwise 64 = .ok (.aload_n 0, 1) := by decide +kernel
theorem dM_bitwise_65 : decode bM_bitwise 65 = .ok (.aload_n 0, 1) := by decide +kernel
theorem dM_bitwise_66 : decode bM_bitwise 66 = .ok (.getfield 51, 3) := by decide +kernel
theorem dM_bitwise_69 : decode bM_bitwise 69 = .ok (.aload_n 0, 1) := by decide +kernel
theorem dM_bitwise_70 : decode bM_bitwise 70 = .ok (.getfield 54, 3) := by decide +kernel
theorem dM_bitwise_73 : decode bM_bitwise 73 = .ok (.aload_n 0, 1) := by decide +kernel
theorem dM_bitwise_74 : decode bM_bitwise 74 = .ok (.getfield 57, 3) := by decide +kernel
theorem dM_bitwise_77 : decode bM_bitwise 77 = .ok (.invokevirtual 130, 3) := by decide +kernel
theorem dM_bitwise_80 : decode bM_bitwise 80 = .ok (.lstore 4, 2) := by decide +kernel
theorem dM_bitwise_82 : decode bM_bitwise 82 = .ok (.iload_n 1, 1) := by decide +kernel
theorem dM_bitwise_83 : decode bM_bitwise 83 = .ok (.bipush 13, 2) := by decide +kernel
theorem dM_bitwise_85 : decode bM_bitwise 85 = .ok (.if_icmp .eq 9, 3) := by decide +kernel
theorem dM_bitwise_88 : decode bM_bitwise 88 = .ok (.iload_n 1, 1) := by decide +kernel
theorem dM_bitwise_89 : decode bM_bitwise 89 = .ok (.bipush 16, 2) := by decide +kernel
theorem dM_bitwise_91 : decode bM_bitwise 91 = .ok (.if_icmp .ne 7, 3) := by decide +kernel
theorem dM_bitwise_94 : decode bM_bitwise 94 = .ok (.lconst 0, 1) := by decide +kernel
theorem dM_bitwise_95 : decode bM_bitwise 95 = .ok (.goto 19, 3) := by decide +kernel
theorem dM_bitwise_98 : decode bM_bitwise 98 = .ok (.aload_n 0, 1) := by decide +kernel
theorem dM_bitwise_99 : decode bM_bitwise 99 = .ok (.aload_n 0, 1) := by decide +kernel
theorem dM_bitwise_100 : decode bM_bitwise 100 = .ok (.getfield 60, 3) := by decide +kernel
theorem dM_bitwise_103 : decode bM_bitwise 103 = .ok (.aload_n 0, 1) := by decide +kernel
theorem dM_bitwise_104 : decode bM_bitwise 104 = .ok (.getfield 63, 3) := by decide +kernel
theorem dM_bitwise_107 : decode bM_bitwise 107 = .ok (.aload_n 0, 1) := by decide +kernel
theorem dM_bitwise_108 : decode bM_bitwise 108 = .ok (.getfield 66, 3) := by decide +kernel
theorem dM_bitwise_111 : decode bM_bitwise 111 = .ok (.invokevirtual 130, 3) := by decide +kernel
theorem dM_bitwise_114 : decode bM_bitwise 114 = .ok (.lstore 6, 2) := by decide +kernel
theorem dM_bitwise_116 : decode bM_bitwise 116 = .ok (.iload_n 1, 1) := by decide +kernel
theorem dM_bitwise_117 : decode bM_bitwise 117 = .ok (.tableswitch 128 7 13 #[43, 54, 65, 76, 89, 128, 116], 43) := by decide +kernel
theorem dM_bitwise_160 : decode bM_bitwise 160 = .ok (.aload_n 0, 1) := by decide +kernel
theorem dM_bitwise_161 : decode bM_bitwise 161 = .ok (.lload 4, 2) := by decide +kernel
theorem dM_bitwise_163 : decode bM_bitwise 163 = .ok (.lload 6, 2) := by decide +kernel
theorem dM_bitwise_165 : decode bM_bitwise 165 = .ok (.land, 1) := by decide +kernel
theorem dM_bitwise_166 : decode bM_bitwise 166 = .ok (.invokevirtual 134, 3) := by decide +kernel
theorem dM_bitwise_169 : decode bM_bitwise 169 = .ok (.iconst 0, 1) := by decide +kernel
theorem dM_bitwise_170 : decode bM_bitwise 170 = .ok (.ireturn, 1) := by decide +kernel
theorem dM_bitwise_171 : decode bM_bitwise 171 = .ok (.aload_n 0, 1) := by decide +kernel
theorem dM_bitwise_172 : decode bM_bitwise 172 = .ok (.lload 4, 2) := by decide +kernel
theorem dM_bitwise_174 : decode bM_bitwise 174 = .ok (.lload 6, 2) := by decide +kernel
theorem dM_bitwise_176 : decode bM_bitwise 176 = .ok (.lor, 1) := by decide +kernel
theorem dM_bitwise_177 : decode bM_bitwise 177 = .ok (.invokevirtual 134, 3) := by decide +kernel
theorem dM_bitwise_180 : decode bM_bitwise 180 = .ok (.iconst 0, 1) := by decide +kernel
theorem dM_bitwise_181 : decode bM_bitwise 181 = .ok (.ireturn, 1) := by decide +kernel
theorem dM_bitwise_182 : decode bM_bitwise 182 = .ok (.aload_n 0, 1) := by decide +kernel
theorem dM_bitwise_183 : decode bM_bitwise 183 = .ok (.lload 4, 2) := by decide +kernel
theorem dM_bitwise_185 : decode bM_bitwise 185 = .ok (.lload 6, 2) := by decide +kernel
theorem dM_bitwise_187 : decode bM_bitwise 187 = .ok (.lxor, 1) := by decide +kernel
theorem dM_bitwise_188 : decode bM_bitwise 188 = .ok (.invokevirtual 134, 3) := by decide +kernel
theorem dM_bitwise_191 : decode bM_bitwise 191 = .ok (.iconst 0, 1) := by decide +kernel
theorem dM_bitwise_192 : decode bM_bitwise 192 = .ok (.ireturn, 1) := by decide +kernel
theorem dM_bitwise_193 : decode bM_bitwise 193 = .ok (.aload_n 0, 1) := by decide +kernel
theorem dM_bitwise_194 : decode bM_bitwise 194 = .ok (.lload 4, 2) := by decide +kernel
theorem dM_bitwise_196 : decode bM_bitwise 196 = .ok (.lload 6, 2) := by decide +kernel
theorem dM_bitwise_198 : decode bM_bitwise 198 = .ok (.invokestatic 138, 3) := by decide +kernel
theorem dM_bitwise_201 : decode bM_bitwise 201 = .ok (.invokevirtual 134, 3) := by decide +kernel
theorem dM_bitwise_204 : decode bM_bitwise 204 = .ok (.iconst 0, 1) := by decide +kernel
theorem dM_bitwise_205 : decode bM_bitwise 205 = .ok (.ireturn, 1) := by decide +kernel
theorem dM_bitwise_206 : decode bM_bitwise 206 = .ok (.aload_n 0, 1) := by decide +kernel
theorem dM_bitwise_207 : decode bM_bitwise 207 = .ok (.lload 6, 2) := by decide +kernel
theorem dM_bitwise_209 : decode bM_bitwise 209 = .ok (.ldc2_w 41, 3) := by decide +kernel
theorem dM_bitwise_212 : decode bM_bitwise 212 = .ok (.lcmp, 1) := by decide +kernel
theorem dM_bitwise_213 : decode bM_bitwise 213 = .ok (.ifCond .ne 7, 3) := by decide +kernel
theorem dM_bitwise_216 : decode bM_bitwise 216 = .ok (.lconst 0, 1) := by decide +kernel
theorem dM_bitwise_217 : decode bM_bitwise 217 = .ok (.goto 11, 3) := by decide +kernel
theorem dM_bitwise_220 : decode bM_bitwise 220 = .ok (.lload 4, 2) := by decide +kernel
theorem dM_bitwise_222 : decode bM_bitwise 222 = .ok (.lload 6, 2) := by decide +kernel
theorem dM_bitwise_224 : decode bM_bitwise 224 = .ok (.lneg, 1) := by decide +kernel
theorem dM_bitwise_225 : decode bM_bitwise 225 = .ok (.invokestatic 138, 3) := by decide +kernel
theorem dM_bitwise_228 : decode bM_bitwise 228 = .ok (.invokevirtual 134, 3) := by decide +kernel
theorem dM_bitwise_231 : decode bM_bitwise 231 = .ok (.iconst 0, 1) := by decide +kernel
theorem dM_bitwise_232 : decode bM_bitwise 232 = .ok (.ireturn, 1) := by decide +kernel
theorem dM_bitwise_233 : decode bM_bitwise 233 = .ok (.aload_n 0, 1) := by decide +kernel
theorem dM_bitwise_234 : decode bM_bitwise 234 = .ok (.lload 4, 2) := by decide +kernel
theorem dM_bitwise_236 : decode bM_bitwise 236 = .ok (.ldc2_w 112, 3) := by decide +kernel
theorem dM_bitwise_239 : decode bM_bitwise 239 = .ok (.lxor, 1) := by decide +kernel
theorem dM_bitwise_240 : decode bM_bitwise 240 = .ok (.invokevirtual 134, 3) := by decide +kernel
theorem dM_bitwise_243 : decode bM_bitwise 243 = .ok (.iconst 0, 1) := by decide +kernel
theorem dM_bitwise_244 : decode bM_bitwise 244 = .ok (.ireturn, 1) := by decide +kernel
theorem dM_bitwise_245 : decode bM_bitwise 245 = .ok (.aload_n 0, 1) := by decide +kernel
theorem dM_bitwise_246 : decode bM_bitwise 246 = .ok (.lload 4, 2) := by decide +kernel
theorem dM_bitwise_248 : decode bM_bitwise 248 = .ok (.invokevirtual 134, 3) := by decide +kernel
theorem dM_bitwise_251 : decode bM_bitwise 251 = .ok (.iconst 0, 1) := by decide +kernel
theorem dM_bitwise_252 : decode bM_bitwise 252 = .ok (.ireturn, 1) := by decide +kernel
theorem dM_isWhole_0 : decode bM_isWhole 0 = .ok (.iload_n 1, 1) := by decide +kernel
theorem dM_isWhole_1 : decode bM_isWhole 1 = .ok (.iconst 1, 1) := by decide +kernel
theorem dM_isWhole_2 : decode bM_isWhole 2 = .ok (.if_icmp .ne 5, 3) := by decide +kernel
theorem dM_isWhole_5 : decode bM_isWhole 5 = .ok (.iconst 1, 1) := by decide +kernel
theorem dM_isWhole_6 : decode bM_isWhole 6 = .ok (.ireturn, 1) := by decide +kernel
theorem dM_isWhole_7 : decode bM_isWhole 7 = .ok (.iload_n 1, 1) := by decide +kernel
theorem dM_isWhole_8 : decode bM_isWhole 8 = .ok (.iconst 2, 1) := by decide +kernel
theorem dM_isWhole_9 : decode bM_isWhole 9 = .ok (.if_icmp .ne 15, 3) := by decide +kernel
theorem dM_isWhole_12 : decode bM_isWhole 12 = .ok (.iload 4, 2) := by decide +kernel
theorem dM_isWhole_14 : decode bM_isWhole 14 = .ok (.ifCond .lt 10, 3) := by decide +kernel
theorem dM_isWhole_17 : decode bM_isWhole 17 = .ok (.iload 4, 2) := by decide +kernel
theorem dM_isWhole_19 : decode bM_isWhole 19 = .ok (.bipush 63, 2) := by decide +kernel
theorem dM_isWhole_21 : decode bM_isWhole 21 = .ok (.if_icmp .le 5, 3) := by decide +kernel
theorem dM_isWhole_24 : decode bM_isWhole 24 = .ok (.iconst 0, 1) := by decide +kernel
theorem dM_isWhole_25 : decode bM_isWhole 25 = .ok (.ireturn, 1) := by decide +kernel
theorem dM_isWhole_26 : decode bM_isWhole 26 = .ok (.iload 4, 2) := by decide +kernel
theorem dM_isWhole_28 : decode bM_isWhole 28 = .ok (.bipush 63, 2) := by decide +kernel
theorem dM_isWhole_30 : decode bM_isWhole 30 = .ok (.if_icmp .ne 17, 3) := by decide +kernel
theorem dM_isWhole_33 : decode bM_isWhole 33 = .ok (.lload_n 2, 1) := by decide +kernel
theorem dM_isWhole_34 : decode bM_isWhole 34 = .ok (.ldc2_w 112, 3) := by decide +kernel
theorem dM_isWhole_37 : decode bM_isWhole 37 = .ok (.lcmp, 1) := by decide +kernel
theorem dM_isWhole_38 : decode bM_isWhole 38 = .ok (.ifCond .ne 7, 3) := by decide +kernel
theorem dM_isWhole_41 : decode bM_isWhole 41 = .ok (.iconst 1, 1) := by decide +kernel
theorem dM_isWhole_42 : decode bM_isWhole 42 = .ok (.goto 4, 3) := by decide +kernel
theorem dM_isWhole_45 : decode bM_isWhole 45 = .ok (.iconst 0, 1) := by decide +kernel
theorem dM_isWhole_46 : decode bM_isWhole 46 = .ok (.ireturn, 1) := by decide +kernel
theorem dM_isWhole_47 : decode bM_isWhole 47 = .ok (.lload_n 2, 1) := by decide +kernel
theorem dM_isWhole_48 : decode bM_isWhole 48 = .ok (.iload 4, 2) := by decide +kernel
theorem dM_isWhole_50 : decode bM_isWhole 50 = .ok (.lshl, 1) := by decide +kernel
theorem dM_isWhole_51 : decode bM_isWhole 51 = .ok (.iload 4, 2) := by decide +kernel
theorem dM_isWhole_53 : decode bM_isWhole 53 = .ok (.lshr, 1) := by decide +kernel
theorem dM_isWhole_54 : decode bM_isWhole 54 = .ok (.lload_n 2, 1) := by decide +kernel
theorem dM_isWhole_55 : decode bM_isWhole 55 = .ok (.lcmp, 1) := by decide +kernel
theorem dM_isWhole_56 : decode bM_isWhole 56 = .ok (.ifCond .ne 7, 3) := by decide +kernel
theorem dM_isWhole_59 : decode bM_isWhole 59 = .ok (.iconst 1, 1) := by decide +kernel
theorem dM_isWhole_60 : decode bM_isWhole 60 = .ok (.goto 4, 3) := by decide +kernel
theorem dM_isWhole_63 : decode bM_isWhole 63 = .ok (.iconst 0, 1) := by decide +kernel
theorem dM_isWhole_64 : decode bM_isWhole 64 = .ok (.ireturn, 1) := by decide +kernel
theorem dM_wholeOf_0 : decode bM_wholeOf 0 = .ok (.iload_n 1, 1) := by decide +kernel
theorem dM_wholeOf_1 : decode bM_wholeOf 1 = .ok (.iconst 1, 1) := by decide +kernel
theorem dM_wholeOf_2 : decode bM_wholeOf 2 = .ok (.if_icmp .ne 7, 3) := by decide +kernel
theorem dM_wholeOf_5 : decode bM_wholeOf 5 = .ok (.lload_n 2, 1) := by decide +kernel
theorem dM_wholeOf_6 : decode bM_wholeOf 6 = .ok (.goto 7, 3) := by decide +kernel
theorem dM_wholeOf_9 : decode bM_wholeOf 9 = .ok (.lload_n 2, 1) := by decide +kernel
theorem dM_wholeOf_10 : decode bM_wholeOf 10 = .ok (.iload 4, 2) := by decide +kernel
theorem dM_wholeOf_12 : decode bM_wholeOf 12 = .ok (.lshl, 1) := by decide +kernel
theorem dM_wholeOf_13 : decode bM_wholeOf 13 = .ok (.lreturn, 1) := by decide +kernel
theorem dM_shifted_0 : decode bM_shifted 0 = .ok (.lload_n 2, 1) := by decide +kernel
theorem dM_shifted_1 : decode bM_shifted 1 = .ok (.ldc2_w 122, 3) := by decide +kernel
theorem dM_shifted_4 : decode bM_shifted 4 = .ok (.lcmp, 1) := by decide +kernel
theorem dM_shifted_5 : decode bM_shifted 5 = .ok (.ifCond .ge 11, 3) := by decide +kernel
theorem dM_shifted_8 : decode bM_shifted 8 = .ok (.lload_n 2, 1) := by decide +kernel
theorem dM_shifted_9 : decode bM_shifted 9 = .ok (.ldc2_w 124, 3) := by decide +kernel
theorem dM_shifted_12 : decode bM_shifted 12 = .ok (.lcmp, 1) := by decide +kernel
theorem dM_shifted_13 : decode bM_shifted 13 = .ok (.ifCond .gt 5, 3) := by decide +kernel
theorem dM_shifted_16 : decode bM_shifted 16 = .ok (.lconst 0, 1) := by decide +kernel
theorem dM_shifted_17 : decode bM_shifted 17 = .ok (.lreturn, 1) := by decide +kernel
theorem dM_shifted_18 : decode bM_shifted 18 = .ok (.lload_n 2, 1) := by decide +kernel
theorem dM_shifted_19 : decode bM_shifted 19 = .ok (.lconst 0, 1) := by decide +kernel
theorem dM_shifted_20 : decode bM_shifted 20 = .ok (.lcmp, 1) := by decide +kernel
theorem dM_shifted_21 : decode bM_shifted 21 = .ok (.ifCond .ge 11, 3) := by decide +kernel
theorem dM_shifted_24 : decode bM_shifted 24 = .ok (.lload_n 0, 1) := by decide +kernel
theorem dM_shifted_25 : decode bM_shifted 25 = .ok (.lload_n 2, 1) := by decide +kernel
theorem dM_shifted_26 : decode bM_shifted 26 = .ok (.lneg, 1) := by decide +kernel
theorem dM_shifted_27 : decode bM_shifted 27 = .ok (.l2i, 1) := by decide +kernel
theorem dM_shifted_28 : decode bM_shifted 28 = .ok (.lushr, 1) := by decide +kernel
theorem dM_shifted_29 : decode bM_shifted 29 = .ok (.goto 7, 3) := by decide +kernel
theorem dM_shifted_32 : decode bM_shifted 32 = .ok (.lload_n 0, 1) := by decide +kernel
theorem dM_shifted_33 : decode bM_shifted 33 = .ok (.lload_n 2, 1) := by decide +kernel
theorem dM_shifted_34 : decode bM_shifted 34 = .ok (.l2i, 1) := by decide +kernel
theorem dM_shifted_35 : decode bM_shifted 35 = .ok (.lshl, 1) := by decide +kernel
theorem dM_shifted_36 : decode bM_shifted 36 = .ok (.lreturn, 1) := by decide +kernel
theorem dM_single_0 : decode bM_single 0 = .ok (.iload_n 1, 1) := by decide +kernel
theorem dM_single_1 : decode bM_single 1 = .ok (.bipush 12, 2) := by decide +kernel
theorem dM_single_3 : decode bM_single 3 = .ok (.if_icmp .ne 10, 3) := by decide +kernel
theorem dM_single_6 : decode bM_single 6 = .ok (.aload_n 0, 1) := by decide +kernel
theorem dM_single_7 : decode bM_single 7 = .ok (.invokevirtual 177, 3) := by decide +kernel
theorem dM_single_10 : decode bM_single 10 = .ok (.goto 58, 3) := by decide +kernel
theorem dM_single_13 : decode bM_single 13 = .ok (.iload_n 1, 1) := by decide +kernel
theorem dM_single_14 : decode bM_single 14 = .ok (.bipush 14, 2) := by decide +kernel
theorem dM_single_16 : decode bM_single 16 = .ok (.if_icmp .ne 10, 3) := by decide +kernel
theorem dM_single_19 : decode bM_single 19 = .ok (.aload_n 0, 1) := by decide +kernel
theorem dM_single_20 : decode bM_single 20 = .ok (.invokevirtual 180, 3) := by decide +kernel
theorem dM_single_23 : decode bM_single 23 = .ok (.goto 45, 3) := by decide +kernel
theorem dM_single_26 : decode bM_single 26 = .ok (.iload_n 1, 1) := by decide +kernel
theorem dM_single_27 : decode bM_single 27 = .ok (.bipush 15, 2) := by decide +kernel
theorem dM_single_29 : decode bM_single 29 = .ok (.if_icmp .ne 14, 3) := by decide +kernel
theorem dM_single_32 : decode bM_single 32 = .ok (.aload_n 0, 1) := by decide +kernel
theorem dM_single_33 : decode bM_single 33 = .ok (.invokevirtual 145, 3) := by decide +kernel
theorem dM_single_36 : decode bM_single 36 = .ok (.aload_n 0, 1) := by decide +kernel
theorem dM_single_37 : decode bM_single 37 = .ok (.invokevirtual 174, 3) := by decide +kernel
theorem dM_single_40 : decode bM_single 40 = .ok (.goto 28, 3) := by decide +kernel
theorem dM_single_43 : decode bM_single 43 = .ok (.aload_n 0, 1) := by decide +kernel
theorem dM_single_44 : decode bM_single 44 = .ok (.getfield 51, 3) := by decide +kernel
theorem dM_single_47 : decode bM_single 47 = .ok (.aload_n 0, 1) := by decide +kernel
theorem dM_single_48 : decode bM_single 48 = .ok (.getfield 54, 3) := by decide +kernel
theorem dM_single_51 : decode bM_single 51 = .ok (.invokestatic 101, 3) := by decide +kernel
theorem dM_single_54 : decode bM_single 54 = .ok (.ifCond .ge 10, 3) := by decide +kernel
theorem dM_single_57 : decode bM_single 57 = .ok (.aload_n 0, 1) := by decide +kernel
theorem dM_single_58 : decode bM_single 58 = .ok (.invokevirtual 177, 3) := by decide +kernel
theorem dM_single_61 : decode bM_single 61 = .ok (.goto 7, 3) := by decide +kernel
theorem dM_single_64 : decode bM_single 64 = .ok (.aload_n 0, 1) := by decide +kernel
theorem dM_single_65 : decode bM_single 65 = .ok (.invokevirtual 174, 3) := by decide +kernel
theorem dM_single_68 : decode bM_single 68 = .ok (.iconst 0, 1) := by decide +kernel
theorem dM_single_69 : decode bM_single 69 = .ok (.ireturn, 1) := by decide +kernel
theorem dM_negative_0 : decode bM_negative 0 = .ok (.aload_n 0, 1) := by decide +kernel
theorem dM_negative_1 : decode bM_negative 1 = .ok (.getfield 51, 3) := by decide +kernel
theorem dM_negative_4 : decode bM_negative 4 = .ok (.iconst 1, 1) := by decide +kernel
theorem dM_negative_5 : decode bM_negative 5 = .ok (.if_icmp .ne 15, 3) := by decide +kernel
theorem dM_negative_8 : decode bM_negative 8 = .ok (.aload_n 0, 1) := by decide +kernel
theorem dM_negative_9 : decode bM_negative 9 = .ok (.aload_n 0, 1) := by decide +kernel
theorem dM_negative_10 : decode bM_negative 10 = .ok (.getfield 54, 3) := by decide +kernel
theorem dM_negative_13 : decode bM_negative 13 = .ok (.lneg, 1) := by decide +kernel
theorem dM_negative_14 : decode bM_negative 14 = .ok (.invokevirtual 134, 3) := by decide +kernel
theorem dM_negative_17 : decode bM_negative 17 = .ok (.goto 56, 3) := by decide +kernel
theorem dM_negative_20 : decode bM_negative 20 = .ok (.aload_n 0, 1) := by decide +kernel
theorem dM_negative_21 : decode bM_negative 21 = .ok (.getfield 51, 3) := by decide +kernel
theorem dM_negative_24 : decode bM_negative 24 = .ok (.iconst 2, 1) := by decide +kernel
theorem dM_negative_25 : decode bM_negative 25 = .ok (.if_icmp .ne 19, 3) := by decide +kernel
theorem dM_negative_28 : decode bM_negative 28 = .ok (.aload_n 0, 1) := by decide +kernel
theorem dM_negative_29 : decode bM_negative 29 = .ok (.aload_n 0, 1) := by decide +kernel
theorem dM_negative_30 : decode bM_negative 30 = .ok (.getfield 54, 3) := by decide +kernel
theorem dM_negative_33 : decode bM_negative 33 = .ok (.lneg, 1) := by decide +kernel
theorem dM_negative_34 : decode bM_negative 34 = .ok (.aload_n 0, 1) := by decide +kernel
theorem dM_negative_35 : decode bM_negative 35 = .ok (.getfield 57, 3) := by decide +kernel
theorem dM_negative_38 : decode bM_negative 38 = .ok (.invokevirtual 31, 3) := by decide +kernel
theorem dM_negative_41 : decode bM_negative 41 = .ok (.goto 32, 3) := by decide +kernel
theorem dM_negative_44 : decode bM_negative 44 = .ok (.aload_n 0, 1) := by decide +kernel
theorem dM_negative_45 : decode bM_negative 45 = .ok (.aload_n 0, 1) := by decide +kernel
theorem dM_negative_46 : decode bM_negative 46 = .ok (.getfield 51, 3) := by decide +kernel
theorem dM_negative_49 : decode bM_negative 49 = .ok (.iconst 3, 1) := by decide +kernel
theorem dM_negative_50 : decode bM_negative 50 = .ok (.if_icmp .ne 7, 3) := by decide +kernel
theorem dM_negative_53 : decode bM_negative 53 = .ok (.iconst 4, 1) := by decide +kernel
theorem dM_negative_54 : decode bM_negative 54 = .ok (.goto 16, 3) := by decide +kernel
theorem dM_negative_57 : decode bM_negative 57 = .ok (.aload_n 0, 1) := by decide +kernel
theorem dM_negative_58 : decode bM_negative 58 = .ok (.getfield 51, 3) := by decide +kernel
theorem dM_negative_61 : decode bM_negative 61 = .ok (.iconst 4, 1) := by decide +kernel
theorem dM_negative_62 : decode bM_negative 62 = .ok (.if_icmp .ne 7, 3) := by decide +kernel
theorem dM_negative_65 : decode bM_negative 65 = .ok (.iconst 3, 1) := by decide +kernel
theorem dM_negative_66 : decode bM_negative 66 = .ok (.goto 4, 3) := by decide +kernel
theorem dM_negative_69 : decode bM_negative 69 = .ok (.iconst 5, 1) := by decide +kernel
theorem dM_negative_70 : decode bM_negative 70 = .ok (.invokevirtual 35, 3) := by decide +kernel
theorem dM_negative_73 : decode bM_negative 73 = .ok (.return_, 1) := by decide +kernel
theorem dM_floorOfA_0 : decode bM_floorOfA 0 = .ok (.aload_n 0, 1) := by decide +kernel
theorem dM_floorOfA_1 : decode bM_floorOfA 1 = .ok (.invokevirtual 174, 3) := by decide +kernel
theorem dM_floorOfA_4 : decode bM_floorOfA 4 = .ok (.aload_n 0, 1) := by decide +kernel
theorem dM_floorOfA_5 : decode bM_floorOfA 5 = .ok (.invokevirtual 160, 3) := by decide +kernel
theorem dM_floorOfA_8 : decode bM_floorOfA 8 = .ok (.aload_n 0, 1) := by decide +kernel
theorem dM_floorOfA_9 : decode bM_floorOfA 9 = .ok (.getfield 20, 3) := by decide +kernel
theorem dM_floorOfA_12 : decode bM_floorOfA 12 = .ok (.iconst 2, 1) := by decide +kernel
theorem dM_floorOfA_13 : decode bM_floorOfA 13 = .ok (.if_icmp .ne 42, 3) := by decide +kernel
theorem dM_floorOfA_16 : decode bM_floorOfA 16 = .ok (.aload_n 0, 1) := by decide +kernel
theorem dM_floorOfA_17 : decode bM_floorOfA 17 = .ok (.aload_n 0, 1) := by decide +kernel
theorem dM_floorOfA_18 : decode bM_floorOfA 18 = .ok (.getfield 20, 3) := by decide +kernel
theorem dM_floorOfA_21 : decode bM_floorOfA 21 = .ok (.aload_n 0, 1) := by decide +kernel
theorem dM_floorOfA_22 : decode bM_floorOfA 22 = .ok (.getfield 24, 3) := by decide +kernel
theorem dM_floorOfA_25 : decode bM_floorOfA 25 = .ok (.aload_n 0, 1) := by decide +kernel
theorem dM_floorOfA_26 : decode bM_floorOfA 26 = .ok (.getfield 28, 3) := by decide +kernel
theorem dM_floorOfA_29 : decode bM_floorOfA 29 = .ok (.invokevirtual 126, 3) := by decide +kernel
theorem dM_floorOfA_32 : decode bM_floorOfA 32 = .ok (.ifCond .eq 23, 3) := by decide +kernel
theorem dM_floorOfA_35 : decode bM_floorOfA 35 = .ok (.aload_n 0, 1) := by decide +kernel
theorem dM_floorOfA_36 : decode bM_floorOfA 36 = .ok (.aload_n 0, 1) := by decide +kernel
theorem dM_floorOfA_37 : decode bM_floorOfA 37 = .ok (.aload_n 0, 1) := by decide +kernel
theorem dM_floorOfA_38 : decode bM_floorOfA 38 = .ok (.getfield 20, 3) := by decide +kernel
theorem dM_floorOfA_41 : decode bM_floorOfA 41 = .ok (.aload_n 0, 1) := by decide +kernel
theorem dM_floorOfA_42 : decode bM_floorOfA 42 = .ok (.getfield 24, 3) := by decide +kernel
theorem dM_floorOfA_45 : decode bM_floorOfA 45 = .ok (.aload_n 0, 1) := by decide +kernel
theorem dM_floorOfA_46 : decode bM_floorOfA 46 = .ok (.getfield 28, 3) := by decide +kernel
theorem dM_floorOfA_49 : decode bM_floorOfA 49 = .ok (.invokevirtual 130, 3) := by decide +kernel
theorem dM_floorOfA_52 : decode bM_floorOfA 52 = .ok (.invokevirtual 134, 3) := by decide +kernel
theorem dM_floorOfA_55 : decode bM_floorOfA 55 = .ok (.return_, 1) := by decide +kernel
theorem dM_copyA_0 : decode bM_copyA 0 = .ok (.aload_n 0, 1) := by decide +kernel
theorem dM_copyA_1 : decode bM_copyA 1 = .ok (.aload_n 0, 1) := by decide +kernel
theorem dM_copyA_2 : decode bM_copyA 2 = .ok (.getfield 51, 3) := by decide +kernel
theorem dM_copyA_5 : decode bM_copyA 5 = .ok (.putfield 20, 3) := by decide +kernel
theorem dM_copyA_8 : decode bM_copyA 8 = .ok (.aload_n 0, 1) := by decide +kernel
theorem dM_copyA_9 : decode bM_copyA 9 = .ok (.aload_n 0, 1) := by decide +kernel
theorem dM_copyA_10 : decode bM_copyA 10 = .ok (.getfield 54, 3) := by decide +kernel
theorem dM_copyA_13 : decode bM_copyA 13 = .ok (.putfield 24, 3) := by decide +kernel
theorem dM_copyA_16 : decode bM_copyA 16 = .ok (.aload_n 0, 1) := by decide +kernel
theorem dM_copyA_17 : decode bM_copyA 17 = .ok (.aload_n 0, 1) := by decide +kernel
theorem dM_copyA_18 : decode bM_copyA 18 = .ok (.getfield 57, 3) := by decide +kernel
theorem dM_copyA_21 : decode bM_copyA 21 = .ok (.putfield 28, 3) := by decide +kernel
theorem dM_copyA_24 : decode bM_copyA 24 = .ok (.return_, 1) := by decide +kernel
theorem dM_roundDown_0 : decode bM_roundDown 0 = .ok (.aload_n 0, 1) := by decide +kernel
theorem dM_roundDown_1 : decode bM_roundDown 1 = .ok (.getfield 20, 3) := by decide +kernel
theorem dM_roundDown_4 : decode bM_roundDown 4 = .ok (.iconst 2, 1) := by decide +kernel
theorem dM_roundDown_5 : decode bM_roundDown 5 = .ok (.if_icmp .ne 10, 3) := by decide +kernel
theorem dM_roundDown_8 : decode bM_roundDown 8 = .ok (.aload_n 0, 1) := by decide +kernel
theorem dM_roundDown_9 : decode bM_roundDown 9 = .ok (.getfield 28, 3) := by decide +kernel
theorem dM_roundDown_12 : decode bM_roundDown 12 = .ok (.ifCond .lt 4, 3) := by decide +kernel
theorem dM_roundDown_15 : decode bM_roundDown 15 = .ok (.return_, 1) := by decide +kernel
theorem dM_roundDown_16 : decode bM_roundDown 16 = .ok (.aload_n 0, 1) := by decide +kernel
theorem dM_roundDown_17 : decode bM_roundDown 17 = .ok (.getfield 28, 3) := by decide +kernel
theorem dM_roundDown_20 : decode bM_roundDown 20 = .ok (.bipush (-62), 2) := by decide +kernel
theorem dM_roundDown_22 : decode bM_roundDown 22 = .ok (.if_icmp .ge 27, 3) := by decide +kernel
theorem dM_roundDown_25 : decode bM_roundDown 25 = .ok (.aload_n 0, 1) := by decide +kernel
theorem dM_roundDown_26 : decode bM_roundDown 26 = .ok (.aload_n 0, 1) := by decide +kernel
theorem dM_roundDown_27 : decode bM_roundDown 27 = .ok (.getfield 24, 3) := by decide +kernel
theorem dM_roundDown_30 : decode bM_roundDown 30 = .ok (.lconst 0, 1) := by decide +kernel
theorem dM_roundDown_31 : decode bM_roundDown 31 = .ok (.lcmp, 1) := by decide +kernel
theorem dM_roundDown_32 : decode bM_roundDown 32 = .ok (.ifCond .ge 9, 3) := by decide +kernel
theorem dM_roundDown_35 : decode bM_roundDown 35 = .ok (.ldc2_w 112, 3) := by decide +kernel
theorem dM_roundDown_38 : decode bM_roundDown 38 = .ok (.goto 4, 3) := by decide +kernel
theorem dM_roundDown_41 : decode bM_roundDown 41 = .ok (.lconst 0, 1) := by decide +kernel
theorem dM_roundDown_42 : decode bM_roundDown 42 = .ok (.iconst 0, 1) := by decide +kernel
theorem dM_roundDown_43 : decode bM_roundDown 43 = .ok (.invokevirtual 31, 3) := by decide +kernel
theorem dM_roundDown_46 : decode bM_roundDown 46 = .ok (.goto 18, 3) := by decide +kernel
theorem dM_roundDown_49 : decode bM_roundDown 49 = .ok (.aload_n 0, 1) := by decide +kernel
theorem dM_roundDown_50 : decode bM_roundDown 50 = .ok (.aload_n 0, 1) := by decide +kernel
theorem dM_roundDown_51 : decode bM_roundDown 51 = .ok (.getfield 24, 3) := by decide +kernel
theorem dM_roundDown_54 : decode bM_roundDown 54 = .ok (.aload_n 0, 1) := by decide +kernel
theorem dM_roundDown_55 : decode bM_roundDown 55 = .ok (.getfield 28, 3) := by decide +kernel
theorem dM_roundDown_58 : decode bM_roundDown 58 = .ok (.ineg, 1) := by decide +kernel
theorem dM_roundDown_59 : decode bM_roundDown 59 = .ok (.lshr, 1) := by decide +kernel
theorem dM_roundDown_60 : decode bM_roundDown 60 = .ok (.iconst 0, 1) := by decide +kernel
theorem dM_roundDown_61 : decode bM_roundDown 61 = .ok (.invokevirtual 31, 3) := by decide +kernel
theorem dM_roundDown_64 : decode bM_roundDown 64 = .ok (.return_, 1) := by decide +kernel
theorem dM_realA_0 : decode bM_realA 0 = .ok (.aload_n 0, 1) := by decide +kernel
theorem dM_realA_1 : decode bM_realA 1 = .ok (.getfield 51, 3) := by decide +kernel
theorem dM_realA_4 : decode bM_realA 4 = .ok (.iconst 1, 1) := by decide +kernel
theorem dM_realA_5 : decode bM_realA 5 = .ok (.if_icmp .ne 16, 3) := by decide +kernel
theorem dM_realA_8 : decode bM_realA 8 = .ok (.aload_n 0, 1) := by decide +kernel
theorem dM_realA_9 : decode bM_realA 9 = .ok (.aload_n 0, 1) := by decide +kernel
theorem dM_realA_10 : decode bM_realA 10 = .ok (.getfield 54, 3) := by decide +kernel
theorem dM_realA_13 : decode bM_realA 13 = .ok (.iconst 0, 1) := by decide +kernel
theorem dM_realA_14 : decode bM_realA 14 = .ok (.invokevirtual 69, 3) := by decide +kernel
theorem dM_realA_17 : decode bM_realA 17 = .ok (.aload_n 0, 1) := by decide +kernel
theorem dM_realA_18 : decode bM_realA 18 = .ok (.invokevirtual 72, 3) := by decide +kernel
theorem dM_realA_21 : decode bM_realA 21 = .ok (.return_, 1) := by decide +kernel
theorem dM_resultToA_0 : decode bM_resultToA 0 = .ok (.aload_n 0, 1) := by decide +kernel
theorem dM_resultToA_1 : decode bM_resultToA 1 = .ok (.aload_n 0, 1) := by decide +kernel
theorem dM_resultToA_2 : decode bM_resultToA 2 = .ok (.getfield 20, 3) := by decide +kernel
theorem dM_resultToA_5 : decode bM_resultToA 5 = .ok (.putfield 51, 3) := by decide +kernel
theorem dM_resultToA_8 : decode bM_resultToA 8 = .ok (.aload_n 0, 1) := by decide +kernel
theorem dM_resultToA_9 : decode bM_resultToA 9 = .ok (.aload_n 0, 1) := by decide +kernel
theorem dM_resultToA_10 : decode bM_resultToA 10 = .ok (.getfield 24, 3) := by decide +kernel
theorem dM_resultToA_13 : decode bM_resultToA 13 = .ok (.putfield 54, 3) := by decide +kernel
theorem dM_resultToA_16 : decode bM_resultToA 16 = .ok (.aload_n 0, 1) := by decide +kernel
theorem dM_resultToA_17 : decode bM_resultToA 17 = .ok (.aload_n 0, 1) := by decide +kernel
theorem dM_resultToA_18 : decode bM_resultToA 18 = .ok (.getfield 28, 3) := by decide +kernel
theorem dM_resultToA_21 : decode bM_resultToA 21 = .ok (.putfield 57, 3) := by decide +kernel
theorem dM_resultToA_24 : decode bM_resultToA 24 = .ok (.return_, 1) := by decide +kernel
theorem dM_signOf_0 : decode bM_signOf 0 = .ok (.iload_n 0, 1) := by decide +kernel
theorem dM_signOf_1 : decode bM_signOf 1 = .ok (.iconst 3, 1) := by decide +kernel
theorem dM_signOf_2 : decode bM_signOf 2 = .ok (.if_icmp .ne 5, 3) := by decide +kernel
theorem dM_signOf_5 : decode bM_signOf 5 = .ok (.iconst 1, 1) := by decide +kernel
theorem dM_signOf_6 : decode bM_signOf 6 = .ok (.ireturn, 1) := by decide +kernel
theorem dM_signOf_7 : decode bM_signOf 7 = .ok (.iload_n 0, 1) := by decide +kernel
theorem dM_signOf_8 : decode bM_signOf 8 = .ok (.iconst 4, 1) := by decide +kernel
theorem dM_signOf_9 : decode bM_signOf 9 = .ok (.if_icmp .ne 5, 3) := by decide +kernel
theorem dM_signOf_12 : decode bM_signOf 12 = .ok (.iconst (-1), 1) := by decide +kernel
theorem dM_signOf_13 : decode bM_signOf 13 = .ok (.ireturn, 1) := by decide +kernel
theorem dM_signOf_14 : decode bM_signOf 14 = .ok (.lload_n 1, 1) := by decide +kernel
theorem dM_signOf_15 : decode bM_signOf 15 = .ok (.lconst 0, 1) := by decide +kernel
theorem dM_signOf_16 : decode bM_signOf 16 = .ok (.lcmp, 1) := by decide +kernel
theorem dM_signOf_17 : decode bM_signOf 17 = .ok (.ifCond .ge 7, 3) := by decide +kernel
theorem dM_signOf_20 : decode bM_signOf 20 = .ok (.iconst (-1), 1) := by decide +kernel
theorem dM_signOf_21 : decode bM_signOf 21 = .ok (.goto 14, 3) := by decide +kernel
theorem dM_signOf_24 : decode bM_signOf 24 = .ok (.lload_n 1, 1) := by decide +kernel
theorem dM_signOf_25 : decode bM_signOf 25 = .ok (.lconst 0, 1) := by decide +kernel
theorem dM_signOf_26 : decode bM_signOf 26 = .ok (.lcmp, 1) := by decide +kernel
theorem dM_signOf_27 : decode bM_signOf 27 = .ok (.ifCond .le 7, 3) := by decide +kernel
theorem dM_signOf_30 : decode bM_signOf 30 = .ok (.iconst 1, 1) := by decide +kernel
theorem dM_signOf_31 : decode bM_signOf 31 = .ok (.goto 4, 3) := by decide +kernel
theorem dM_signOf_34 : decode bM_signOf 34 = .ok (.iconst 0, 1) := by decide +kernel
theorem dM_signOf_35 : decode bM_signOf 35 = .ok (.ireturn, 1) := by decide +kernel
theorem dM_wholes_0 : decode bM_wholes 0 = .ok (.iload_n 1, 1) := by decide +kernel
theorem dM_wholes_1 : decode bM_wholes 1 = .ok (.iconst 3, 1) := by decide +kernel
theorem dM_wholes_2 : decode bM_wholes 2 = .ok (.if_icmp .le 14, 3) := by decide +kernel
theorem dM_wholes_5 : decode bM_wholes 5 = .ok (.aload_n 0, 1) := by decide +kernel
theorem dM_wholes_6 : decode bM_wholes 6 = .ok (.getfield 63, 3) := by decide +kernel
theorem dM_wholes_9 : decode bM_wholes 9 = .ok (.lconst 0, 1) := by decide +kernel
theorem dM_wholes_10 : decode bM_wholes 10 = .ok (.lcmp, 1) := by decide +kernel
theorem dM_wholes_11 : decode bM_wholes 11 = .ok (.ifCond .ne 5, 3) := by decide +kernel
theorem dM_wholes_14 : decode bM_wholes 14 = .ok (.iconst 1, 1) := by decide +kernel
theorem dM_wholes_15 : decode bM_wholes 15 = .ok (.ireturn, 1) := by decide +kernel
theorem dM_wholes_16 : decode bM_wholes 16 = .ok (.iload_n 1, 1) := by decide +kernel
theorem dM_wholes_17 : decode bM_wholes 17 = .ok (.ifCond .ne 19, 3) := by decide +kernel
theorem dM_wholes_20 : decode bM_wholes 20 = .ok (.aload_n 0, 1) := by decide +kernel
theorem dM_wholes_21 : decode bM_wholes 21 = .ok (.aload_n 0, 1) := by decide +kernel
theorem dM_wholes_22 : decode bM_wholes 22 = .ok (.getfield 54, 3) := by decide +kernel
theorem dM_wholes_25 : decode bM_wholes 25 = .ok (.aload_n 0, 1) := by decide +kernel
theorem dM_wholes_26 : decode bM_wholes 26 = .ok (.getfield 63, 3) := by decide +kernel
theorem dM_wholes_29 : decode bM_wholes 29 = .ok (.ladd, 1) := by decide +kernel
theorem dM_wholes_30 : decode bM_wholes 30 = .ok (.invokevirtual 134, 3) := by decide +kernel
theorem dM_wholes_33 : decode bM_wholes 33 = .ok (.goto 93, 3) := by decide +kernel
theorem dM_wholes_36 : decode bM_wholes 36 = .ok (.iload_n 1, 1) := by decide +kernel
theorem dM_wholes_37 : decode bM_wholes 37 = .ok (.iconst 1, 1) := by decide +kernel
theorem dM_wholes_38 : decode bM_wholes 38 = .ok (.if_icmp .ne 19, 3) := by decide +kernel
theorem dM_wholes_41 : decode bM_wholes 41 = .ok (.aload_n 0, 1) := by decide +kernel
theorem dM_wholes_42 : decode bM_wholes 42 = .ok (.aload_n 0, 1) := by decide +kernel
theorem dM_wholes_43 : decode bM_wholes 43 = .ok (.getfield 54, 3) := by decide +kernel
theorem dM_wholes_46 : decode bM_wholes 46 = .ok (.aload_n 0, 1) := by decide +kernel
theorem dM_wholes_47 : decode bM_wholes 47 = .ok (.getfield 63, 3) := by decide +kernel
theorem dM_wholes_50 : decode bM_wholes 50 = .ok (.lsub, 1) := by decide +kernel
theorem dM_wholes_51 : decode bM_wholes 51 = .ok (.invokevirtual 134, 3) := by decide +kernel
theorem dM_wholes_54 : decode bM_wholes 54 = .ok (.goto 72, 3) := by decide +kernel
theorem dM_wholes_57 : decode bM_wholes 57 = .ok (.iload_n 1, 1) := by decide +kernel
theorem dM_wholes_58 : decode bM_wholes 58 = .ok (.iconst 2, 1) := by decide +kernel
theorem dM_wholes_59 : decode bM_wholes 59 = .ok (.if_icmp .ne 19, 3) := by decide +kernel
theorem dM_wholes_62 : decode bM_wholes 62 = .ok (.aload_n 0, 1) := by decide +kernel
theorem dM_wholes_63 : decode bM_wholes 63 = .ok (.aload_n 0, 1) := by decide +kernel
theorem dM_wholes_64 : decode bM_wholes 64 = .ok (.getfield 54, 3) := by decide +kernel
theorem dM_wholes_67 : decode bM_wholes 67 = .ok (.aload_n 0, 1) := by decide +kernel
theorem dM_wholes_68 : decode bM_wholes 68 = .ok (.getfield 63, 3) := by decide +kernel
theorem dM_wholes_71 : decode bM_wholes 71 = .ok (.lmul, 1) := by decide +kernel
theorem dM_wholes_72 : decode bM_wholes 72 = .ok (.invokevirtual 134, 3) := by decide +kernel
theorem dM_wholes_75 : decode bM_wholes 75 = .ok (.goto 51, 3) := by decide +kernel
theorem dM_wholes_78 : decode bM_wholes 78 = .ok (.iload_n 1, 1) := by decide +kernel
theorem dM_wholes_79 : decode bM_wholes 79 = .ok (.iconst 4, 1) := by decide +kernel
theorem dM_wholes_80 : decode bM_wholes 80 = .ok (.if_icmp .ne 21, 3) := by decide +kernel
theorem dM_wholes_83 : decode bM_wholes 83 = .ok (.aload_n 0, 1) := by decide +kernel
theorem dM_wholes_84 : decode bM_wholes 84 = .ok (.aload_n 0, 1) := by decide +kernel
theorem dM_wholes_85 : decode bM_wholes 85 = .ok (.getfield 54, 3) := by decide +kernel
theorem dM_wholes_88 : decode bM_wholes 88 = .ok (.aload_n 0, 1) := by decide +kernel
theorem dM_wholes_89 : decode bM_wholes 89 = .ok (.getfield 63, 3) := by decide +kernel
theorem dM_wholes_92 : decode bM_wholes 92 = .ok (.invokestatic 142, 3) := by decide +kernel
theorem dM_wholes_95 : decode bM_wholes 95 = .ok (.invokevirtual 134, 3) := by decide +kernel
theorem dM_wholes_98 : decode bM_wholes 98 = .ok (.goto 28, 3) := by decide +kernel
theorem dM_wholes_101 : decode bM_wholes 101 = .ok (.aload_n 0, 1) := by decide +kernel
theorem dM_wholes_102 : decode bM_wholes 102 = .ok (.aload_n 0, 1) := by decide +kernel
theorem dM_wholes_103 : decode bM_wholes 103 = .ok (.getfield 54, 3) := by decide +kernel
theorem dM_wholes_106 : decode bM_wholes 106 = .ok (.aload_n 0, 1) := by decide +kernel
theorem dM_wholes_107 : decode bM_wholes 107 = .ok (.getfield 63, 3) := by decide +kernel
theorem dM_wholes_110 : decode bM_wholes 110 = .ok (.aload_n 0, 1) := by decide +kernel
theorem dM_wholes_111 : decode bM_wholes 111 = .ok (.getfield 54, 3) := by decide +kernel
theorem dM_wholes_114 : decode bM_wholes 114 = .ok (.aload_n 0, 1) := by decide +kernel
theorem dM_wholes_115 : decode bM_wholes 115 = .ok (.getfield 63, 3) := by decide +kernel
theorem dM_wholes_118 : decode bM_wholes 118 = .ok (.invokestatic 142, 3) := by decide +kernel
theorem dM_wholes_121 : decode bM_wholes 121 = .ok (.lmul, 1) := by decide +kernel
theorem dM_wholes_122 : decode bM_wholes 122 = .ok (.lsub, 1) := by decide +kernel
theorem dM_wholes_123 : decode bM_wholes 123 = .ok (.invokevirtual 134, 3) := by decide +kernel
theorem dM_wholes_126 : decode bM_wholes 126 = .ok (.iconst 0, 1) := by decide +kernel
theorem dM_wholes_127 : decode bM_wholes 127 = .ok (.ireturn, 1) := by decide +kernel
theorem dM_floorQuotient_0 : decode bM_floorQuotient 0 = .ok (.lload_n 2, 1) := by decide +kernel
theorem dM_floorQuotient_1 : decode bM_floorQuotient 1 = .ok (.ldc2_w 112, 3) := by decide +kernel
theorem dM_floorQuotient_4 : decode bM_floorQuotient 4 = .ok (.lcmp, 1) := by decide +kernel
theorem dM_floorQuotient_5 : decode bM_floorQuotient 5 = .ok (.ifCond .ne 6, 3) := by decide +kernel
theorem dM_floorQuotient_8 : decode bM_floorQuotient 8 = .ok (.lload_n 0, 1) := by decide +kernel
theorem dM_floorQuotient_9 : decode bM_floorQuotient 9 = .ok (.lneg, 1) := by decide +kernel
theorem dM_floorQuotient_10 : decode bM_floorQuotient 10 = .ok (.lreturn, 1) := by decide +kernel
theorem dM_floorQuotient_11 : decode bM_floorQuotient 11 = .ok (.lload_n 0, 1) := by decide +kernel
theorem dM_floorQuotient_12 : decode bM_floorQuotient 12 = .ok (.lload_n 2, 1) := by decide +kernel
theorem dM_floorQuotient_13 : decode bM_floorQuotient 13 = .ok (.ldiv, 1) := by decide +kernel
theorem dM_floorQuotient_14 : decode bM_floorQuotient 14 = .ok (.lstore 4, 2) := by decide +kernel
theorem dM_floorQuotient_16 : decode bM_floorQuotient 16 = .ok (.lload_n 0, 1) := by decide +kernel
theorem dM_floorQuotient_17 : decode bM_floorQuotient 17 = .ok (.lload_n 2, 1) := by decide +kernel
theorem dM_floorQuotient_18 : decode bM_floorQuotient 18 = .ok (.lrem, 1) := by decide +kernel
theorem dM_floorQuotient_19 : decode bM_floorQuotient 19 = .ok (.lconst 0, 1) := by decide +kernel
theorem dM_floorQuotient_20 : decode bM_floorQuotient 20 = .ok (.lcmp, 1) := by decide +kernel
theorem dM_floorQuotient_21 : decode bM_floorQuotient 21 = .ok (.ifCond .eq 35, 3) := by decide +kernel
theorem dM_floorQuotient_24 : decode bM_floorQuotient 24 = .ok (.lload_n 0, 1) := by decide +kernel
theorem dM_floorQuotient_25 : decode bM_floorQuotient 25 = .ok (.lconst 0, 1) := by decide +kernel
theorem dM_floorQuotient_26 : decode bM_floorQuotient 26 = .ok (.lcmp, 1) := by decide +kernel
theorem dM_floorQuotient_27 : decode bM_floorQuotient 27 = .ok (.ifCond .ge 7, 3) := by decide +kernel
theorem dM_floorQuotient_30 : decode bM_floorQuotient 30 = .ok (.iconst 1, 1) := by decide +kernel
theorem dM_floorQuotient_31 : decode bM_floorQuotient 31 = .ok (.goto 4, 3) := by decide +kernel
theorem dM_floorQuotient_34 : decode bM_floorQuotient 34 = .ok (.iconst 0, 1) := by decide +kernel
theorem dM_floorQuotient_35 : decode bM_floorQuotient 35 = .ok (.lload_n 2, 1) := by decide +kernel
theorem dM_floorQuotient_36 : decode bM_floorQuotient 36 = .ok (.lconst 0, 1) := by decide +kernel
theorem dM_floorQuotient_37 : decode bM_floorQuotient 37 = .ok (.lcmp, 1) := by decide +kernel
theorem dM_floorQuotient_38 : decode bM_floorQuotient 38 = .ok (.ifCond .ge 7, 3) := by decide +kernel
theorem dM_floorQuotient_41 : decode bM_floorQuotient 41 = .ok (.iconst 1, 1) := by decide +kernel
theorem dM_floorQuotient_42 : decode bM_floorQuotient 42 = .ok (.goto 4, 3) := by decide +kernel
theorem dM_floorQuotient_45 : decode bM_floorQuotient 45 = .ok (.iconst 0, 1) := by decide +kernel
theorem dM_floorQuotient_46 : decode bM_floorQuotient 46 = .ok (.if_icmp .eq 10, 3) := by decide +kernel
theorem dM_floorQuotient_49 : decode bM_floorQuotient 49 = .ok (.lload 4, 2) := by decide +kernel
theorem dM_floorQuotient_51 : decode bM_floorQuotient 51 = .ok (.lconst 1, 1) := by decide +kernel
theorem dM_floorQuotient_52 : decode bM_floorQuotient 52 = .ok (.lsub, 1) := by decide +kernel
theorem dM_floorQuotient_53 : decode bM_floorQuotient 53 = .ok (.goto 5, 3) := by decide +kernel
theorem dM_floorQuotient_56 : decode bM_floorQuotient 56 = .ok (.lload 4, 2) := by decide +kernel
theorem dM_floorQuotient_58 : decode bM_floorQuotient 58 = .ok (.lreturn, 1) := by decide +kernel
theorem dM_reals_0 : decode bM_reals 0 = .ok (.aload_n 0, 1) := by decide +kernel
theorem dM_reals_1 : decode bM_reals 1 = .ok (.invokevirtual 145, 3) := by decide +kernel
theorem dM_reals_4 : decode bM_reals 4 = .ok (.aload_n 0, 1) := by decide +kernel
theorem dM_reals_5 : decode bM_reals 5 = .ok (.invokevirtual 148, 3) := by decide +kernel
theorem dM_reals_8 : decode bM_reals 8 = .ok (.iload_n 1, 1) := by decide +kernel
theorem dM_reals_9 : decode bM_reals 9 = .ok (.tableswitch 83 0 5 #[39, 45, 55, 61, 67, 77], 39) := by decide +kernel
theorem dM_reals_48 : decode bM_reals 48 = .ok (.aload_n 0, 1) := by decide +kernel
theorem dM_reals_49 : decode bM_reals 49 = .ok (.invokevirtual 119, 3) := by decide +kernel
theorem dM_reals_52 : decode bM_reals 52 = .ok (.iconst 0, 1) := by decide +kernel
theorem dM_reals_53 : decode bM_reals 53 = .ok (.ireturn, 1) := by decide +kernel
theorem dM_reals_54 : decode bM_reals 54 = .ok (.aload_n 0, 1) := by decide +kernel
theorem dM_reals_55 : decode bM_reals 55 = .ok (.invokevirtual 151, 3) := by decide +kernel
theorem dM_reals_58 : decode bM_reals 58 = .ok (.aload_n 0, 1) := by decide +kernel
theorem dM_reals_59 : decode bM_reals 59 = .ok (.invokevirtual 119, 3) := by decide +kernel
theorem dM_reals_62 : decode bM_reals 62 = .ok (.iconst 0, 1) := by decide +kernel
theorem dM_reals_63 : decode bM_reals 63 = .ok (.ireturn, 1) := by decide +kernel
theorem dM_reals_64 : decode bM_reals 64 = .ok (.aload_n 0, 1) := by decide +kernel
theorem dM_reals_65 : decode bM_reals 65 = .ok (.invokevirtual 154, 3) := by decide +kernel
theorem dM_reals_68 : decode bM_reals 68 = .ok (.iconst 0, 1) := by decide +kernel
theorem dM_reals_69 : decode bM_reals 69 = .ok (.ireturn, 1) := by decide +kernel
theorem dM_reals_70 : decode bM_reals 70 = .ok (.aload_n 0, 1) := by decide +kernel
theorem dM_reals_71 : decode bM_reals 71 = .ok (.invokevirtual 157, 3) := by decide +kernel
theorem dM_reals_74 : decode bM_reals 74 = .ok (.iconst 0, 1) := by decide +kernel
theorem dM_reals_75 : decode bM_reals 75 = .ok (.ireturn, 1) := by decide +kernel
theorem dM_reals_76 : decode bM_reals 76 = .ok (.aload_n 0, 1) := by decide +kernel
theorem dM_reals_77 : decode bM_reals 77 = .ok (.invokevirtual 157, 3) := by decide +kernel
theorem dM_reals_80 : decode bM_reals 80 = .ok (.aload_n 0, 1) := by decide +kernel
theorem dM_reals_81 : decode bM_reals 81 = .ok (.invokevirtual 160, 3) := by decide +kernel
theorem dM_reals_84 : decode bM_reals 84 = .ok (.iconst 0, 1) := by decide +kernel
theorem dM_reals_85 : decode bM_reals 85 = .ok (.ireturn, 1) := by decide +kernel
theorem dM_reals_86 : decode bM_reals 86 = .ok (.aload_n 0, 1) := by decide +kernel
theorem dM_reals_87 : decode bM_reals 87 = .ok (.invokevirtual 163, 3) := by decide +kernel
theorem dM_reals_90 : decode bM_reals 90 = .ok (.iconst 0, 1) := by decide +kernel
theorem dM_reals_91 : decode bM_reals 91 = .ok (.ireturn, 1) := by decide +kernel
theorem dM_reals_92 : decode bM_reals 92 = .ok (.aload_n 0, 1) := by decide +kernel
theorem dM_reals_93 : decode bM_reals 93 = .ok (.invokevirtual 166, 3) := by decide +kernel
theorem dM_reals_96 : decode bM_reals 96 = .ok (.ireturn, 1) := by decide +kernel
theorem dM_realB_0 : decode bM_realB 0 = .ok (.aload_n 0, 1) := by decide +kernel
theorem dM_realB_1 : decode bM_realB 1 = .ok (.getfield 60, 3) := by decide +kernel
theorem dM_realB_4 : decode bM_realB 4 = .ok (.iconst 1, 1) := by decide +kernel
theorem dM_realB_5 : decode bM_realB 5 = .ok (.if_icmp .ne 16, 3) := by decide +kernel
theorem dM_realB_8 : decode bM_realB 8 = .ok (.aload_n 0, 1) := by decide +kernel
theorem dM_realB_9 : decode bM_realB 9 = .ok (.aload_n 0, 1) := by decide +kernel
theorem dM_realB_10 : decode bM_realB 10 = .ok (.getfield 63, 3) := by decide +kernel
theorem dM_realB_13 : decode bM_realB 13 = .ok (.iconst 0, 1) := by decide +kernel
theorem dM_realB_14 : decode bM_realB 14 = .ok (.invokevirtual 69, 3) := by decide +kernel
theorem dM_realB_17 : decode bM_realB 17 = .ok (.aload_n 0, 1) := by decide +kernel
theorem dM_realB_18 : decode bM_realB 18 = .ok (.invokevirtual 75, 3) := by decide +kernel
theorem dM_realB_21 : decode bM_realB 21 = .ok (.return_, 1) := by decide +kernel
theorem dM_resultToB_0 : decode bM_resultToB 0 = .ok (.aload_n 0, 1) := by decide +kernel
theorem dM_resultToB_1 : decode bM_resultToB 1 = .ok (.aload_n 0, 1) := by decide +kernel
theorem dM_resultToB_2 : decode bM_resultToB 2 = .ok (.getfield 20, 3) := by decide +kernel
theorem dM_resultToB_5 : decode bM_resultToB 5 = .ok (.putfield 60, 3) := by decide +kernel
theorem dM_resultToB_8 : decode bM_resultToB 8 = .ok (.aload_n 0, 1) := by decide +kernel
theorem dM_resultToB_9 : decode bM_resultToB 9 = .ok (.aload_n 0, 1) := by decide +kernel
theorem dM_resultToB_10 : decode bM_resultToB 10 = .ok (.getfield 24, 3) := by decide +kernel
theorem dM_resultToB_13 : decode bM_resultToB 13 = .ok (.putfield 63, 3) := by decide +kernel
theorem dM_resultToB_16 : decode bM_resultToB 16 = .ok (.aload_n 0, 1) := by decide +kernel
theorem dM_resultToB_17 : decode bM_resultToB 17 = .ok (.aload_n 0, 1) := by decide +kernel
theorem dM_resultToB_18 : decode bM_resultToB 18 = .ok (.getfield 28, 3) := by decide +kernel
theorem dM_resultToB_21 : decode bM_resultToB 21 = .ok (.putfield 66, 3) := by decide +kernel
theorem dM_resultToB_24 : decode bM_resultToB 24 = .ok (.return_, 1) := by decide +kernel
theorem dM_add_0 : decode bM_add 0 = .ok (.aload_n 0, 1) := by decide +kernel
theorem dM_add_1 : decode bM_add 1 = .ok (.getfield 51, 3) := by decide +kernel
theorem dM_add_4 : decode bM_add 4 = .ok (.iconst 5, 1) := by decide +kernel
theorem dM_add_5 : decode bM_add 5 = .ok (.if_icmp .eq 42, 3) := by decide +kernel
theorem dM_add_8 : decode bM_add 8 = .ok (.aload_n 0, 1) := by decide +kernel
theorem dM_add_9 : decode bM_add 9 = .ok (.getfield 60, 3) := by decide +kernel
theorem dM_add_12 : decode bM_add 12 = .ok (.iconst 5, 1) := by decide +kernel
theorem dM_add_13 : decode bM_add 13 = .ok (.if_icmp .eq 34, 3) := by decide +kernel
theorem dM_add_16 : decode bM_add 16 = .ok (.aload_n 0, 1) := by decide +kernel
theorem dM_add_17 : decode bM_add 17 = .ok (.getfield 51, 3) := by decide +kernel
theorem dM_add_20 : decode bM_add 20 = .ok (.invokestatic 86, 3) := by decide +kernel
theorem dM_add_23 : decode bM_add 23 = .ok (.ifCond .eq 32, 3) := by decide +kernel
theorem dM_add_26 : decode bM_add 26 = .ok (.aload_n 0, 1) := by decide +kernel
theorem dM_add_27 : decode bM_add 27 = .ok (.getfield 60, 3) := by decide +kernel
theorem dM_add_30 : decode bM_add 30 = .ok (.invokestatic 86, 3) := by decide +kernel
theorem dM_add_33 : decode bM_add 33 = .ok (.ifCond .eq 22, 3) := by decide +kernel
theorem dM_add_36 : decode bM_add 36 = .ok (.aload_n 0, 1) := by decide +kernel
theorem dM_add_37 : decode bM_add 37 = .ok (.getfield 51, 3) := by decide +kernel
theorem dM_add_40 : decode bM_add 40 = .ok (.aload_n 0, 1) := by decide +kernel
theorem dM_add_41 : decode bM_add 41 = .ok (.getfield 60, 3) := by decide +kernel
theorem dM_add_44 : decode bM_add 44 = .ok (.if_icmp .eq 11, 3) := by decide +kernel
theorem dM_add_47 : decode bM_add 47 = .ok (.aload_n 0, 1) := by decide +kernel
theorem dM_add_48 : decode bM_add 48 = .ok (.iconst 5, 1) := by decide +kernel
theorem dM_add_49 : decode bM_add 49 = .ok (.invokevirtual 35, 3) := by decide +kernel
theorem dM_add_52 : decode bM_add 52 = .ok (.goto 49, 3) := by decide +kernel
theorem dM_add_55 : decode bM_add 55 = .ok (.aload_n 0, 1) := by decide +kernel
theorem dM_add_56 : decode bM_add 56 = .ok (.getfield 51, 3) := by decide +kernel
theorem dM_add_59 : decode bM_add 59 = .ok (.invokestatic 86, 3) := by decide +kernel
theorem dM_add_62 : decode bM_add 62 = .ok (.ifCond .eq 14, 3) := by decide +kernel
theorem dM_add_65 : decode bM_add 65 = .ok (.aload_n 0, 1) := by decide +kernel
theorem dM_add_66 : decode bM_add 66 = .ok (.aload_n 0, 1) := by decide +kernel
theorem dM_add_67 : decode bM_add 67 = .ok (.getfield 51, 3) := by decide +kernel
theorem dM_add_70 : decode bM_add 70 = .ok (.invokevirtual 35, 3) := by decide +kernel
theorem dM_add_73 : decode bM_add 73 = .ok (.goto 28, 3) := by decide +kernel
theorem dM_add_76 : decode bM_add 76 = .ok (.aload_n 0, 1) := by decide +kernel
theorem dM_add_77 : decode bM_add 77 = .ok (.getfield 60, 3) := by decide +kernel
theorem dM_add_80 : decode bM_add 80 = .ok (.invokestatic 86, 3) := by decide +kernel
theorem dM_add_83 : decode bM_add 83 = .ok (.ifCond .eq 14, 3) := by decide +kernel
theorem dM_add_86 : decode bM_add 86 = .ok (.aload_n 0, 1) := by decide +kernel
theorem dM_add_87 : decode bM_add 87 = .ok (.aload_n 0, 1) := by decide +kernel
theorem dM_add_88 : decode bM_add 88 = .ok (.getfield 60, 3) := by decide +kernel
theorem dM_add_91 : decode bM_add 91 = .ok (.invokevirtual 35, 3) := by decide +kernel
theorem dM_add_94 : decode bM_add 94 = .ok (.goto 7, 3) := by decide +kernel
theorem dM_add_97 : decode bM_add 97 = .ok (.aload_n 0, 1) := by decide +kernel
theorem dM_add_98 : decode bM_add 98 = .ok (.invokevirtual 90, 3) := by decide +kernel
theorem dM_add_101 : decode bM_add 101 = .ok (.return_, 1) := by decide +kernel
theorem dM_isGreat_0 : decode bM_isGreat 0 = .ok (.iload_n 0, 1) := by decide +kernel
theorem dM_isGreat_1 : decode bM_isGreat 1 = .ok (.iconst 3, 1) := by decide +kernel
theorem dM_isGreat_2 : decode bM_isGreat 2 = .ok (.if_icmp .eq 8, 3) := by decide +kernel
theorem dM_isGreat_5 : decode bM_isGreat 5 = .ok (.iload_n 0, 1) := by decide +kernel
theorem dM_isGreat_6 : decode bM_isGreat 6 = .ok (.iconst 4, 1) := by decide +kernel
theorem dM_isGreat_7 : decode bM_isGreat 7 = .ok (.if_icmp .ne 7, 3) := by decide +kernel
theorem dM_isGreat_10 : decode bM_isGreat 10 = .ok (.iconst 1, 1) := by decide +kernel
theorem dM_isGreat_11 : decode bM_isGreat 11 = .ok (.goto 4, 3) := by decide +kernel
theorem dM_isGreat_14 : decode bM_isGreat 14 = .ok (.iconst 0, 1) := by decide +kernel
theorem dM_isGreat_15 : decode bM_isGreat 15 = .ok (.ireturn, 1) := by decide +kernel
theorem dM_addNumbers_0 : decode bM_addNumbers 0 = .ok (.aload_n 0, 1) := by decide +kernel
theorem dM_addNumbers_1 : decode bM_addNumbers 1 = .ok (.getfield 54, 3) := by decide +kernel
theorem dM_addNumbers_4 : decode bM_addNumbers 4 = .ok (.lconst 0, 1) := by decide +kernel
theorem dM_addNumbers_5 : decode bM_addNumbers 5 = .ok (.lcmp, 1) := by decide +kernel
theorem dM_addNumbers_6 : decode bM_addNumbers 6 = .ok (.ifCond .eq 12, 3) := by decide +kernel
theorem dM_addNumbers_9 : decode bM_addNumbers 9 = .ok (.aload_n 0, 1) := by decide +kernel
theorem dM_addNumbers_10 : decode bM_addNumbers 10 = .ok (.getfield 63, 3) := by decide +kernel
theorem dM_addNumbers_13 : decode bM_addNumbers 13 = .ok (.lconst 0, 1) := by decide +kernel
theorem dM_addNumbers_14 : decode bM_addNumbers 14 = .ok (.lcmp, 1) := by decide +kernel
theorem dM_addNumbers_15 : decode bM_addNumbers 15 = .ok (.ifCond .ne 40, 3) := by decide +kernel
theorem dM_addNumbers_18 : decode bM_addNumbers 18 = .ok (.aload_n 0, 1) := by decide +kernel
theorem dM_addNumbers_19 : decode bM_addNumbers 19 = .ok (.getfield 54, 3) := by decide +kernel
theorem dM_addNumbers_22 : decode bM_addNumbers 22 = .ok (.lconst 0, 1) := by decide +kernel
theorem dM_addNumbers_23 : decode bM_addNumbers 23 = .ok (.lcmp, 1) := by decide +kernel
theorem dM_addNumbers_24 : decode bM_addNumbers 24 = .ok (.ifCond .ne 18, 3) := by decide +kernel
theorem dM_addNumbers_27 : decode bM_addNumbers 27 = .ok (.aload_n 0, 1) := by decide +kernel
theorem dM_addNumbers_28 : decode bM_addNumbers 28 = .ok (.aload_n 0, 1) := by decide +kernel
theorem dM_addNumbers_29 : decode bM_addNumbers 29 = .ok (.getfield 63, 3) := by decide +kernel
theorem dM_addNumbers_32 : decode bM_addNumbers 32 = .ok (.aload_n 0, 1) := by decide +kernel
theorem dM_addNumbers_33 : decode bM_addNumbers 33 = .ok (.getfield 66, 3) := by decide +kernel
theorem dM_addNumbers_36 : decode bM_addNumbers 36 = .ok (.invokevirtual 31, 3) := by decide +kernel
theorem dM_addNumbers_39 : decode bM_addNumbers 39 = .ok (.goto 15, 3) := by decide +kernel
theorem dM_addNumbers_42 : decode bM_addNumbers 42 = .ok (.aload_n 0, 1) := by decide +kernel
theorem dM_addNumbers_43 : decode bM_addNumbers 43 = .ok (.aload_n 0, 1) := by decide +kernel
theorem dM_addNumbers_44 : decode bM_addNumbers 44 = .ok (.getfield 54, 3) := by decide +kernel
theorem dM_addNumbers_47 : decode bM_addNumbers 47 = .ok (.aload_n 0, 1) := by decide +kernel
theorem dM_addNumbers_48 : decode bM_addNumbers 48 = .ok (.getfield 57, 3) := by decide +kernel
theorem dM_addNumbers_51 : decode bM_addNumbers 51 = .ok (.invokevirtual 31, 3) := by decide +kernel
theorem dM_addNumbers_54 : decode bM_addNumbers 54 = .ok (.return_, 1) := by decide +kernel
theorem dM_addNumbers_55 : decode bM_addNumbers 55 = .ok (.aload_n 0, 1) := by decide +kernel
theorem dM_addNumbers_56 : decode bM_addNumbers 56 = .ok (.getfield 54, 3) := by decide +kernel
theorem dM_addNumbers_59 : decode bM_addNumbers 59 = .ok (.invokestatic 47, 3) := by decide +kernel
theorem dM_addNumbers_62 : decode bM_addNumbers 62 = .ok (.invokestatic 78, 3) := by decide +kernel
theorem dM_addNumbers_65 : decode bM_addNumbers 65 = .ok (.istore_n 1, 1) := by decide +kernel
theorem dM_addNumbers_66 : decode bM_addNumbers 66 = .ok (.aload_n 0, 1) := by decide +kernel
theorem dM_addNumbers_67 : decode bM_addNumbers 67 = .ok (.getfield 63, 3) := by decide +kernel
theorem dM_addNumbers_70 : decode bM_addNumbers 70 = .ok (.invokestatic 47, 3) := by decide +kernel
theorem dM_addNumbers_73 : decode bM_addNumbers 73 = .ok (.invokestatic 78, 3) := by decide +kernel
theorem dM_addNumbers_76 : decode bM_addNumbers 76 = .ok (.istore_n 2, 1) := by decide +kernel
theorem dM_addNumbers_77 : decode bM_addNumbers 77 = .ok (.aload_n 0, 1) := by decide +kernel
theorem dM_addNumbers_78 : decode bM_addNumbers 78 = .ok (.getfield 54, 3) := by decide +kernel
theorem dM_addNumbers_81 : decode bM_addNumbers 81 = .ok (.invokestatic 47, 3) := by decide +kernel
theorem dM_addNumbers_84 : decode bM_addNumbers 84 = .ok (.iload_n 1, 1) := by decide +kernel
theorem dM_addNumbers_85 : decode bM_addNumbers 85 = .ok (.lshl, 1) := by decide +kernel
theorem dM_addNumbers_86 : decode bM_addNumbers 86 = .ok (.lstore_n 3, 1) := by decide +kernel
theorem dM_addNumbers_87 : decode bM_addNumbers 87 = .ok (.aload_n 0, 1) := by decide +kernel
theorem dM_addNumbers_88 : decode bM_addNumbers 88 = .ok (.getfield 63, 3) := by decide +kernel
theorem dM_addNumbers_91 : decode bM_addNumbers 91 = .ok (.invokestatic 47, 3) := by decide +kernel
theorem dM_addNumbers_94 : decode bM_addNumbers 94 = .ok (.iload_n 2, 1) := by decide +kernel
theorem dM_addNumbers_95 : decode bM_addNumbers 95 = .ok (.lshl, 1) := by decide +kernel
theorem dM_addNumbers_96 : decode bM_addNumbers 96 = .ok (.lstore 5, 2) := by decide +kernel
theorem dM_addNumbers_98 : decode bM_addNumbers 98 = .ok (.aload_n 0, 1) := by decide +kernel
theorem dM_addNumbers_99 : decode bM_addNumbers 99 = .ok (.getfield 57, 3) := by decide +kernel
theorem dM_addNumbers_102 : decode bM_addNumbers 102 = .ok (.iload_n 1, 1) := by decide +kernel
theorem dM_addNumbers_103 : decode bM_addNumbers 103 = .ok (.isub, 1) := by decide +kernel
theorem dM_addNumbers_104 : decode bM_addNumbers 104 = .ok (.istore 7, 2) := by decide +kernel
theorem dM_addNumbers_106 : decode bM_addNumbers 106 = .ok (.aload_n 0, 1) := by decide +kernel
theorem dM_addNumbers_107 : decode bM_addNumbers 107 = .ok (.getfield 66, 3) := by decide +kernel
theorem dM_addNumbers_110 : decode bM_addNumbers 110 = .ok (.iload_n 2, 1) := by decide +kernel
theorem dM_addNumbers_111 : decode bM_addNumbers 111 = .ok (.isub, 1) := by decide +kernel
theorem dM_addNumbers_112 : decode bM_addNumbers 112 = .ok (.istore 8, 2) := by decide +kernel
theorem dM_addNumbers_114 : decode bM_addNumbers 114 = .ok (.iload 8, 2) := by decide +kernel
theorem dM_addNumbers_116 : decode bM_addNumbers 116 = .ok (.iload 7, 2) := by decide +kernel
theorem dM_addNumbers_118 : decode bM_addNumbers 118 = .ok (.if_icmp .gt 17, 3) := by decide +kernel
theorem dM_addNumbers_121 : decode bM_addNumbers 121 = .ok (.iload 8, 2) := by decide +kernel
theorem dM_addNumbers_123 : decode bM_addNumbers 123 = .ok (.iload 7, 2) := by decide +kernel
theorem dM_addNumbers_125 : decode bM_addNumbers 125 = .ok (.if_icmp .ne 14, 3) := by decide +kernel
theorem dM_addNumbers_128 : decode bM_addNumbers 128 = .ok (.lload 5, 2) := by decide +kernel
theorem dM_addNumbers_130 : decode bM_addNumbers 130 = .ok (.lload_n 3, 1) := by decide +kernel
theorem dM_addNumbers_131 : decode bM_addNumbers 131 = .ok (.lcmp, 1) := by decide +kernel
theorem dM_addNumbers_132 : decode bM_addNumbers 132 = .ok (.ifCond .le 7, 3) := by decide +kernel
theorem dM_addNumbers_135 : decode bM_addNumbers 135 = .ok (.iconst 1, 1) := by decide +kernel
theorem dM_addNumbers_136 : decode bM_addNumbers 136 = .ok (.goto 4, 3) := by decide +kernel
theorem dM_addNumbers_139 : decode bM_addNumbers 139 = .ok (.iconst 0, 1) := by decide +kernel
theorem dM_addNumbers_140 : decode bM_addNumbers 140 = .ok (.istore 9, 2) := by decide +kernel
theorem dM_addNumbers_142 : decode bM_addNumbers 142 = .ok (.iload 9, 2) := by decide +kernel
theorem dM_addNumbers_144 : decode bM_addNumbers 144 = .ok (.ifCond .eq 8, 3) := by decide +kernel
theorem dM_addNumbers_147 : decode bM_addNumbers 147 = .ok (.lload 5, 2) := by decide +kernel
theorem dM_addNumbers_149 : decode bM_addNumbers 149 = .ok (.goto 4, 3) := by decide +kernel
theorem dM_addNumbers_152 : decode bM_addNumbers 152 = .ok (.lload_n 3, 1) := by decide +kernel
theorem dM_addNumbers_153 : decode bM_addNumbers 153 = .ok (.lstore 10, 2) := by decide +kernel
theorem dM_addNumbers_155 : decode bM_addNumbers 155 = .ok (.iload 9, 2) := by decide +kernel
theorem dM_addNumbers_157 : decode bM_addNumbers 157 = .ok (.ifCond .eq 7, 3) := by decide +kernel
theorem dM_addNumbers_160 : decode bM_addNumbers 160 = .ok (.lload_n 3, 1) := by decide +kernel
theorem dM_addNumbers_161 : decode bM_addNumbers 161 = .ok (.goto 5, 3) := by decide +kernel
theorem dM_addNumbers_164 : decode bM_addNumbers 164 = .ok (.lload 5, 2) := by decide +kernel
theorem dM_addNumbers_166 : decode bM_addNumbers 166 = .ok (.lstore 12, 2) := by decide +kernel
theorem dM_addNumbers_168 : decode bM_addNumbers 168 = .ok (.iload 9, 2) := by decide +kernel
theorem dM_addNumbers_170 : decode bM_addNumbers 170 = .ok (.ifCond .eq 8, 3) := by decide +kernel
theorem dM_addNumbers_173 : decode bM_addNumbers 173 = .ok (.iload 8, 2) := by decide +kernel
theorem dM_addNumbers_175 : decode bM_addNumbers 175 = .ok (.goto 5, 3) := by decide +kernel
theorem dM_addNumbers_178 : decode bM_addNumbers 178 = .ok (.iload 7, 2) := by decide +kernel
theorem dM_addNumbers_180 : decode bM_addNumbers 180 = .ok (.istore 14, 2) := by decide +kernel
theorem dM_addNumbers_182 : decode bM_addNumbers 182 = .ok (.iload 9, 2) := by decide +kernel
theorem dM_addNumbers_184 : decode bM_addNumbers 184 = .ok (.ifCond .eq 11, 3) := by decide +kernel
theorem dM_addNumbers_187 : decode bM_addNumbers 187 = .ok (.iload 8, 2) := by decide +kernel
theorem dM_addNumbers_189 : decode bM_addNumbers 189 = .ok (.iload 7, 2) := by decide +kernel
theorem dM_addNumbers_191 : decode bM_addNumbers 191 = .ok (.isub, 1) := by decide +kernel
theorem dM_addNumbers_192 : decode bM_addNumbers 192 = .ok (.goto 8, 3) := by decide +kernel
theorem dM_addNumbers_195 : decode bM_addNumbers 195 = .ok (.iload 7, 2) := by decide +kernel
theorem dM_addNumbers_197 : decode bM_addNumbers 197 = .ok (.iload 8, 2) := by decide +kernel
theorem dM_addNumbers_199 : decode bM_addNumbers 199 = .ok (.isub, 1) := by decide +kernel
theorem dM_addNumbers_200 : decode bM_addNumbers 200 = .ok (.istore 15, 2) := by decide +kernel
theorem dM_addNumbers_202 : decode bM_addNumbers 202 = .ok (.iload 9, 2) := by decide +kernel
theorem dM_addNumbers_204 : decode bM_addNumbers 204 = .ok (.ifCond .eq 20, 3) := by decide +kernel
theorem dM_addNumbers_207 : decode bM_addNumbers 207 = .ok (.aload_n 0, 1) := by decide +kernel
theorem dM_addNumbers_208 : decode bM_addNumbers 208 = .ok (.getfield 63, 3) := by decide +kernel
theorem dM_addNumbers_211 : decode bM_addNumbers 211 = .ok (.lconst 0, 1) := by decide +kernel
theorem dM_addNumbers_212 : decode bM_addNumbers 212 = .ok (.lcmp, 1) := by decide +kernel
theorem dM_addNumbers_213 : decode bM_addNumbers 213 = .ok (.ifCond .ge 7, 3) := by decide +kernel
theorem dM_addNumbers_216 : decode bM_addNumbers 216 = .ok (.iconst 1, 1) := by decide +kernel
theorem dM_addNumbers_217 : decode bM_addNumbers 217 = .ok (.goto 21, 3) := by decide +kernel
theorem dM_addNumbers_220 : decode bM_addNumbers 220 = .ok (.iconst 0, 1) := by decide +kernel
theorem dM_addNumbers_221 : decode bM_addNumbers 221 = .ok (.goto 17, 3) := by decide +kernel
theorem dM_addNumbers_224 : decode bM_addNumbers 224 = .ok (.aload_n 0, 1) := by decide +kernel
theorem dM_addNumbers_225 : decode bM_addNumbers 225 = .ok (.getfield 54, 3) := by decide +kernel
theorem dM_addNumbers_228 : decode bM_addNumbers 228 = .ok (.lconst 0, 1) := by decide +kernel
theorem dM_addNumbers_229 : decode bM_addNumbers 229 = .ok (.lcmp, 1) := by decide +kernel
theorem dM_addNumbers_230 : decode bM_addNumbers 230 = .ok (.ifCond .ge 7, 3) := by decide +kernel
theorem dM_addNumbers_233 : decode bM_addNumbers 233 = .ok (.iconst 1, 1) := by decide +kernel
theorem dM_addNumbers_234 : decode bM_addNumbers 234 = .ok (.goto 4, 3) := by decide +kernel
theorem dM_addNumbers_237 : decode bM_addNumbers 237 = .ok (.iconst 0, 1) := by decide +kernel
theorem dM_addNumbers_238 : decode bM_addNumbers 238 = .ok (.istore 16, 2) := by decide +kernel
theorem dM_addNumbers_240 : decode bM_addNumbers 240 = .ok (.aload_n 0, 1) := by decide +kernel
theorem dM_addNumbers_241 : decode bM_addNumbers 241 = .ok (.getfield 54, 3) := by decide +kernel
theorem dM_addNumbers_244 : decode bM_addNumbers 244 = .ok (.lconst 0, 1) := by decide +kernel
theorem dM_addNumbers_245 : decode bM_addNumbers 245 = .ok (.lcmp, 1) := by decide +kernel
theorem dM_addNumbers_246 : decode bM_addNumbers 246 = .ok (.ifCond .ge 7, 3) := by decide +kernel
theorem dM_addNumbers_249 : decode bM_addNumbers 249 = .ok (.iconst 1, 1) := by decide +kernel
theorem dM_addNumbers_250 : decode bM_addNumbers 250 = .ok (.goto 4, 3) := by decide +kernel
theorem dM_addNumbers_253 : decode bM_addNumbers 253 = .ok (.iconst 0, 1) := by decide +kernel
theorem dM_addNumbers_254 : decode bM_addNumbers 254 = .ok (.aload_n 0, 1) := by decide +kernel
theorem dM_addNumbers_255 : decode bM_addNumbers 255 = .ok (.getfield 63, 3) := by decide +kernel
theorem dM_addNumbers_258 : decode bM_addNumbers 258 = .ok (.lconst 0, 1) := by decide +kernel
theorem dM_addNumbers_259 : decode bM_addNumbers 259 = .ok (.lcmp, 1) := by decide +kernel
theorem dM_addNumbers_260 : decode bM_addNumbers 260 = .ok (.ifCond .ge 7, 3) := by decide +kernel
theorem dM_addNumbers_263 : decode bM_addNumbers 263 = .ok (.iconst 1, 1) := by decide +kernel
theorem dM_addNumbers_264 : decode bM_addNumbers 264 = .ok (.goto 4, 3) := by decide +kernel
theorem dM_addNumbers_267 : decode bM_addNumbers 267 = .ok (.iconst 0, 1) := by decide +kernel
theorem dM_addNumbers_268 : decode bM_addNumbers 268 = .ok (.if_icmp .ne 22, 3) := by decide +kernel
theorem dM_addNumbers_271 : decode bM_addNumbers 271 = .ok (.lload 10, 2) := by decide +kernel
theorem dM_addNumbers_273 : decode bM_addNumbers 273 = .ok (.iconst 1, 1) := by decide +kernel
theorem dM_addNumbers_274 : decode bM_addNumbers 274 = .ok (.invokestatic 82, 3) := by decide +kernel
theorem dM_addNumbers_277 : decode bM_addNumbers 277 = .ok (.lload 12, 2) := by decide +kernel
theorem dM_addNumbers_279 : decode bM_addNumbers 279 = .ok (.iload 15, 2) := by decide +kernel
theorem dM_addNumbers_281 : decode bM_addNumbers 281 = .ok (.iconst 1, 1) := by decide +kernel
theorem dM_addNumbers_282 : decode bM_addNumbers 282 = .ok (.iadd, 1) := by decide +kernel
theorem dM_addNumbers_283 : decode bM_addNumbers 283 = .ok (.invokestatic 82, 3) := by decide +kernel
theorem dM_addNumbers_286 : decode bM_addNumbers 286 = .ok (.ladd, 1) := by decide +kernel
theorem dM_addNumbers_287 : decode bM_addNumbers 287 = .ok (.goto 13, 3) := by decide +kernel
theorem dM_addNumbers_290 : decode bM_addNumbers 290 = .ok (.lload 10, 2) := by decide +kernel
theorem dM_addNumbers_292 : decode bM_addNumbers 292 = .ok (.lload 12, 2) := by decide +kernel
theorem dM_addNumbers_294 : decode bM_addNumbers 294 = .ok (.iload 15, 2) := by decide +kernel
theorem dM_addNumbers_296 : decode bM_addNumbers 296 = .ok (.invokestatic 82, 3) := by decide +kernel
theorem dM_addNumbers_299 : decode bM_addNumbers 299 = .ok (.lsub, 1) := by decide +kernel
theorem dM_addNumbers_300 : decode bM_addNumbers 300 = .ok (.lstore 17, 2) := by decide +kernel
theorem dM_addNumbers_302 : decode bM_addNumbers 302 = .ok (.aload_n 0, 1) := by decide +kernel
theorem dM_addNumbers_303 : decode bM_addNumbers 303 = .ok (.lload 17, 2) := by decide +kernel
theorem dM_addNumbers_305 : decode bM_addNumbers 305 = .ok (.aload_n 0, 1) := by decide +kernel
theorem dM_addNumbers_306 : decode bM_addNumbers 306 = .ok (.getfield 54, 3) := by decide +kernel
theorem dM_addNumbers_309 : decode bM_addNumbers 309 = .ok (.lconst 0, 1) := by decide +kernel
theorem dM_addNumbers_310 : decode bM_addNumbers 310 = .ok (.lcmp, 1) := by decide +kernel
theorem dM_addNumbers_311 : decode bM_addNumbers 311 = .ok (.ifCond .ge 7, 3) := by decide +kernel
theorem dM_addNumbers_314 : decode bM_addNumbers 314 = .ok (.iconst 1, 1) := by decide +kernel
theorem dM_addNumbers_315 : decode bM_addNumbers 315 = .ok (.goto 4, 3) := by decide +kernel
theorem dM_addNumbers_318 : decode bM_addNumbers 318 = .ok (.iconst 0, 1) := by decide +kernel
theorem dM_addNumbers_319 : decode bM_addNumbers 319 = .ok (.aload_n 0, 1) := by decide +kernel
theorem dM_addNumbers_320 : decode bM_addNumbers 320 = .ok (.getfield 63, 3) := by decide +kernel
theorem dM_addNumbers_323 : decode bM_addNumbers 323 = .ok (.lconst 0, 1) := by decide +kernel
theorem dM_addNumbers_324 : decode bM_addNumbers 324 = .ok (.lcmp, 1) := by decide +kernel
theorem dM_addNumbers_325 : decode bM_addNumbers 325 = .ok (.ifCond .ge 7, 3) := by decide +kernel
theorem dM_addNumbers_328 : decode bM_addNumbers 328 = .ok (.iconst 1, 1) := by decide +kernel
theorem dM_addNumbers_329 : decode bM_addNumbers 329 = .ok (.goto 4, 3) := by decide +kernel
theorem dM_addNumbers_332 : decode bM_addNumbers 332 = .ok (.iconst 0, 1) := by decide +kernel
theorem dM_addNumbers_333 : decode bM_addNumbers 333 = .ok (.if_icmp .ne 10, 3) := by decide +kernel
theorem dM_addNumbers_336 : decode bM_addNumbers 336 = .ok (.iload 14, 2) := by decide +kernel
theorem dM_addNumbers_338 : decode bM_addNumbers 338 = .ok (.iconst 1, 1) := by decide +kernel
theorem dM_addNumbers_339 : decode bM_addNumbers 339 = .ok (.iadd, 1) := by decide +kernel
theorem dM_addNumbers_340 : decode bM_addNumbers 340 = .ok (.goto 5, 3) := by decide +kernel
theorem dM_addNumbers_343 : decode bM_addNumbers 343 = .ok (.iload 14, 2) := by decide +kernel
theorem dM_addNumbers_345 : decode bM_addNumbers 345 = .ok (.iload 16, 2) := by decide +kernel
theorem dM_addNumbers_347 : decode bM_addNumbers 347 = .ok (.invokevirtual 43, 3) := by decide +kernel
theorem dM_addNumbers_350 : decode bM_addNumbers 350 = .ok (.return_, 1) := by decide +kernel
theorem dM_room_0 : decode bM_room 0 = .ok (.iconst 0, 1) := by decide +kernel
theorem dM_room_1 : decode bM_room 1 = .ok (.istore_n 2, 1) := by decide +kernel
theorem dM_room_2 : decode bM_room 2 = .ok (.lload_n 0, 1) := by decide +kernel
theorem dM_room_3 : decode bM_room 3 = .ok (.iload_n 2, 1) := by decide +kernel
theorem dM_room_4 : decode bM_room 4 = .ok (.lshl, 1) := by decide +kernel
theorem dM_room_5 : decode bM_room 5 = .ok (.bipush 61, 2) := by decide +kernel
theorem dM_room_7 : decode bM_room 7 = .ok (.lshr, 1) := by decide +kernel
theorem dM_room_8 : decode bM_room 8 = .ok (.lconst 0, 1) := by decide +kernel
theorem dM_room_9 : decode bM_room 9 = .ok (.lcmp, 1) := by decide +kernel
theorem dM_room_10 : decode bM_room 10 = .ok (.ifCond .ne 9, 3) := by decide +kernel
theorem dM_room_13 : decode bM_room 13 = .ok (.iinc 2 1, 3) := by decide +kernel
theorem dM_room_16 : decode bM_room 16 = .ok (.goto (-14), 3) := by decide +kernel
theorem dM_room_19 : decode bM_room 19 = .ok (.iload_n 2, 1) := by decide +kernel
theorem dM_room_20 : decode bM_room 20 = .ok (.ireturn, 1) := by decide +kernel
theorem dM_down_0 : decode bM_down 0 = .ok (.iload_n 2, 1) := by decide +kernel
theorem dM_down_1 : decode bM_down 1 = .ok (.ifCond .ne 5, 3) := by decide +kernel
theorem dM_down_4 : decode bM_down 4 = .ok (.lload_n 0, 1) := by decide +kernel
theorem dM_down_5 : decode bM_down 5 = .ok (.lreturn, 1) := by decide +kernel
theorem dM_down_6 : decode bM_down 6 = .ok (.iload_n 2, 1) := by decide +kernel
theorem dM_down_7 : decode bM_down 7 = .ok (.bipush 62, 2) := by decide +kernel
theorem dM_down_9 : decode bM_down 9 = .ok (.if_icmp .le 5, 3) := by decide +kernel
theorem dM_down_12 : decode bM_down 12 = .ok (.lconst 1, 1) := by decide +kernel
theorem dM_down_13 : decode bM_down 13 = .ok (.lreturn, 1) := by decide +kernel
theorem dM_down_14 : decode bM_down 14 = .ok (.lload_n 0, 1) := by decide +kernel
theorem dM_down_15 : decode bM_down 15 = .ok (.iload_n 2, 1) := by decide +kernel
theorem dM_down_16 : decode bM_down 16 = .ok (.lshr, 1) := by decide +kernel
theorem dM_down_17 : decode bM_down 17 = .ok (.lstore_n 3, 1) := by decide +kernel
theorem dM_down_18 : decode bM_down 18 = .ok (.lload_n 3, 1) := by decide +kernel
theorem dM_down_19 : decode bM_down 19 = .ok (.iload_n 2, 1) := by decide +kernel
theorem dM_down_20 : decode bM_down 20 = .ok (.lshl, 1) := by decide +kernel
theorem dM_down_21 : decode bM_down 21 = .ok (.lload_n 0, 1) := by decide +kernel
theorem dM_down_22 : decode bM_down 22 = .ok (.lcmp, 1) := by decide +kernel
theorem dM_down_23 : decode bM_down 23 = .ok (.ifCond .ne 7, 3) := by decide +kernel
theorem dM_down_26 : decode bM_down 26 = .ok (.lload_n 3, 1) := by decide +kernel
theorem dM_down_27 : decode bM_down 27 = .ok (.goto 6, 3) := by decide +kernel
theorem dM_down_30 : decode bM_down 30 = .ok (.lload_n 3, 1) := by decide +kernel
theorem dM_down_31 : decode bM_down 31 = .ok (.lconst 1, 1) := by decide +kernel
theorem dM_down_32 : decode bM_down 32 = .ok (.lor, 1) := by decide +kernel
theorem dM_down_33 : decode bM_down 33 = .ok (.lreturn, 1) := by decide +kernel
theorem dM_turnB_0 : decode bM_turnB 0 = .ok (.aload_n 0, 1) := by decide +kernel
theorem dM_turnB_1 : decode bM_turnB 1 = .ok (.getfield 60, 3) := by decide +kernel
theorem dM_turnB_4 : decode bM_turnB 4 = .ok (.iconst 2, 1) := by decide +kernel
theorem dM_turnB_5 : decode bM_turnB 5 = .ok (.if_icmp .ne 15, 3) := by decide +kernel
theorem dM_turnB_8 : decode bM_turnB 8 = .ok (.aload_n 0, 1) := by decide +kernel
theorem dM_turnB_9 : decode bM_turnB 9 = .ok (.aload_n 0, 1) := by decide +kernel
theorem dM_turnB_10 : decode bM_turnB 10 = .ok (.getfield 63, 3) := by decide +kernel
theorem dM_turnB_13 : decode bM_turnB 13 = .ok (.lneg, 1) := by decide +kernel
theorem dM_turnB_14 : decode bM_turnB 14 = .ok (.putfield 63, 3) := by decide +kernel
theorem dM_turnB_17 : decode bM_turnB 17 = .ok (.goto 30, 3) := by decide +kernel
theorem dM_turnB_20 : decode bM_turnB 20 = .ok (.aload_n 0, 1) := by decide +kernel
theorem dM_turnB_21 : decode bM_turnB 21 = .ok (.getfield 60, 3) := by decide +kernel
theorem dM_turnB_24 : decode bM_turnB 24 = .ok (.invokestatic 86, 3) := by decide +kernel
theorem dM_turnB_27 : decode bM_turnB 27 = .ok (.ifCond .eq 20, 3) := by decide +kernel
theorem dM_turnB_30 : decode bM_turnB 30 = .ok (.aload_n 0, 1) := by decide +kernel
theorem dM_turnB_31 : decode bM_turnB 31 = .ok (.aload_n 0, 1) := by decide +kernel
theorem dM_turnB_32 : decode bM_turnB 32 = .ok (.getfield 60, 3) := by decide +kernel
theorem dM_turnB_35 : decode bM_turnB 35 = .ok (.iconst 3, 1) := by decide +kernel
theorem dM_turnB_36 : decode bM_turnB 36 = .ok (.if_icmp .ne 7, 3) := by decide +kernel
theorem dM_turnB_39 : decode bM_turnB 39 = .ok (.iconst 4, 1) := by decide +kernel
theorem dM_turnB_40 : decode bM_turnB 40 = .ok (.goto 4, 3) := by decide +kernel
theorem dM_turnB_43 : decode bM_turnB 43 = .ok (.iconst 3, 1) := by decide +kernel
theorem dM_turnB_44 : decode bM_turnB 44 = .ok (.putfield 60, 3) := by decide +kernel
theorem dM_turnB_47 : decode bM_turnB 47 = .ok (.return_, 1) := by decide +kernel
theorem dM_multiply_0 : decode bM_multiply 0 = .ok (.aload_n 0, 1) := by decide +kernel
theorem dM_multiply_1 : decode bM_multiply 1 = .ok (.getfield 51, 3) := by decide +kernel
theorem dM_multiply_4 : decode bM_multiply 4 = .ok (.aload_n 0, 1) := by decide +kernel
theorem dM_multiply_5 : decode bM_multiply 5 = .ok (.getfield 54, 3) := by decide +kernel
theorem dM_multiply_8 : decode bM_multiply 8 = .ok (.invokestatic 101, 3) := by decide +kernel
theorem dM_multiply_11 : decode bM_multiply 11 = .ok (.aload_n 0, 1) := by decide +kernel
theorem dM_multiply_12 : decode bM_multiply 12 = .ok (.getfield 60, 3) := by decide +kernel
theorem dM_multiply_15 : decode bM_multiply 15 = .ok (.aload_n 0, 1) := by decide +kernel
theorem dM_multiply_16 : decode bM_multiply 16 = .ok (.getfield 63, 3) := by decide +kernel
theorem dM_multiply_19 : decode bM_multiply 19 = .ok (.invokestatic 101, 3) := by decide +kernel
theorem dM_multiply_22 : decode bM_multiply 22 = .ok (.imul, 1) := by decide +kernel
theorem dM_multiply_23 : decode bM_multiply 23 = .ok (.istore_n 1, 1) := by decide +kernel
theorem dM_multiply_24 : decode bM_multiply 24 = .ok (.aload_n 0, 1) := by decide +kernel
theorem dM_multiply_25 : decode bM_multiply 25 = .ok (.getfield 51, 3) := by decide +kernel
theorem dM_multiply_28 : decode bM_multiply 28 = .ok (.iconst 5, 1) := by decide +kernel
theorem dM_multiply_29 : decode bM_multiply 29 = .ok (.if_icmp .eq 35, 3) := by decide +kernel
theorem dM_multiply_32 : decode bM_multiply 32 = .ok (.aload_n 0, 1) := by decide +kernel
theorem dM_multiply_33 : decode bM_multiply 33 = .ok (.getfield 60, 3) := by decide +kernel
theorem dM_multiply_36 : decode bM_multiply 36 = .ok (.iconst 5, 1) := by decide +kernel
theorem dM_multiply_37 : decode bM_multiply 37 = .ok (.if_icmp .eq 27, 3) := by decide +kernel
theorem dM_multiply_40 : decode bM_multiply 40 = .ok (.aload_n 0, 1) := by decide +kernel
theorem dM_multiply_41 : decode bM_multiply 41 = .ok (.getfield 51, 3) := by decide +kernel
theorem dM_multiply_44 : decode bM_multiply 44 = .ok (.invokestatic 86, 3) := by decide +kernel
theorem dM_multiply_47 : decode bM_multiply 47 = .ok (.ifCond .ne 13, 3) := by decide +kernel
theorem dM_multiply_50 : decode bM_multiply 50 = .ok (.aload_n 0, 1) := by decide +kernel
theorem dM_multiply_51 : decode bM_multiply 51 = .ok (.getfield 60, 3) := by decide +kernel
theorem dM_multiply_54 : decode bM_multiply 54 = .ok (.invokestatic 86, 3) := by decide +kernel
theorem dM_multiply_57 : decode bM_multiply 57 = .ok (.ifCond .eq 15, 3) := by decide +kernel
theorem dM_multiply_60 : decode bM_multiply 60 = .ok (.iload_n 1, 1) := by decide +kernel
theorem dM_multiply_61 : decode bM_multiply 61 = .ok (.ifCond .ne 11, 3) := by decide +kernel
theorem dM_multiply_64 : decode bM_multiply 64 = .ok (.aload_n 0, 1) := by decide +kernel
theorem dM_multiply_65 : decode bM_multiply 65 = .ok (.iconst 5, 1) := by decide +kernel
theorem dM_multiply_66 : decode bM_multiply 66 = .ok (.invokevirtual 35, 3) := by decide +kernel
theorem dM_multiply_69 : decode bM_multiply 69 = .ok (.goto 101, 3) := by decide +kernel
theorem dM_multiply_72 : decode bM_multiply 72 = .ok (.aload_n 0, 1) := by decide +kernel
theorem dM_multiply_73 : decode bM_multiply 73 = .ok (.getfield 51, 3) := by decide +kernel
theorem dM_multiply_76 : decode bM_multiply 76 = .ok (.invokestatic 86, 3) := by decide +kernel
theorem dM_multiply_79 : decode bM_multiply 79 = .ok (.ifCond .ne 13, 3) := by decide +kernel
theorem dM_multiply_82 : decode bM_multiply 82 = .ok (.aload_n 0, 1) := by decide +kernel
theorem dM_multiply_83 : decode bM_multiply 83 = .ok (.getfield 60, 3) := by decide +kernel
theorem dM_multiply_86 : decode bM_multiply 86 = .ok (.invokestatic 86, 3) := by decide +kernel
theorem dM_multiply_89 : decode bM_multiply 89 = .ok (.ifCond .eq 19, 3) := by decide +kernel
theorem dM_multiply_92 : decode bM_multiply 92 = .ok (.aload_n 0, 1) := by decide +kernel
theorem dM_multiply_93 : decode bM_multiply 93 = .ok (.iload_n 1, 1) := by decide +kernel
theorem dM_multiply_94 : decode bM_multiply 94 = .ok (.ifCond .ge 7, 3) := by decide +kernel
theorem dM_multiply_97 : decode bM_multiply 97 = .ok (.iconst 4, 1) := by decide +kernel
theorem dM_multiply_98 : decode bM_multiply 98 = .ok (.goto 4, 3) := by decide +kernel
theorem dM_multiply_101 : decode bM_multiply 101 = .ok (.iconst 3, 1) := by decide +kernel
theorem dM_multiply_102 : decode bM_multiply 102 = .ok (.invokevirtual 35, 3) := by decide +kernel
theorem dM_multiply_105 : decode bM_multiply 105 = .ok (.goto 65, 3) := by decide +kernel
theorem dM_multiply_108 : decode bM_multiply 108 = .ok (.iload_n 1, 1) := by decide +kernel
theorem dM_multiply_109 : decode bM_multiply 109 = .ok (.ifCond .ne 12, 3) := by decide +kernel
theorem dM_multiply_112 : decode bM_multiply 112 = .ok (.aload_n 0, 1) := by decide +kernel
theorem dM_multiply_113 : decode bM_multiply 113 = .ok (.lconst 0, 1) := by decide +kernel
theorem dM_multiply_114 : decode bM_multiply 114 = .ok (.iconst 0, 1) := by decide +kernel
theorem dM_multiply_115 : decode bM_multiply 115 = .ok (.invokevirtual 31, 3) := by decide +kernel
theorem dM_multiply_118 : decode bM_multiply 118 = .ok (.goto 52, 3) := by decide +kernel
theorem dM_multiply_121 : decode bM_multiply 121 = .ok (.aload_n 0, 1) := by decide +kernel
theorem dM_multiply_122 : decode bM_multiply 122 = .ok (.aload_n 0, 1) := by decide +kernel
theorem dM_multiply_123 : decode bM_multiply 123 = .ok (.getfield 54, 3) := by decide +kernel
theorem dM_multiply_126 : decode bM_multiply 126 = .ok (.invokestatic 47, 3) := by decide +kernel
theorem dM_multiply_129 : decode bM_multiply 129 = .ok (.aload_n 0, 1) := by decide +kernel
theorem dM_multiply_130 : decode bM_multiply 130 = .ok (.getfield 63, 3) := by decide +kernel
theorem dM_multiply_133 : decode bM_multiply 133 = .ok (.invokestatic 47, 3) := by decide +kernel
theorem dM_multiply_136 : decode bM_multiply 136 = .ok (.invokevirtual 105, 3) := by decide +kernel
theorem dM_multiply_139 : decode bM_multiply 139 = .ok (.aload_n 0, 1) := by decide +kernel
theorem dM_multiply_140 : decode bM_multiply 140 = .ok (.aload_n 0, 1) := by decide +kernel
theorem dM_multiply_141 : decode bM_multiply 141 = .ok (.getfield 95, 3) := by decide +kernel
theorem dM_multiply_144 : decode bM_multiply 144 = .ok (.aload_n 0, 1) := by decide +kernel
theorem dM_multiply_145 : decode bM_multiply 145 = .ok (.getfield 57, 3) := by decide +kernel
theorem dM_multiply_148 : decode bM_multiply 148 = .ok (.aload_n 0, 1) := by decide +kernel
theorem dM_multiply_149 : decode bM_multiply 149 = .ok (.getfield 66, 3) := by decide +kernel
theorem dM_multiply_152 : decode bM_multiply 152 = .ok (.iadd, 1) := by decide +kernel
theorem dM_multiply_153 : decode bM_multiply 153 = .ok (.aload_n 0, 1) := by decide +kernel
theorem dM_multiply_154 : decode bM_multiply 154 = .ok (.getfield 98, 3) := by decide +kernel
theorem dM_multiply_157 : decode bM_multiply 157 = .ok (.iadd, 1) := by decide +kernel
theorem dM_multiply_158 : decode bM_multiply 158 = .ok (.iload_n 1, 1) := by decide +kernel
theorem dM_multiply_159 : decode bM_multiply 159 = .ok (.ifCond .ge 7, 3) := by decide +kernel
theorem dM_multiply_162 : decode bM_multiply 162 = .ok (.iconst 1, 1) := by decide +kernel
theorem dM_multiply_163 : decode bM_multiply 163 = .ok (.goto 4, 3) := by decide +kernel
theorem dM_multiply_166 : decode bM_multiply 166 = .ok (.iconst 0, 1) := by decide +kernel
theorem dM_multiply_167 : decode bM_multiply 167 = .ok (.invokevirtual 43, 3) := by decide +kernel
theorem dM_multiply_170 : decode bM_multiply 170 = .ok (.return_, 1) := by decide +kernel
theorem dM_product_0 : decode bM_product 0 = .ok (.lload_n 1, 1) := by decide +kernel
theorem dM_product_1 : decode bM_product 1 = .ok (.ldc2_w 93, 3) := by decide +kernel
theorem dM_product_4 : decode bM_product 4 = .ok (.land, 1) := by decide +kernel
theorem dM_product_5 : decode bM_product 5 = .ok (.lload_n 3, 1) := by decide +kernel
theorem dM_product_6 : decode bM_product 6 = .ok (.ldc2_w 93, 3) := by decide +kernel
theorem dM_product_9 : decode bM_product 9 = .ok (.land, 1) := by decide +kernel
theorem dM_product_10 : decode bM_product 10 = .ok (.lmul, 1) := by decide +kernel
theorem dM_product_11 : decode bM_product 11 = .ok (.lstore 5, 2) := by decide +kernel
theorem dM_product_13 : decode bM_product 13 = .ok (.lload_n 1, 1) := by decide +kernel
theorem dM_product_14 : decode bM_product 14 = .ok (.bipush 27, 2) := by decide +kernel
theorem dM_product_16 : decode bM_product 16 = .ok (.lshr, 1) := by decide +kernel
theorem dM_product_17 : decode bM_product 17 = .ok (.lload_n 3, 1) := by decide +kernel
theorem dM_product_18 : decode bM_product 18 = .ok (.ldc2_w 93, 3) := by decide +kernel
theorem dM_product_21 : decode bM_product 21 = .ok (.land, 1) := by decide +kernel
theorem dM_product_22 : decode bM_product 22 = .ok (.lmul, 1) := by decide +kernel
theorem dM_product_23 : decode bM_product 23 = .ok (.lload_n 1, 1) := by decide +kernel
theorem dM_product_24 : decode bM_product 24 = .ok (.ldc2_w 93, 3) := by decide +kernel
theorem dM_product_27 : decode bM_product 27 = .ok (.land, 1) := by decide +kernel
theorem dM_product_28 : decode bM_product 28 = .ok (.lload_n 3, 1) := by decide +kernel
theorem dM_product_29 : decode bM_product 29 = .ok (.bipush 27, 2) := by decide +kernel
theorem dM_product_31 : decode bM_product 31 = .ok (.lshr, 1) := by decide +kernel
theorem dM_product_32 : decode bM_product 32 = .ok (.lmul, 1) := by decide +kernel
theorem dM_product_33 : decode bM_product 33 = .ok (.ladd, 1) := by decide +kernel
theorem dM_product_34 : decode bM_product 34 = .ok (.lload 5, 2) := by decide +kernel
theorem dM_product_36 : decode bM_product 36 = .ok (.bipush 27, 2) := by decide +kernel
theorem dM_product_38 : decode bM_product 38 = .ok (.lshr, 1) := by decide +kernel
theorem dM_product_39 : decode bM_product 39 = .ok (.ladd, 1) := by decide +kernel
theorem dM_product_40 : decode bM_product 40 = .ok (.lstore 7, 2) := by decide +kernel
theorem dM_product_42 : decode bM_product 42 = .ok (.lload_n 1, 1) := by decide +kernel
theorem dM_product_43 : decode bM_product 43 = .ok (.bipush 27, 2) := by decide +kernel
theorem dM_product_45 : decode bM_product 45 = .ok (.lshr, 1) := by decide +kernel
theorem dM_product_46 : decode bM_product 46 = .ok (.lload_n 3, 1) := by decide +kernel
theorem dM_product_47 : decode bM_product 47 = .ok (.bipush 27, 2) := by decide +kernel
theorem dM_product_49 : decode bM_product 49 = .ok (.lshr, 1) := by decide +kernel
theorem dM_product_50 : decode bM_product 50 = .ok (.lmul, 1) := by decide +kernel
theorem dM_product_51 : decode bM_product 51 = .ok (.lload 7, 2) := by decide +kernel
theorem dM_product_53 : decode bM_product 53 = .ok (.bipush 27, 2) := by decide +kernel
theorem dM_product_55 : decode bM_product 55 = .ok (.lshr, 1) := by decide +kernel
theorem dM_product_56 : decode bM_product 56 = .ok (.ladd, 1) := by decide +kernel
theorem dM_product_57 : decode bM_product 57 = .ok (.lstore 9, 2) := by decide +kernel
theorem dM_product_59 : decode bM_product 59 = .ok (.lload 7, 2) := by decide +kernel
theorem dM_product_61 : decode bM_product 61 = .ok (.ldc2_w 93, 3) := by decide +kernel
theorem dM_product_64 : decode bM_product 64 = .ok (.land, 1) := by decide +kernel
theorem dM_product_65 : decode bM_product 65 = .ok (.lstore 11, 2) := by decide +kernel
theorem dM_product_67 : decode bM_product 67 = .ok (.lload 5, 2) := by decide +kernel
theorem dM_product_69 : decode bM_product 69 = .ok (.ldc2_w 93, 3) := by decide +kernel
theorem dM_product_72 : decode bM_product 72 = .ok (.land, 1) := by decide +kernel
theorem dM_product_73 : decode bM_product 73 = .ok (.lstore 13, 2) := by decide +kernel
theorem dM_product_75 : decode bM_product 75 = .ok (.aload_n 0, 1) := by decide +kernel
theorem dM_product_76 : decode bM_product 76 = .ok (.lload 9, 2) := by decide +kernel
theorem dM_product_78 : decode bM_product 78 = .ok (.putfield 95, 3) := by decide +kernel
theorem dM_product_81 : decode bM_product 81 = .ok (.aload_n 0, 1) := by decide +kernel
theorem dM_product_82 : decode bM_product 82 = .ok (.bipush 54, 2) := by decide +kernel
theorem dM_product_84 : decode bM_product 84 = .ok (.putfield 98, 3) := by decide +kernel
theorem dM_product_87 : decode bM_product 87 = .ok (.lload 9, 2) := by decide +kernel
theorem dM_product_89 : decode bM_product 89 = .ok (.lconst 0, 1) := by decide +kernel
theorem dM_product_90 : decode bM_product 90 = .ok (.lcmp, 1) := by decide +kernel
theorem dM_product_91 : decode bM_product 91 = .ok (.ifCond .ne 8, 3) := by decide +kernel
theorem dM_product_94 : decode bM_product 94 = .ok (.bipush 27, 2) := by decide +kernel
theorem dM_product_96 : decode bM_product 96 = .ok (.goto 8, 3) := by decide +kernel
theorem dM_product_99 : decode bM_product 99 = .ok (.lload 9, 2) := by decide +kernel
theorem dM_product_101 : decode bM_product 101 = .ok (.invokestatic 78, 3) := by decide +kernel
theorem dM_product_104 : decode bM_product 104 = .ok (.istore 15, 2) := by decide +kernel
theorem dM_product_106 : decode bM_product 106 = .ok (.iload 15, 2) := by decide +kernel
theorem dM_product_108 : decode bM_product 108 = .ok (.bipush 27, 2) := by decide +kernel
theorem dM_product_110 : decode bM_product 110 = .ok (.if_icmp .le 8, 3) := by decide +kernel
theorem dM_product_113 : decode bM_product 113 = .ok (.bipush 27, 2) := by decide +kernel
theorem dM_product_115 : decode bM_product 115 = .ok (.goto 5, 3) := by decide +kernel
theorem dM_product_118 : decode bM_product 118 = .ok (.iload 15, 2) := by decide +kernel
theorem dM_product_120 : decode bM_product 120 = .ok (.istore 15, 2) := by decide +kernel
theorem dM_product_122 : decode bM_product 122 = .ok (.aload_n 0, 1) := by decide +kernel
theorem dM_product_123 : decode bM_product 123 = .ok (.aload_n 0, 1) := by decide +kernel
theorem dM_product_124 : decode bM_product 124 = .ok (.getfield 95, 3) := by decide +kernel
theorem dM_product_127 : decode bM_product 127 = .ok (.iload 15, 2) := by decide +kernel
theorem dM_product_129 : decode bM_product 129 = .ok (.lshl, 1) := by decide +kernel
theorem dM_product_130 : decode bM_product 130 = .ok (.lload 11, 2) := by decide +kernel
theorem dM_product_132 : decode bM_product 132 = .ok (.bipush 27, 2) := by decide +kernel
theorem dM_product_134 : decode bM_product 134 = .ok (.iload 15, 2) := by decide +kernel
theorem dM_product_136 : decode bM_product 136 = .ok (.isub, 1) := by decide +kernel
theorem dM_product_137 : decode bM_product 137 = .ok (.lshr, 1) := by decide +kernel
theorem dM_product_138 : decode bM_product 138 = .ok (.lor, 1) := by decide +kernel
theorem dM_product_139 : decode bM_product 139 = .ok (.putfield 95, 3) := by decide +kernel
theorem dM_product_142 : decode bM_product 142 = .ok (.aload_n 0, 1) := by decide +kernel
theorem dM_product_143 : decode bM_product 143 = .ok (.dup, 1) := by decide +kernel
theorem dM_product_144 : decode bM_product 144 = .ok (.getfield 98, 3) := by decide +kernel
theorem dM_product_147 : decode bM_product 147 = .ok (.iload 15, 2) := by decide +kernel
theorem dM_product_149 : decode bM_product 149 = .ok (.isub, 1) := by decide +kernel
theorem dM_product_150 : decode bM_product 150 = .ok (.putfield 98, 3) := by decide +kernel
theorem dM_product_153 : decode bM_product 153 = .ok (.iload 15, 2) := by decide +kernel
theorem dM_product_155 : decode bM_product 155 = .ok (.bipush 27, 2) := by decide +kernel
theorem dM_product_157 : decode bM_product 157 = .ok (.if_icmp .ge 57, 3) := by decide +kernel
theorem dM_product_160 : decode bM_product 160 = .ok (.lload 11, 2) := by decide +kernel
theorem dM_product_162 : decode bM_product 162 = .ok (.lconst 1, 1) := by decide +kernel
theorem dM_product_163 : decode bM_product 163 = .ok (.bipush 27, 2) := by decide +kernel
theorem dM_product_165 : decode bM_product 165 = .ok (.iload 15, 2) := by decide +kernel
theorem dM_product_167 : decode bM_product 167 = .ok (.isub, 1) := by decide +kernel
theorem dM_product_168 : decode bM_product 168 = .ok (.lshl, 1) := by decide +kernel
theorem dM_product_169 : decode bM_product 169 = .ok (.lconst 1, 1) := by decide +kernel
theorem dM_product_170 : decode bM_product 170 = .ok (.lsub, 1) := by decide +kernel
theorem dM_product_171 : decode bM_product 171 = .ok (.land, 1) := by decide +kernel
theorem dM_product_172 : decode bM_product 172 = .ok (.lconst 0, 1) := by decide +kernel
theorem dM_product_173 : decode bM_product 173 = .ok (.lcmp, 1) := by decide +kernel
theorem dM_product_174 : decode bM_product 174 = .ok (.ifCond .ne 10, 3) := by decide +kernel
theorem dM_product_177 : decode bM_product 177 = .ok (.lload 13, 2) := by decide +kernel
theorem dM_product_179 : decode bM_product 179 = .ok (.lconst 0, 1) := by decide +kernel
theorem dM_product_180 : decode bM_product 180 = .ok (.lcmp, 1) := by decide +kernel
theorem dM_product_181 : decode bM_product 181 = .ok (.ifCond .eq 7, 3) := by decide +kernel
theorem dM_product_184 : decode bM_product 184 = .ok (.iconst 1, 1) := by decide +kernel
theorem dM_product_185 : decode bM_product 185 = .ok (.goto 4, 3) := by decide +kernel
theorem dM_product_188 : decode bM_product 188 = .ok (.iconst 0, 1) := by decide +kernel
theorem dM_product_189 : decode bM_product 189 = .ok (.istore 16, 2) := by decide +kernel
theorem dM_product_191 : decode bM_product 191 = .ok (.aload_n 0, 1) := by decide +kernel
theorem dM_product_192 : decode bM_product 192 = .ok (.iload 16, 2) := by decide +kernel
theorem dM_product_194 : decode bM_product 194 = .ok (.ifCond .eq 12, 3) := by decide +kernel
theorem dM_product_197 : decode bM_product 197 = .ok (.aload_n 0, 1) := by decide +kernel
theorem dM_product_198 : decode bM_product 198 = .ok (.getfield 95, 3) := by decide +kernel
theorem dM_product_201 : decode bM_product 201 = .ok (.lconst 1, 1) := by decide +kernel
theorem dM_product_202 : decode bM_product 202 = .ok (.lor, 1) := by decide +kernel
theorem dM_product_203 : decode bM_product 203 = .ok (.goto 7, 3) := by decide +kernel
theorem dM_product_206 : decode bM_product 206 = .ok (.aload_n 0, 1) := by decide +kernel
theorem dM_product_207 : decode bM_product 207 = .ok (.getfield 95, 3) := by decide +kernel
theorem dM_product_210 : decode bM_product 210 = .ok (.putfield 95, 3) := by decide +kernel
theorem dM_product_213 : decode bM_product 213 = .ok (.return_, 1) := by decide +kernel
theorem dM_product_214 : decode bM_product 214 = .ok (.aload_n 0, 1) := by decide +kernel
theorem dM_product_215 : decode bM_product 215 = .ok (.getfield 95, 3) := by decide +kernel
theorem dM_product_218 : decode bM_product 218 = .ok (.lconst 0, 1) := by decide +kernel
theorem dM_product_219 : decode bM_product 219 = .ok (.lcmp, 1) := by decide +kernel
theorem dM_product_220 : decode bM_product 220 = .ok (.ifCond .ne 8, 3) := by decide +kernel
theorem dM_product_223 : decode bM_product 223 = .ok (.bipush 27, 2) := by decide +kernel
theorem dM_product_225 : decode bM_product 225 = .ok (.goto 10, 3) := by decide +kernel
theorem dM_product_228 : decode bM_product 228 = .ok (.aload_n 0, 1) := by decide +kernel
theorem dM_product_229 : decode bM_product 229 = .ok (.getfield 95, 3) := by decide +kernel
theorem dM_product_232 : decode bM_product 232 = .ok (.invokestatic 78, 3) := by decide +kernel
theorem dM_product_235 : decode bM_product 235 = .ok (.istore 16, 2) := by decide +kernel
theorem dM_product_237 : decode bM_product 237 = .ok (.iload 16, 2) := by decide +kernel
theorem dM_product_239 : decode bM_product 239 = .ok (.bipush 27, 2) := by decide +kernel
theorem dM_product_241 : decode bM_product 241 = .ok (.if_icmp .le 8, 3) := by decide +kernel
theorem dM_product_244 : decode bM_product 244 = .ok (.bipush 27, 2) := by decide +kernel
theorem dM_product_246 : decode bM_product 246 = .ok (.goto 5, 3) := by decide +kernel
theorem dM_product_249 : decode bM_product 249 = .ok (.iload 16, 2) := by decide +kernel
theorem dM_product_251 : decode bM_product 251 = .ok (.istore 16, 2) := by decide +kernel
theorem dM_product_253 : decode bM_product 253 = .ok (.aload_n 0, 1) := by decide +kernel
theorem dM_product_254 : decode bM_product 254 = .ok (.aload_n 0, 1) := by decide +kernel
theorem dM_product_255 : decode bM_product 255 = .ok (.getfield 95, 3) := by decide +kernel
theorem dM_product_258 : decode bM_product 258 = .ok (.iload 16, 2) := by decide +kernel
theorem dM_product_260 : decode bM_product 260 = .ok (.lshl, 1) := by decide +kernel
theorem dM_product_261 : decode bM_product 261 = .ok (.lload 13, 2) := by decide +kernel
theorem dM_product_263 : decode bM_product 263 = .ok (.bipush 27, 2) := by decide +kernel
theorem dM_product_265 : decode bM_product 265 = .ok (.iload 16, 2) := by decide +kernel
theorem dM_product_267 : decode bM_product 267 = .ok (.isub, 1) := by decide +kernel
theorem dM_product_268 : decode bM_product 268 = .ok (.lshr, 1) := by decide +kernel
theorem dM_product_269 : decode bM_product 269 = .ok (.lor, 1) := by decide +kernel
theorem dM_product_270 : decode bM_product 270 = .ok (.putfield 95, 3) := by decide +kernel
theorem dM_product_273 : decode bM_product 273 = .ok (.aload_n 0, 1) := by decide +kernel
theorem dM_product_274 : decode bM_product 274 = .ok (.dup, 1) := by decide +kernel
theorem dM_product_275 : decode bM_product 275 = .ok (.getfield 98, 3) := by decide +kernel
theorem dM_product_278 : decode bM_product 278 = .ok (.iload 16, 2) := by decide +kernel
theorem dM_product_280 : decode bM_product 280 = .ok (.isub, 1) := by decide +kernel
theorem dM_product_281 : decode bM_product 281 = .ok (.putfield 98, 3) := by decide +kernel
theorem dM_product_284 : decode bM_product 284 = .ok (.lload 13, 2) := by decide +kernel
theorem dM_product_286 : decode bM_product 286 = .ok (.lconst 1, 1) := by decide +kernel
theorem dM_product_287 : decode bM_product 287 = .ok (.bipush 27, 2) := by decide +kernel
theorem dM_product_289 : decode bM_product 289 = .ok (.iload 16, 2) := by decide +kernel
theorem dM_product_291 : decode bM_product 291 = .ok (.isub, 1) := by decide +kernel
theorem dM_product_292 : decode bM_product 292 = .ok (.lshl, 1) := by decide +kernel
theorem dM_product_293 : decode bM_product 293 = .ok (.lconst 1, 1) := by decide +kernel
theorem dM_product_294 : decode bM_product 294 = .ok (.lsub, 1) := by decide +kernel
theorem dM_product_295 : decode bM_product 295 = .ok (.land, 1) := by decide +kernel
theorem dM_product_296 : decode bM_product 296 = .ok (.lconst 0, 1) := by decide +kernel
theorem dM_product_297 : decode bM_product 297 = .ok (.lcmp, 1) := by decide +kernel
theorem dM_product_298 : decode bM_product 298 = .ok (.ifCond .eq 13, 3) := by decide +kernel
theorem dM_product_301 : decode bM_product 301 = .ok (.aload_n 0, 1) := by decide +kernel
theorem dM_product_302 : decode bM_product 302 = .ok (.dup, 1) := by decide +kernel
theorem dM_product_303 : decode bM_product 303 = .ok (.getfield 95, 3) := by decide +kernel
theorem dM_product_306 : decode bM_product 306 = .ok (.lconst 1, 1) := by decide +kernel
theorem dM_product_307 : decode bM_product 307 = .ok (.lor, 1) := by decide +kernel
theorem dM_product_308 : decode bM_product 308 = .ok (.putfield 95, 3) := by decide +kernel
theorem dM_product_311 : decode bM_product 311 = .ok (.return_, 1) := by decide +kernel
theorem dM_divide_0 : decode bM_divide 0 = .ok (.aload_n 0, 1) := by decide +kernel
theorem dM_divide_1 : decode bM_divide 1 = .ok (.getfield 51, 3) := by decide +kernel
theorem dM_divide_4 : decode bM_divide 4 = .ok (.aload_n 0, 1) := by decide +kernel
theorem dM_divide_5 : decode bM_divide 5 = .ok (.getfield 54, 3) := by decide +kernel
theorem dM_divide_8 : decode bM_divide 8 = .ok (.invokestatic 101, 3) := by decide +kernel
theorem dM_divide_11 : decode bM_divide 11 = .ok (.istore_n 1, 1) := by decide +kernel
theorem dM_divide_12 : decode bM_divide 12 = .ok (.aload_n 0, 1) := by decide +kernel
theorem dM_divide_13 : decode bM_divide 13 = .ok (.getfield 60, 3) := by decide +kernel
theorem dM_divide_16 : decode bM_divide 16 = .ok (.aload_n 0, 1) := by decide +kernel
theorem dM_divide_17 : decode bM_divide 17 = .ok (.getfield 63, 3) := by decide +kernel
theorem dM_divide_20 : decode bM_divide 20 = .ok (.invokestatic 101, 3) := by decide +kernel
theorem dM_divide_23 : decode bM_divide 23 = .ok (.istore_n 2, 1) := by decide +kernel
theorem dM_divide_24 : decode bM_divide 24 = .ok (.aload_n 0, 1) := by decide +kernel
theorem dM_divide_25 : decode bM_divide 25 = .ok (.getfield 51, 3) := by decide +kernel
theorem dM_divide_28 : decode bM_divide 28 = .ok (.iconst 5, 1) := by decide +kernel
theorem dM_divide_29 : decode bM_divide 29 = .ok (.if_icmp .eq 39, 3) := by decide +kernel
theorem dM_divide_32 : decode bM_divide 32 = .ok (.aload_n 0, 1) := by decide +kernel
theorem dM_divide_33 : decode bM_divide 33 = .ok (.getfield 60, 3) := by decide +kernel
theorem dM_divide_36 : decode bM_divide 36 = .ok (.iconst 5, 1) := by decide +kernel
theorem dM_divide_37 : decode bM_divide 37 = .ok (.if_icmp .eq 31, 3) := by decide +kernel
theorem dM_divide_40 : decode bM_divide 40 = .ok (.aload_n 0, 1) := by decide +kernel
theorem dM_divide_41 : decode bM_divide 41 = .ok (.getfield 51, 3) := by decide +kernel
theorem dM_divide_44 : decode bM_divide 44 = .ok (.invokestatic 86, 3) := by decide +kernel
theorem dM_divide_47 : decode bM_divide 47 = .ok (.ifCond .eq 13, 3) := by decide +kernel
theorem dM_divide_50 : decode bM_divide 50 = .ok (.aload_n 0, 1) := by decide +kernel
theorem dM_divide_51 : decode bM_divide 51 = .ok (.getfield 60, 3) := by decide +kernel
theorem dM_divide_54 : decode bM_divide 54 = .ok (.invokestatic 86, 3) := by decide +kernel
theorem dM_divide_57 : decode bM_divide 57 = .ok (.ifCond .ne 11, 3) := by decide +kernel
theorem dM_divide_60 : decode bM_divide 60 = .ok (.iload_n 1, 1) := by decide +kernel
theorem dM_divide_61 : decode bM_divide 61 = .ok (.ifCond .ne 15, 3) := by decide +kernel
theorem dM_divide_64 : decode bM_divide 64 = .ok (.iload_n 2, 1) := by decide +kernel
theorem dM_divide_65 : decode bM_divide 65 = .ok (.ifCond .ne 11, 3) := by decide +kernel
theorem dM_divide_68 : decode bM_divide 68 = .ok (.aload_n 0, 1) := by decide +kernel
theorem dM_divide_69 : decode bM_divide 69 = .ok (.iconst 5, 1) := by decide +kernel
theorem dM_divide_70 : decode bM_divide 70 = .ok (.invokevirtual 35, 3) := by decide +kernel
theorem dM_divide_73 : decode bM_divide 73 = .ok (.goto 145, 3) := by decide +kernel
theorem dM_divide_76 : decode bM_divide 76 = .ok (.aload_n 0, 1) := by decide +kernel
theorem dM_divide_77 : decode bM_divide 77 = .ok (.getfield 60, 3) := by decide +kernel
theorem dM_divide_80 : decode bM_divide 80 = .ok (.invokestatic 86, 3) := by decide +kernel
theorem dM_divide_83 : decode bM_divide 83 = .ok (.ifCond .eq 12, 3) := by decide +kernel
theorem dM_divide_86 : decode bM_divide 86 = .ok (.aload_n 0, 1) := by decide +kernel
theorem dM_divide_87 : decode bM_divide 87 = .ok (.lconst 0, 1) := by decide +kernel
theorem dM_divide_88 : decode bM_divide 88 = .ok (.iconst 0, 1) := by decide +kernel
theorem dM_divide_89 : decode bM_divide 89 = .ok (.invokevirtual 31, 3) := by decide +kernel
theorem dM_divide_92 : decode bM_divide 92 = .ok (.goto 126, 3) := by decide +kernel
theorem dM_divide_95 : decode bM_divide 95 = .ok (.aload_n 0, 1) := by decide +kernel
theorem dM_divide_96 : decode bM_divide 96 = .ok (.getfield 51, 3) := by decide +kernel
theorem dM_divide_99 : decode bM_divide 99 = .ok (.invokestatic 86, 3) := by decide +kernel
theorem dM_divide_102 : decode bM_divide 102 = .ok (.ifCond .eq 32, 3) := by decide +kernel
theorem dM_divide_105 : decode bM_divide 105 = .ok (.aload_n 0, 1) := by decide +kernel
theorem dM_divide_106 : decode bM_divide 106 = .ok (.iload_n 2, 1) := by decide +kernel
theorem dM_divide_107 : decode bM_divide 107 = .ok (.ifCond .ne 10, 3) := by decide +kernel
theorem dM_divide_110 : decode bM_divide 110 = .ok (.aload_n 0, 1) := by decide +kernel
theorem dM_divide_111 : decode bM_divide 111 = .ok (.getfield 51, 3) := by decide +kernel
theorem dM_divide_114 : decode bM_divide 114 = .ok (.goto 14, 3) := by decide +kernel
theorem dM_divide_117 : decode bM_divide 117 = .ok (.iload_n 1, 1) := by decide +kernel
theorem dM_divide_118 : decode bM_divide 118 = .ok (.iload_n 2, 1) := by decide +kernel
theorem dM_divide_119 : decode bM_divide 119 = .ok (.imul, 1) := by decide +kernel
theorem dM_divide_120 : decode bM_divide 120 = .ok (.ifCond .ge 7, 3) := by decide +kernel
theorem dM_divide_123 : decode bM_divide 123 = .ok (.iconst 4, 1) := by decide +kernel
theorem dM_divide_124 : decode bM_divide 124 = .ok (.goto 4, 3) := by decide +kernel
theorem dM_divide_127 : decode bM_divide 127 = .ok (.iconst 3, 1) := by decide +kernel
theorem dM_divide_128 : decode bM_divide 128 = .ok (.invokevirtual 35, 3) := by decide +kernel
theorem dM_divide_131 : decode bM_divide 131 = .ok (.goto 87, 3) := by decide +kernel
theorem dM_divide_134 : decode bM_divide 134 = .ok (.iload_n 2, 1) := by decide +kernel
theorem dM_divide_135 : decode bM_divide 135 = .ok (.ifCond .ne 19, 3) := by decide +kernel
theorem dM_divide_138 : decode bM_divide 138 = .ok (.aload_n 0, 1) := by decide +kernel
theorem dM_divide_139 : decode bM_divide 139 = .ok (.iload_n 1, 1) := by decide +kernel
theorem dM_divide_140 : decode bM_divide 140 = .ok (.ifCond .ge 7, 3) := by decide +kernel
theorem dM_divide_143 : decode bM_divide 143 = .ok (.iconst 4, 1) := by decide +kernel
theorem dM_divide_144 : decode bM_divide 144 = .ok (.goto 4, 3) := by decide +kernel
theorem dM_divide_147 : decode bM_divide 147 = .ok (.iconst 3, 1) := by decide +kernel
theorem dM_divide_148 : decode bM_divide 148 = .ok (.invokevirtual 35, 3) := by decide +kernel
theorem dM_divide_151 : decode bM_divide 151 = .ok (.goto 67, 3) := by decide +kernel
theorem dM_divide_154 : decode bM_divide 154 = .ok (.iload_n 1, 1) := by decide +kernel
theorem dM_divide_155 : decode bM_divide 155 = .ok (.ifCond .ne 12, 3) := by decide +kernel
theorem dM_divide_158 : decode bM_divide 158 = .ok (.aload_n 0, 1) := by decide +kernel
theorem dM_divide_159 : decode bM_divide 159 = .ok (.lconst 0, 1) := by decide +kernel
theorem dM_divide_160 : decode bM_divide 160 = .ok (.iconst 0, 1) := by decide +kernel
theorem dM_divide_161 : decode bM_divide 161 = .ok (.invokevirtual 31, 3) := by decide +kernel
theorem dM_divide_164 : decode bM_divide 164 = .ok (.goto 54, 3) := by decide +kernel
theorem dM_divide_167 : decode bM_divide 167 = .ok (.aload_n 0, 1) := by decide +kernel
theorem dM_divide_168 : decode bM_divide 168 = .ok (.aload_n 0, 1) := by decide +kernel
theorem dM_divide_169 : decode bM_divide 169 = .ok (.getfield 54, 3) := by decide +kernel
theorem dM_divide_172 : decode bM_divide 172 = .ok (.invokestatic 47, 3) := by decide +kernel
theorem dM_divide_175 : decode bM_divide 175 = .ok (.aload_n 0, 1) := by decide +kernel
theorem dM_divide_176 : decode bM_divide 176 = .ok (.getfield 63, 3) := by decide +kernel
theorem dM_divide_179 : decode bM_divide 179 = .ok (.invokestatic 47, 3) := by decide +kernel
theorem dM_divide_182 : decode bM_divide 182 = .ok (.invokevirtual 109, 3) := by decide +kernel
theorem dM_divide_185 : decode bM_divide 185 = .ok (.aload_n 0, 1) := by decide +kernel
theorem dM_divide_186 : decode bM_divide 186 = .ok (.aload_n 0, 1) := by decide +kernel
theorem dM_divide_187 : decode bM_divide 187 = .ok (.getfield 95, 3) := by decide +kernel
theorem dM_divide_190 : decode bM_divide 190 = .ok (.aload_n 0, 1) := by decide +kernel
theorem dM_divide_191 : decode bM_divide 191 = .ok (.getfield 57, 3) := by decide +kernel
theorem dM_divide_194 : decode bM_divide 194 = .ok (.aload_n 0, 1) := by decide +kernel
theorem dM_divide_195 : decode bM_divide 195 = .ok (.getfield 66, 3) := by decide +kernel
theorem dM_divide_198 : decode bM_divide 198 = .ok (.isub, 1) := by decide +kernel
theorem dM_divide_199 : decode bM_divide 199 = .ok (.aload_n 0, 1) := by decide +kernel
theorem dM_divide_200 : decode bM_divide 200 = .ok (.getfield 98, 3) := by decide +kernel
theorem dM_divide_203 : decode bM_divide 203 = .ok (.iadd, 1) := by decide +kernel
theorem dM_divide_204 : decode bM_divide 204 = .ok (.iload_n 1, 1) := by decide +kernel
theorem dM_divide_205 : decode bM_divide 205 = .ok (.iload_n 2, 1) := by decide +kernel
theorem dM_divide_206 : decode bM_divide 206 = .ok (.imul, 1) := by decide +kernel
theorem dM_divide_207 : decode bM_divide 207 = .ok (.ifCond .ge 7, 3) := by decide +kernel
theorem dM_divide_210 : decode bM_divide 210 = .ok (.iconst 1, 1) := by decide +kernel
theorem dM_divide_211 : decode bM_divide 211 = .ok (.goto 4, 3) := by decide +kernel
theorem dM_divide_214 : decode bM_divide 214 = .ok (.iconst 0, 1) := by decide +kernel
theorem dM_divide_215 : decode bM_divide 215 = .ok (.invokevirtual 43, 3) := by decide +kernel
theorem dM_divide_218 : decode bM_divide 218 = .ok (.return_, 1) := by decide +kernel
theorem dM_quotientBits_0 : decode bM_quotientBits 0 = .ok (.lload_n 1, 1) := by decide +kernel
theorem dM_quotientBits_1 : decode bM_quotientBits 1 = .ok (.lload_n 1, 1) := by decide +kernel
theorem dM_quotientBits_2 : decode bM_quotientBits 2 = .ok (.invokestatic 78, 3) := by decide +kernel
theorem dM_quotientBits_5 : decode bM_quotientBits 5 = .ok (.lshl, 1) := by decide +kernel
theorem dM_quotientBits_6 : decode bM_quotientBits 6 = .ok (.lstore 5, 2) := by decide +kernel
theorem dM_quotientBits_8 : decode bM_quotientBits 8 = .ok (.lload_n 3, 1) := by decide +kernel
theorem dM_quotientBits_9 : decode bM_quotientBits 9 = .ok (.lload_n 3, 1) := by decide +kernel
theorem dM_quotientBits_10 : decode bM_quotientBits 10 = .ok (.invokestatic 78, 3) := by decide +kernel
theorem dM_quotientBits_13 : decode bM_quotientBits 13 = .ok (.lshl, 1) := by decide +kernel
theorem dM_quotientBits_14 : decode bM_quotientBits 14 = .ok (.lstore 7, 2) := by decide +kernel
theorem dM_quotientBits_16 : decode bM_quotientBits 16 = .ok (.aload_n 0, 1) := by decide +kernel
theorem dM_quotientBits_17 : decode bM_quotientBits 17 = .ok (.lload_n 3, 1) := by decide +kernel
theorem dM_quotientBits_18 : decode bM_quotientBits 18 = .ok (.invokestatic 78, 3) := by decide +kernel
theorem dM_quotientBits_21 : decode bM_quotientBits 21 = .ok (.lload_n 1, 1) := by decide +kernel
theorem dM_quotientBits_22 : decode bM_quotientBits 22 = .ok (.invokestatic 78, 3) := by decide +kernel
theorem dM_quotientBits_25 : decode bM_quotientBits 25 = .ok (.isub, 1) := by decide +kernel
theorem dM_quotientBits_26 : decode bM_quotientBits 26 = .ok (.putfield 98, 3) := by decide +kernel
theorem dM_quotientBits_29 : decode bM_quotientBits 29 = .ok (.aload_n 0, 1) := by decide +kernel
theorem dM_quotientBits_30 : decode bM_quotientBits 30 = .ok (.lconst 0, 1) := by decide +kernel
theorem dM_quotientBits_31 : decode bM_quotientBits 31 = .ok (.putfield 95, 3) := by decide +kernel
theorem dM_quotientBits_34 : decode bM_quotientBits 34 = .ok (.iconst 0, 1) := by decide +kernel
theorem dM_quotientBits_35 : decode bM_quotientBits 35 = .ok (.istore 9, 2) := by decide +kernel
theorem dM_quotientBits_37 : decode bM_quotientBits 37 = .ok (.iload 9, 2) := by decide +kernel
theorem dM_quotientBits_39 : decode bM_quotientBits 39 = .ok (.bipush 62, 2) := by decide +kernel
theorem dM_quotientBits_41 : decode bM_quotientBits 41 = .ok (.if_icmp .ge 50, 3) := by decide +kernel
theorem dM_quotientBits_44 : decode bM_quotientBits 44 = .ok (.aload_n 0, 1) := by decide +kernel
theorem dM_quotientBits_45 : decode bM_quotientBits 45 = .ok (.aload_n 0, 1) := by decide +kernel
theorem dM_quotientBits_46 : decode bM_quotientBits 46 = .ok (.getfield 95, 3) := by decide +kernel
theorem dM_quotientBits_49 : decode bM_quotientBits 49 = .ok (.iconst 1, 1) := by decide +kernel
theorem dM_quotientBits_50 : decode bM_quotientBits 50 = .ok (.lshl, 1) := by decide +kernel
theorem dM_quotientBits_51 : decode bM_quotientBits 51 = .ok (.putfield 95, 3) := by decide +kernel
theorem dM_quotientBits_54 : decode bM_quotientBits 54 = .ok (.lload 5, 2) := by decide +kernel
theorem dM_quotientBits_56 : decode bM_quotientBits 56 = .ok (.lload 7, 2) := by decide +kernel
theorem dM_quotientBits_58 : decode bM_quotientBits 58 = .ok (.lcmp, 1) := by decide +kernel
theorem dM_quotientBits_59 : decode bM_quotientBits 59 = .ok (.ifCond .lt 20, 3) := by decide +kernel
theorem dM_quotientBits_62 : decode bM_quotientBits 62 = .ok (.aload_n 0, 1) := by decide +kernel
theorem dM_quotientBits_63 : decode bM_quotientBits 63 = .ok (.dup, 1) := by decide +kernel
theorem dM_quotientBits_64 : decode bM_quotientBits 64 = .ok (.getfield 95, 3) := by decide +kernel
theorem dM_quotientBits_67 : decode bM_quotientBits 67 = .ok (.lconst 1, 1) := by decide +kernel
theorem dM_quotientBits_68 : decode bM_quotientBits 68 = .ok (.lor, 1) := by decide +kernel
theorem dM_quotientBits_69 : decode bM_quotientBits 69 = .ok (.putfield 95, 3) := by decide +kernel
theorem dM_quotientBits_72 : decode bM_quotientBits 72 = .ok (.lload 5, 2) := by decide +kernel
theorem dM_quotientBits_74 : decode bM_quotientBits 74 = .ok (.lload 7, 2) := by decide +kernel
theorem dM_quotientBits_76 : decode bM_quotientBits 76 = .ok (.lsub, 1) := by decide +kernel
theorem dM_quotientBits_77 : decode bM_quotientBits 77 = .ok (.lstore 5, 2) := by decide +kernel
theorem dM_quotientBits_79 : decode bM_quotientBits 79 = .ok (.lload 5, 2) := by decide +kernel
theorem dM_quotientBits_81 : decode bM_quotientBits 81 = .ok (.iconst 1, 1) := by decide +kernel
theorem dM_quotientBits_82 : decode bM_quotientBits 82 = .ok (.lshl, 1) := by decide +kernel
theorem dM_quotientBits_83 : decode bM_quotientBits 83 = .ok (.lstore 5, 2) := by decide +kernel
theorem dM_quotientBits_85 : decode bM_quotientBits 85 = .ok (.iinc 9 1, 3) := by decide +kernel
theorem dM_quotientBits_88 : decode bM_quotientBits 88 = .ok (.goto (-51), 3) := by decide +kernel
theorem dM_quotientBits_91 : decode bM_quotientBits 91 = .ok (.aload_n 0, 1) := by decide +kernel
theorem dM_quotientBits_92 : decode bM_quotientBits 92 = .ok (.dup, 1) := by decide +kernel
theorem dM_quotientBits_93 : decode bM_quotientBits 93 = .ok (.getfield 98, 3) := by decide +kernel
theorem dM_quotientBits_96 : decode bM_quotientBits 96 = .ok (.bipush 61, 2) := by decide +kernel
theorem dM_quotientBits_98 : decode bM_quotientBits 98 = .ok (.isub, 1) := by decide +kernel
theorem dM_quotientBits_99 : decode bM_quotientBits 99 = .ok (.putfield 98, 3) := by decide +kernel
theorem dM_quotientBits_102 : decode bM_quotientBits 102 = .ok (.lload 5, 2) := by decide +kernel
theorem dM_quotientBits_104 : decode bM_quotientBits 104 = .ok (.lconst 0, 1) := by decide +kernel
theorem dM_quotientBits_105 : decode bM_quotientBits 105 = .ok (.lcmp, 1) := by decide +kernel
theorem dM_quotientBits_106 : decode bM_quotientBits 106 = .ok (.ifCond .eq 13, 3) := by decide +kernel
theorem dM_quotientBits_109 : decode bM_quotientBits 109 = .ok (.aload_n 0, 1) := by decide +kernel
theorem dM_quotientBits_110 : decode bM_quotientBits 110 = .ok (.dup, 1) := by decide +kernel
theorem dM_quotientBits_111 : decode bM_quotientBits 111 = .ok (.getfield 95, 3) := by decide +kernel
theorem dM_quotientBits_114 : decode bM_quotientBits 114 = .ok (.lconst 1, 1) := by decide +kernel
theorem dM_quotientBits_115 : decode bM_quotientBits 115 = .ok (.lor, 1) := by decide +kernel
theorem dM_quotientBits_116 : decode bM_quotientBits 116 = .ok (.putfield 95, 3) := by decide +kernel
theorem dM_quotientBits_119 : decode bM_quotientBits 119 = .ok (.return_, 1) := by decide +kernel
theorem dM_remainder_0 : decode bM_remainder 0 = .ok (.aload_n 0, 1) := by decide +kernel
theorem dM_remainder_1 : decode bM_remainder 1 = .ok (.getfield 51, 3) := by decide +kernel
theorem dM_remainder_4 : decode bM_remainder 4 = .ok (.aload_n 0, 1) := by decide +kernel
theorem dM_remainder_5 : decode bM_remainder 5 = .ok (.getfield 54, 3) := by decide +kernel
theorem dM_remainder_8 : decode bM_remainder 8 = .ok (.invokestatic 101, 3) := by decide +kernel
theorem dM_remainder_11 : decode bM_remainder 11 = .ok (.istore_n 1, 1) := by decide +kernel
theorem dM_remainder_12 : decode bM_remainder 12 = .ok (.aload_n 0, 1) := by decide +kernel
theorem dM_remainder_13 : decode bM_remainder 13 = .ok (.getfield 60, 3) := by decide +kernel
theorem dM_remainder_16 : decode bM_remainder 16 = .ok (.aload_n 0, 1) := by decide +kernel
theorem dM_remainder_17 : decode bM_remainder 17 = .ok (.getfield 63, 3) := by decide +kernel
theorem dM_remainder_20 : decode bM_remainder 20 = .ok (.invokestatic 101, 3) := by decide +kernel
theorem dM_remainder_23 : decode bM_remainder 23 = .ok (.istore_n 2, 1) := by decide +kernel
theorem dM_remainder_24 : decode bM_remainder 24 = .ok (.aload_n 0, 1) := by decide +kernel
theorem dM_remainder_25 : decode bM_remainder 25 = .ok (.getfield 51, 3) := by decide +kernel
theorem dM_remainder_28 : decode bM_remainder 28 = .ok (.iconst 5, 1) := by decide +kernel
theorem dM_remainder_29 : decode bM_remainder 29 = .ok (.if_icmp .eq 25, 3) := by decide +kernel
theorem dM_remainder_32 : decode bM_remainder 32 = .ok (.aload_n 0, 1) := by decide +kernel
theorem dM_remainder_33 : decode bM_remainder 33 = .ok (.getfield 60, 3) := by decide +kernel
theorem dM_remainder_36 : decode bM_remainder 36 = .ok (.iconst 5, 1) := by decide +kernel
theorem dM_remainder_37 : decode bM_remainder 37 = .ok (.if_icmp .eq 17, 3) := by decide +kernel
theorem dM_remainder_40 : decode bM_remainder 40 = .ok (.aload_n 0, 1) := by decide +kernel
theorem dM_remainder_41 : decode bM_remainder 41 = .ok (.getfield 51, 3) := by decide +kernel
theorem dM_remainder_44 : decode bM_remainder 44 = .ok (.invokestatic 86, 3) := by decide +kernel
theorem dM_remainder_47 : decode bM_remainder 47 = .ok (.ifCond .ne 7, 3) := by decide +kernel
theorem dM_remainder_50 : decode bM_remainder 50 = .ok (.iload_n 2, 1) := by decide +kernel
theorem dM_remainder_51 : decode bM_remainder 51 = .ok (.ifCond .ne 11, 3) := by decide +kernel
theorem dM_remainder_54 : decode bM_remainder 54 = .ok (.aload_n 0, 1) := by decide +kernel
theorem dM_remainder_55 : decode bM_remainder 55 = .ok (.iconst 5, 1) := by decide +kernel
theorem dM_remainder_56 : decode bM_remainder 56 = .ok (.invokevirtual 35, 3) := by decide +kernel
theorem dM_remainder_59 : decode bM_remainder 59 = .ok (.goto 137, 3) := by decide +kernel
theorem dM_remainder_62 : decode bM_remainder 62 = .ok (.aload_n 0, 1) := by decide +kernel
theorem dM_remainder_63 : decode bM_remainder 63 = .ok (.getfield 60, 3) := by decide +kernel
theorem dM_remainder_66 : decode bM_remainder 66 = .ok (.invokestatic 86, 3) := by decide +kernel
theorem dM_remainder_69 : decode bM_remainder 69 = .ok (.ifCond .eq 38, 3) := by decide +kernel
theorem dM_remainder_72 : decode bM_remainder 72 = .ok (.iload_n 1, 1) := by decide +kernel
theorem dM_remainder_73 : decode bM_remainder 73 = .ok (.ifCond .eq 8, 3) := by decide +kernel
theorem dM_remainder_76 : decode bM_remainder 76 = .ok (.iload_n 1, 1) := by decide +kernel
theorem dM_remainder_77 : decode bM_remainder 77 = .ok (.iload_n 2, 1) := by decide +kernel
theorem dM_remainder_78 : decode bM_remainder 78 = .ok (.if_icmp .ne 18, 3) := by decide +kernel
theorem dM_remainder_81 : decode bM_remainder 81 = .ok (.aload_n 0, 1) := by decide +kernel
theorem dM_remainder_82 : decode bM_remainder 82 = .ok (.aload_n 0, 1) := by decide +kernel
theorem dM_remainder_83 : decode bM_remainder 83 = .ok (.getfield 54, 3) := by decide +kernel
theorem dM_remainder_86 : decode bM_remainder 86 = .ok (.aload_n 0, 1) := by decide +kernel
theorem dM_remainder_87 : decode bM_remainder 87 = .ok (.getfield 57, 3) := by decide +kernel
theorem dM_remainder_90 : decode bM_remainder 90 = .ok (.invokevirtual 31, 3) := by decide +kernel
theorem dM_remainder_93 : decode bM_remainder 93 = .ok (.goto 103, 3) := by decide +kernel
theorem dM_remainder_96 : decode bM_remainder 96 = .ok (.aload_n 0, 1) := by decide +kernel
theorem dM_remainder_97 : decode bM_remainder 97 = .ok (.aload_n 0, 1) := by decide +kernel
theorem dM_remainder_98 : decode bM_remainder 98 = .ok (.getfield 60, 3) := by decide +kernel
theorem dM_remainder_101 : decode bM_remainder 101 = .ok (.invokevirtual 35, 3) := by decide +kernel
theorem dM_remainder_104 : decode bM_remainder 104 = .ok (.goto 92, 3) := by decide +kernel
theorem dM_remainder_107 : decode bM_remainder 107 = .ok (.iload_n 1, 1) := by decide +kernel
theorem dM_remainder_108 : decode bM_remainder 108 = .ok (.ifCond .ne 12, 3) := by decide +kernel
theorem dM_remainder_111 : decode bM_remainder 111 = .ok (.aload_n 0, 1) := by decide +kernel
theorem dM_remainder_112 : decode bM_remainder 112 = .ok (.lconst 0, 1) := by decide +kernel
theorem dM_remainder_113 : decode bM_remainder 113 = .ok (.iconst 0, 1) := by decide +kernel
theorem dM_remainder_114 : decode bM_remainder 114 = .ok (.invokevirtual 31, 3) := by decide +kernel
theorem dM_remainder_117 : decode bM_remainder 117 = .ok (.goto 79, 3) := by decide +kernel
theorem dM_remainder_120 : decode bM_remainder 120 = .ok (.aload_n 0, 1) := by decide +kernel
theorem dM_remainder_121 : decode bM_remainder 121 = .ok (.invokevirtual 116, 3) := by decide +kernel
theorem dM_remainder_124 : decode bM_remainder 124 = .ok (.aload_n 0, 1) := by decide +kernel
theorem dM_remainder_125 : decode bM_remainder 125 = .ok (.iload_n 1, 1) := by decide +kernel
theorem dM_remainder_126 : decode bM_remainder 126 = .ok (.ifCond .ge 11, 3) := by decide +kernel
theorem dM_remainder_129 : decode bM_remainder 129 = .ok (.aload_n 0, 1) := by decide +kernel
theorem dM_remainder_130 : decode bM_remainder 130 = .ok (.getfield 95, 3) := by decide +kernel
theorem dM_remainder_133 : decode bM_remainder 133 = .ok (.lneg, 1) := by decide +kernel
theorem dM_remainder_134 : decode bM_remainder 134 = .ok (.goto 7, 3) := by decide +kernel
theorem dM_remainder_137 : decode bM_remainder 137 = .ok (.aload_n 0, 1) := by decide +kernel
theorem dM_remainder_138 : decode bM_remainder 138 = .ok (.getfield 95, 3) := by decide +kernel
theorem dM_remainder_141 : decode bM_remainder 141 = .ok (.aload_n 0, 1) := by decide +kernel
theorem dM_remainder_142 : decode bM_remainder 142 = .ok (.getfield 98, 3) := by decide +kernel
theorem dM_remainder_145 : decode bM_remainder 145 = .ok (.invokevirtual 31, 3) := by decide +kernel
theorem dM_remainder_148 : decode bM_remainder 148 = .ok (.aload_n 0, 1) := by decide +kernel
theorem dM_remainder_149 : decode bM_remainder 149 = .ok (.getfield 24, 3) := by decide +kernel
theorem dM_remainder_152 : decode bM_remainder 152 = .ok (.lconst 0, 1) := by decide +kernel
theorem dM_remainder_153 : decode bM_remainder 153 = .ok (.lcmp, 1) := by decide +kernel
theorem dM_remainder_154 : decode bM_remainder 154 = .ok (.ifCond .eq 42, 3) := by decide +kernel
theorem dM_remainder_157 : decode bM_remainder 157 = .ok (.aload_n 0, 1) := by decide +kernel
theorem dM_remainder_158 : decode bM_remainder 158 = .ok (.getfield 24, 3) := by decide +kernel
theorem dM_remainder_161 : decode bM_remainder 161 = .ok (.lconst 0, 1) := by decide +kernel
theorem dM_remainder_162 : decode bM_remainder 162 = .ok (.lcmp, 1) := by decide +kernel
theorem dM_remainder_163 : decode bM_remainder 163 = .ok (.ifCond .ge 7, 3) := by decide +kernel
theorem dM_remainder_166 : decode bM_remainder 166 = .ok (.iconst 1, 1) := by decide +kernel
theorem dM_remainder_167 : decode bM_remainder 167 = .ok (.goto 4, 3) := by decide +kernel
theorem dM_remainder_170 : decode bM_remainder 170 = .ok (.iconst 0, 1) := by decide +kernel
theorem dM_remainder_171 : decode bM_remainder 171 = .ok (.aload_n 0, 1) := by decide +kernel
theorem dM_remainder_172 : decode bM_remainder 172 = .ok (.getfield 63, 3) := by decide +kernel
theorem dM_remainder_175 : decode bM_remainder 175 = .ok (.lconst 0, 1) := by decide +kernel
theorem dM_remainder_176 : decode bM_remainder 176 = .ok (.lcmp, 1) := by decide +kernel
theorem dM_remainder_177 : decode bM_remainder 177 = .ok (.ifCond .ge 7, 3) := by decide +kernel
theorem dM_remainder_180 : decode bM_remainder 180 = .ok (.iconst 1, 1) := by decide +kernel
theorem dM_remainder_181 : decode bM_remainder 181 = .ok (.goto 4, 3) := by decide +kernel
theorem dM_remainder_184 : decode bM_remainder 184 = .ok (.iconst 0, 1) := by decide +kernel
theorem dM_remainder_185 : decode bM_remainder 185 = .ok (.if_icmp .eq 11, 3) := by decide +kernel
theorem dM_remainder_188 : decode bM_remainder 188 = .ok (.aload_n 0, 1) := by decide +kernel
theorem dM_remainder_189 : decode bM_remainder 189 = .ok (.invokevirtual 72, 3) := by decide +kernel
theorem dM_remainder_192 : decode bM_remainder 192 = .ok (.aload_n 0, 1) := by decide +kernel
theorem dM_remainder_193 : decode bM_remainder 193 = .ok (.invokevirtual 119, 3) := by decide +kernel
theorem dM_remainder_196 : decode bM_remainder 196 = .ok (.return_, 1) := by decide +kernel
theorem dM_restOfSizes_0 : decode bM_restOfSizes 0 = .ok (.aload_n 0, 1) := by decide +kernel
theorem dM_restOfSizes_1 : decode bM_restOfSizes 1 = .ok (.getfield 54, 3) := by decide +kernel
theorem dM_restOfSizes_4 : decode bM_restOfSizes 4 = .ok (.invokestatic 47, 3) := by decide +kernel
theorem dM_restOfSizes_7 : decode bM_restOfSizes 7 = .ok (.lstore_n 1, 1) := by decide +kernel
theorem dM_restOfSizes_8 : decode bM_restOfSizes 8 = .ok (.aload_n 0, 1) := by decide +kernel
theorem dM_restOfSizes_9 : decode bM_restOfSizes 9 = .ok (.getfield 63, 3) := by decide +kernel
theorem dM_restOfSizes_12 : decode bM_restOfSizes 12 = .ok (.invokestatic 47, 3) := by decide +kernel
theorem dM_restOfSizes_15 : decode bM_restOfSizes 15 = .ok (.lstore_n 3, 1) := by decide +kernel
theorem dM_restOfSizes_16 : decode bM_restOfSizes 16 = .ok (.aload_n 0, 1) := by decide +kernel
theorem dM_restOfSizes_17 : decode bM_restOfSizes 17 = .ok (.getfield 57, 3) := by decide +kernel
theorem dM_restOfSizes_20 : decode bM_restOfSizes 20 = .ok (.aload_n 0, 1) := by decide +kernel
theorem dM_restOfSizes_21 : decode bM_restOfSizes 21 = .ok (.getfield 66, 3) := by decide +kernel
theorem dM_restOfSizes_24 : decode bM_restOfSizes 24 = .ok (.if_icmp .ge 93, 3) := by decide +kernel
theorem dM_restOfSizes_27 : decode bM_restOfSizes 27 = .ok (.aload_n 0, 1) := by decide +kernel
theorem dM_restOfSizes_28 : decode bM_restOfSizes 28 = .ok (.getfield 66, 3) := by decide +kernel
theorem dM_restOfSizes_31 : decode bM_restOfSizes 31 = .ok (.aload_n 0, 1) := by decide +kernel
theorem dM_restOfSizes_32 : decode bM_restOfSizes 32 = .ok (.getfield 57, 3) := by decide +kernel
theorem dM_restOfSizes_35 : decode bM_restOfSizes 35 = .ok (.isub, 1) := by decide +kernel
theorem dM_restOfSizes_36 : decode bM_restOfSizes 36 = .ok (.bipush 60, 2) := by decide +kernel
theorem dM_restOfSizes_38 : decode bM_restOfSizes 38 = .ok (.if_icmp .gt 45, 3) := by decide +kernel
theorem dM_restOfSizes_41 : decode bM_restOfSizes 41 = .ok (.lload_n 3, 1) := by decide +kernel
theorem dM_restOfSizes_42 : decode bM_restOfSizes 42 = .ok (.aload_n 0, 1) := by decide +kernel
theorem dM_restOfSizes_43 : decode bM_restOfSizes 43 = .ok (.getfield 66, 3) := by decide +kernel
theorem dM_restOfSizes_46 : decode bM_restOfSizes 46 = .ok (.aload_n 0, 1) := by decide +kernel
theorem dM_restOfSizes_47 : decode bM_restOfSizes 47 = .ok (.getfield 57, 3) := by decide +kernel
theorem dM_restOfSizes_50 : decode bM_restOfSizes 50 = .ok (.isub, 1) := by decide +kernel
theorem dM_restOfSizes_51 : decode bM_restOfSizes 51 = .ok (.lshl, 1) := by decide +kernel
theorem dM_restOfSizes_52 : decode bM_restOfSizes 52 = .ok (.aload_n 0, 1) := by decide +kernel
theorem dM_restOfSizes_53 : decode bM_restOfSizes 53 = .ok (.getfield 66, 3) := by decide +kernel
theorem dM_restOfSizes_56 : decode bM_restOfSizes 56 = .ok (.aload_n 0, 1) := by decide +kernel
theorem dM_restOfSizes_57 : decode bM_restOfSizes 57 = .ok (.getfield 57, 3) := by decide +kernel
theorem dM_restOfSizes_60 : decode bM_restOfSizes 60 = .ok (.isub, 1) := by decide +kernel
theorem dM_restOfSizes_61 : decode bM_restOfSizes 61 = .ok (.lshr, 1) := by decide +kernel
theorem dM_restOfSizes_62 : decode bM_restOfSizes 62 = .ok (.lload_n 3, 1) := by decide +kernel
theorem dM_restOfSizes_63 : decode bM_restOfSizes 63 = .ok (.lcmp, 1) := by decide +kernel
theorem dM_restOfSizes_64 : decode bM_restOfSizes 64 = .ok (.ifCond .ne 19, 3) := by decide +kernel
theorem dM_restOfSizes_67 : decode bM_restOfSizes 67 = .ok (.lload_n 3, 1) := by decide +kernel
theorem dM_restOfSizes_68 : decode bM_restOfSizes 68 = .ok (.aload_n 0, 1) := by decide +kernel
theorem dM_restOfSizes_69 : decode bM_restOfSizes 69 = .ok (.getfield 66, 3) := by decide +kernel
theorem dM_restOfSizes_72 : decode bM_restOfSizes 72 = .ok (.aload_n 0, 1) := by decide +kernel
theorem dM_restOfSizes_73 : decode bM_restOfSizes 73 = .ok (.getfield 57, 3) := by decide +kernel
theorem dM_restOfSizes_76 : decode bM_restOfSizes 76 = .ok (.isub, 1) := by decide +kernel
theorem dM_restOfSizes_77 : decode bM_restOfSizes 77 = .ok (.lshl, 1) := by decide +kernel
theorem dM_restOfSizes_78 : decode bM_restOfSizes 78 = .ok (.lconst 0, 1) := by decide +kernel
theorem dM_restOfSizes_79 : decode bM_restOfSizes 79 = .ok (.lcmp, 1) := by decide +kernel
theorem dM_restOfSizes_80 : decode bM_restOfSizes 80 = .ok (.ifCond .ge 11, 3) := by decide +kernel
theorem dM_restOfSizes_83 : decode bM_restOfSizes 83 = .ok (.aload_n 0, 1) := by decide +kernel
theorem dM_restOfSizes_84 : decode bM_restOfSizes 84 = .ok (.lload_n 1, 1) := by decide +kernel
theorem dM_restOfSizes_85 : decode bM_restOfSizes 85 = .ok (.putfield 95, 3) := by decide +kernel
theorem dM_restOfSizes_88 : decode bM_restOfSizes 88 = .ok (.goto 20, 3) := by decide +kernel
theorem dM_restOfSizes_91 : decode bM_restOfSizes 91 = .ok (.aload_n 0, 1) := by decide +kernel
theorem dM_restOfSizes_92 : decode bM_restOfSizes 92 = .ok (.lload_n 1, 1) := by decide +kernel
theorem dM_restOfSizes_93 : decode bM_restOfSizes 93 = .ok (.lload_n 3, 1) := by decide +kernel
theorem dM_restOfSizes_94 : decode bM_restOfSizes 94 = .ok (.aload_n 0, 1) := by decide +kernel
theorem dM_restOfSizes_95 : decode bM_restOfSizes 95 = .ok (.getfield 66, 3) := by decide +kernel
theorem dM_restOfSizes_98 : decode bM_restOfSizes 98 = .ok (.aload_n 0, 1) := by decide +kernel
theorem dM_restOfSizes_99 : decode bM_restOfSizes 99 = .ok (.getfield 57, 3) := by decide +kernel
theorem dM_restOfSizes_102 : decode bM_restOfSizes 102 = .ok (.isub, 1) := by decide +kernel
theorem dM_restOfSizes_103 : decode bM_restOfSizes 103 = .ok (.lshl, 1) := by decide +kernel
theorem dM_restOfSizes_104 : decode bM_restOfSizes 104 = .ok (.lrem, 1) := by decide +kernel
theorem dM_restOfSizes_105 : decode bM_restOfSizes 105 = .ok (.putfield 95, 3) := by decide +kernel
theorem dM_restOfSizes_108 : decode bM_restOfSizes 108 = .ok (.aload_n 0, 1) := by decide +kernel
theorem dM_restOfSizes_109 : decode bM_restOfSizes 109 = .ok (.aload_n 0, 1) := by decide +kernel
theorem dM_restOfSizes_110 : decode bM_restOfSizes 110 = .ok (.getfield 57, 3) := by decide +kernel
theorem dM_restOfSizes_113 : decode bM_restOfSizes 113 = .ok (.putfield 98, 3) := by decide +kernel
theorem dM_restOfSizes_116 : decode bM_restOfSizes 116 = .ok (.return_, 1) := by decide +kernel
theorem dM_restOfSizes_117 : decode bM_restOfSizes 117 = .ok (.aload_n 0, 1) := by decide +kernel
theorem dM_restOfSizes_118 : decode bM_restOfSizes 118 = .ok (.lload_n 1, 1) := by decide +kernel
theorem dM_restOfSizes_119 : decode bM_restOfSizes 119 = .ok (.lload_n 3, 1) := by decide +kernel
theorem dM_restOfSizes_120 : decode bM_restOfSizes 120 = .ok (.lrem, 1) := by decide +kernel
theorem dM_restOfSizes_121 : decode bM_restOfSizes 121 = .ok (.putfield 95, 3) := by decide +kernel
theorem dM_restOfSizes_124 : decode bM_restOfSizes 124 = .ok (.iconst 0, 1) := by decide +kernel
theorem dM_restOfSizes_125 : decode bM_restOfSizes 125 = .ok (.istore 5, 2) := by decide +kernel
theorem dM_restOfSizes_127 : decode bM_restOfSizes 127 = .ok (.iload 5, 2) := by decide +kernel
theorem dM_restOfSizes_129 : decode bM_restOfSizes 129 = .ok (.aload_n 0, 1) := by decide +kernel
theorem dM_restOfSizes_130 : decode bM_restOfSizes 130 = .ok (.getfield 57, 3) := by decide +kernel
theorem dM_restOfSizes_133 : decode bM_restOfSizes 133 = .ok (.aload_n 0, 1) := by decide +kernel
theorem dM_restOfSizes_134 : decode bM_restOfSizes 134 = .ok (.getfield 66, 3) := by decide +kernel
theorem dM_restOfSizes_137 : decode bM_restOfSizes 137 = .ok (.isub, 1) := by decide +kernel
theorem dM_restOfSizes_138 : decode bM_restOfSizes 138 = .ok (.if_icmp .ge 23, 3) := by decide +kernel
theorem dM_restOfSizes_141 : decode bM_restOfSizes 141 = .ok (.aload_n 0, 1) := by decide +kernel
theorem dM_restOfSizes_142 : decode bM_restOfSizes 142 = .ok (.ldc2_w 114, 3) := by decide +kernel
theorem dM_restOfSizes_145 : decode bM_restOfSizes 145 = .ok (.aload_n 0, 1) := by decide +kernel
theorem dM_restOfSizes_146 : decode bM_restOfSizes 146 = .ok (.getfield 95, 3) := by decide +kernel
theorem dM_restOfSizes_149 : decode bM_restOfSizes 149 = .ok (.lmul, 1) := by decide +kernel
theorem dM_restOfSizes_150 : decode bM_restOfSizes 150 = .ok (.lload_n 3, 1) := by decide +kernel
theorem dM_restOfSizes_151 : decode bM_restOfSizes 151 = .ok (.lrem, 1) := by decide +kernel
theorem dM_restOfSizes_152 : decode bM_restOfSizes 152 = .ok (.putfield 95, 3) := by decide +kernel
theorem dM_restOfSizes_155 : decode bM_restOfSizes 155 = .ok (.iinc 5 1, 3) := by decide +kernel
theorem dM_restOfSizes_158 : decode bM_restOfSizes 158 = .ok (.goto (-31), 3) := by decide +kernel
theorem dM_restOfSizes_161 : decode bM_restOfSizes 161 = .ok (.aload_n 0, 1) := by decide +kernel
theorem dM_restOfSizes_162 : decode bM_restOfSizes 162 = .ok (.aload_n 0, 1) := by decide +kernel
theorem dM_restOfSizes_163 : decode bM_restOfSizes 163 = .ok (.getfield 66, 3) := by decide +kernel
theorem dM_restOfSizes_166 : decode bM_restOfSizes 166 = .ok (.putfield 98, 3) := by decide +kernel
theorem dM_restOfSizes_169 : decode bM_restOfSizes 169 = .ok (.return_, 1) := by decide +kernel
theorem dM_power_0 : decode bM_power 0 = .ok (.aload_n 0, 1) := by decide +kernel
theorem dM_power_1 : decode bM_power 1 = .ok (.getfield 60, 3) := by decide +kernel
theorem dM_power_4 : decode bM_power 4 = .ok (.iconst 2, 1) := by decide +kernel
theorem dM_power_5 : decode bM_power 5 = .ok (.if_icmp .ne 72, 3) := by decide +kernel
theorem dM_power_8 : decode bM_power 8 = .ok (.aload_n 0, 1) := by decide +kernel
theorem dM_power_9 : decode bM_power 9 = .ok (.aload_n 0, 1) := by decide +kernel
theorem dM_power_10 : decode bM_power 10 = .ok (.getfield 60, 3) := by decide +kernel
theorem dM_power_13 : decode bM_power 13 = .ok (.aload_n 0, 1) := by decide +kernel
theorem dM_power_14 : decode bM_power 14 = .ok (.getfield 63, 3) := by decide +kernel
theorem dM_power_17 : decode bM_power 17 = .ok (.aload_n 0, 1) := by decide +kernel
theorem dM_power_18 : decode bM_power 18 = .ok (.getfield 66, 3) := by decide +kernel
theorem dM_power_21 : decode bM_power 21 = .ok (.invokevirtual 126, 3) := by decide +kernel
theorem dM_power_24 : decode bM_power 24 = .ok (.ifCond .eq 53, 3) := by decide +kernel
theorem dM_power_27 : decode bM_power 27 = .ok (.aload_n 0, 1) := by decide +kernel
theorem dM_power_28 : decode bM_power 28 = .ok (.aload_n 0, 1) := by decide +kernel
theorem dM_power_29 : decode bM_power 29 = .ok (.getfield 60, 3) := by decide +kernel
theorem dM_power_32 : decode bM_power 32 = .ok (.aload_n 0, 1) := by decide +kernel
theorem dM_power_33 : decode bM_power 33 = .ok (.getfield 63, 3) := by decide +kernel
theorem dM_power_36 : decode bM_power 36 = .ok (.aload_n 0, 1) := by decide +kernel
theorem dM_power_37 : decode bM_power 37 = .ok (.getfield 66, 3) := by decide +kernel
theorem dM_power_40 : decode bM_power 40 = .ok (.invokevirtual 130, 3) := by decide +kernel
theorem dM_power_43 : decode bM_power 43 = .ok (.ldc2_w 170, 3) := by decide +kernel
theorem dM_power_46 : decode bM_power 46 = .ok (.lcmp, 1) := by decide +kernel
theorem dM_power_47 : decode bM_power 47 = .ok (.ifCond .lt 30, 3) := by decide +kernel
theorem dM_power_50 : decode bM_power 50 = .ok (.aload_n 0, 1) := by decide +kernel
theorem dM_power_51 : decode bM_power 51 = .ok (.aload_n 0, 1) := by decide +kernel
theorem dM_power_52 : decode bM_power 52 = .ok (.getfield 60, 3) := by decide +kernel
theorem dM_power_55 : decode bM_power 55 = .ok (.aload_n 0, 1) := by decide +kernel
theorem dM_power_56 : decode bM_power 56 = .ok (.getfield 63, 3) := by decide +kernel
theorem dM_power_59 : decode bM_power 59 = .ok (.aload_n 0, 1) := by decide +kernel
theorem dM_power_60 : decode bM_power 60 = .ok (.getfield 66, 3) := by decide +kernel
theorem dM_power_63 : decode bM_power 63 = .ok (.invokevirtual 130, 3) := by decide +kernel
theorem dM_power_66 : decode bM_power 66 = .ok (.ldc2_w 172, 3) := by decide +kernel
theorem dM_power_69 : decode bM_power 69 = .ok (.lcmp, 1) := by decide +kernel
theorem dM_power_70 : decode bM_power 70 = .ok (.ifCond .gt 7, 3) := by decide +kernel
theorem dM_power_73 : decode bM_power 73 = .ok (.iconst 1, 1) := by decide +kernel
theorem dM_power_74 : decode bM_power 74 = .ok (.goto 4, 3) := by decide +kernel
theorem dM_power_77 : decode bM_power 77 = .ok (.iconst 0, 1) := by decide +kernel
theorem dM_power_78 : decode bM_power 78 = .ok (.istore_n 1, 1) := by decide +kernel
theorem dM_power_79 : decode bM_power 79 = .ok (.iload_n 1, 1) := by decide +kernel
theorem dM_power_80 : decode bM_power 80 = .ok (.ifCond .ne 5, 3) := by decide +kernel
theorem dM_power_83 : decode bM_power 83 = .ok (.iconst 3, 1) := by decide +kernel
theorem dM_power_84 : decode bM_power 84 = .ok (.ireturn, 1) := by decide +kernel
theorem dM_power_85 : decode bM_power 85 = .ok (.aload_n 0, 1) := by decide +kernel
theorem dM_power_86 : decode bM_power 86 = .ok (.aload_n 0, 1) := by decide +kernel
theorem dM_power_87 : decode bM_power 87 = .ok (.getfield 60, 3) := by decide +kernel
theorem dM_power_90 : decode bM_power 90 = .ok (.aload_n 0, 1) := by decide +kernel
theorem dM_power_91 : decode bM_power 91 = .ok (.getfield 63, 3) := by decide +kernel
theorem dM_power_94 : decode bM_power 94 = .ok (.aload_n 0, 1) := by decide +kernel
theorem dM_power_95 : decode bM_power 95 = .ok (.getfield 66, 3) := by decide +kernel
theorem dM_power_98 : decode bM_power 98 = .ok (.invokevirtual 130, 3) := by decide +kernel
theorem dM_power_101 : decode bM_power 101 = .ok (.lstore_n 2, 1) := by decide +kernel
theorem dM_power_102 : decode bM_power 102 = .ok (.lload_n 2, 1) := by decide +kernel
theorem dM_power_103 : decode bM_power 103 = .ok (.invokestatic 47, 3) := by decide +kernel
theorem dM_power_106 : decode bM_power 106 = .ok (.l2i, 1) := by decide +kernel
theorem dM_power_107 : decode bM_power 107 = .ok (.istore 4, 2) := by decide +kernel
theorem dM_power_109 : decode bM_power 109 = .ok (.iconst 2, 1) := by decide +kernel
theorem dM_power_110 : decode bM_power 110 = .ok (.istore 5, 2) := by decide +kernel
theorem dM_power_112 : decode bM_power 112 = .ok (.lconst 1, 1) := by decide +kernel
theorem dM_power_113 : decode bM_power 113 = .ok (.lstore 6, 2) := by decide +kernel
theorem dM_power_115 : decode bM_power 115 = .ok (.iconst 0, 1) := by decide +kernel
theorem dM_power_116 : decode bM_power 116 = .ok (.istore 8, 2) := by decide +kernel
theorem dM_power_118 : decode bM_power 118 = .ok (.iload 4, 2) := by decide +kernel
theorem dM_power_120 : decode bM_power 120 = .ok (.ifCond .le 109, 3) := by decide +kernel
theorem dM_power_123 : decode bM_power 123 = .ok (.aload_n 0, 1) := by decide +kernel
theorem dM_power_124 : decode bM_power 124 = .ok (.getfield 51, 3) := by decide +kernel
theorem dM_power_127 : decode bM_power 127 = .ok (.istore 9, 2) := by decide +kernel
theorem dM_power_129 : decode bM_power 129 = .ok (.aload_n 0, 1) := by decide +kernel
theorem dM_power_130 : decode bM_power 130 = .ok (.getfield 54, 3) := by decide +kernel
theorem dM_power_133 : decode bM_power 133 = .ok (.lstore 10, 2) := by decide +kernel
theorem dM_power_135 : decode bM_power 135 = .ok (.aload_n 0, 1) := by decide +kernel
theorem dM_power_136 : decode bM_power 136 = .ok (.getfield 57, 3) := by decide +kernel
theorem dM_power_139 : decode bM_power 139 = .ok (.istore 12, 2) := by decide +kernel
theorem dM_power_141 : decode bM_power 141 = .ok (.iload 4, 2) := by decide +kernel
theorem dM_power_143 : decode bM_power 143 = .ok (.iconst 1, 1) := by decide +kernel
theorem dM_power_144 : decode bM_power 144 = .ok (.iand, 1) := by decide +kernel
theorem dM_power_145 : decode bM_power 145 = .ok (.iconst 1, 1) := by decide +kernel
theorem dM_power_146 : decode bM_power 146 = .ok (.if_icmp .ne 43, 3) := by decide +kernel
theorem dM_power_149 : decode bM_power 149 = .ok (.aload_n 0, 1) := by decide +kernel
theorem dM_power_150 : decode bM_power 150 = .ok (.iload 5, 2) := by decide +kernel
theorem dM_power_152 : decode bM_power 152 = .ok (.putfield 60, 3) := by decide +kernel
theorem dM_power_155 : decode bM_power 155 = .ok (.aload_n 0, 1) := by decide +kernel
theorem dM_power_156 : decode bM_power 156 = .ok (.lload 6, 2) := by decide +kernel
theorem dM_power_158 : decode bM_power 158 = .ok (.putfield 63, 3) := by decide +kernel
theorem dM_power_161 : decode bM_power 161 = .ok (.aload_n 0, 1) := by decide +kernel
theorem dM_power_162 : decode bM_power 162 = .ok (.iload 8, 2) := by decide +kernel
theorem dM_power_164 : decode bM_power 164 = .ok (.putfield 66, 3) := by decide +kernel
theorem dM_power_167 : decode bM_power 167 = .ok (.aload_n 0, 1) := by decide +kernel
theorem dM_power_168 : decode bM_power 168 = .ok (.invokevirtual 154, 3) := by decide +kernel
theorem dM_power_171 : decode bM_power 171 = .ok (.aload_n 0, 1) := by decide +kernel
theorem dM_power_172 : decode bM_power 172 = .ok (.getfield 20, 3) := by decide +kernel
theorem dM_power_175 : decode bM_power 175 = .ok (.istore 5, 2) := by decide +kernel
theorem dM_power_177 : decode bM_power 177 = .ok (.aload_n 0, 1) := by decide +kernel
theorem dM_power_178 : decode bM_power 178 = .ok (.getfield 24, 3) := by decide +kernel
theorem dM_power_181 : decode bM_power 181 = .ok (.lstore 6, 2) := by decide +kernel
theorem dM_power_183 : decode bM_power 183 = .ok (.aload_n 0, 1) := by decide +kernel
theorem dM_power_184 : decode bM_power 184 = .ok (.getfield 28, 3) := by decide +kernel
theorem dM_power_187 : decode bM_power 187 = .ok (.istore 8, 2) := by decide +kernel
theorem dM_power_189 : decode bM_power 189 = .ok (.iload 4, 2) := by decide +kernel
theorem dM_power_191 : decode bM_power 191 = .ok (.iconst 1, 1) := by decide +kernel
theorem dM_power_192 : decode bM_power 192 = .ok (.ishr, 1) := by decide +kernel
theorem dM_power_193 : decode bM_power 193 = .ok (.istore 4, 2) := by decide +kernel
theorem dM_power_195 : decode bM_power 195 = .ok (.iload 4, 2) := by decide +kernel
theorem dM_power_197 : decode bM_power 197 = .ok (.ifCond .le 29, 3) := by decide +kernel
theorem dM_power_200 : decode bM_power 200 = .ok (.aload_n 0, 1) := by decide +kernel
theorem dM_power_201 : decode bM_power 201 = .ok (.iload 9, 2) := by decide +kernel
theorem dM_power_203 : decode bM_power 203 = .ok (.putfield 60, 3) := by decide +kernel
theorem dM_power_206 : decode bM_power 206 = .ok (.aload_n 0, 1) := by decide +kernel
theorem dM_power_207 : decode bM_power 207 = .ok (.lload 10, 2) := by decide +kernel
theorem dM_power_209 : decode bM_power 209 = .ok (.putfield 63, 3) := by decide +kernel
theorem dM_power_212 : decode bM_power 212 = .ok (.aload_n 0, 1) := by decide +kernel
theorem dM_power_213 : decode bM_power 213 = .ok (.iload 12, 2) := by decide +kernel
theorem dM_power_215 : decode bM_power 215 = .ok (.putfield 66, 3) := by decide +kernel
theorem dM_power_218 : decode bM_power 218 = .ok (.aload_n 0, 1) := by decide +kernel
theorem dM_power_219 : decode bM_power 219 = .ok (.invokevirtual 154, 3) := by decide +kernel
theorem dM_power_222 : decode bM_power 222 = .ok (.aload_n 0, 1) := by decide +kernel
theorem dM_power_223 : decode bM_power 223 = .ok (.invokevirtual 72, 3) := by decide +kernel
theorem dM_power_226 : decode bM_power 226 = .ok (.goto (-108), 3) := by decide +kernel
theorem dM_power_229 : decode bM_power 229 = .ok (.aload_n 0, 1) := by decide +kernel
theorem dM_power_230 : decode bM_power 230 = .ok (.iload 5, 2) := by decide +kernel
theorem dM_power_232 : decode bM_power 232 = .ok (.putfield 20, 3) := by decide +kernel
theorem dM_power_235 : decode bM_power 235 = .ok (.aload_n 0, 1) := by decide +kernel
theorem dM_power_236 : decode bM_power 236 = .ok (.lload 6, 2) := by decide +kernel
theorem dM_power_238 : decode bM_power 238 = .ok (.putfield 24, 3) := by decide +kernel
theorem dM_power_241 : decode bM_power 241 = .ok (.aload_n 0, 1) := by decide +kernel
theorem dM_power_242 : decode bM_power 242 = .ok (.iload 8, 2) := by decide +kernel
theorem dM_power_244 : decode bM_power 244 = .ok (.putfield 28, 3) := by decide +kernel
theorem dM_power_247 : decode bM_power 247 = .ok (.lload_n 2, 1) := by decide +kernel
theorem dM_power_248 : decode bM_power 248 = .ok (.lconst 0, 1) := by decide +kernel
theorem dM_power_249 : decode bM_power 249 = .ok (.lcmp, 1) := by decide +kernel
theorem dM_power_250 : decode bM_power 250 = .ok (.ifCond .ge 26, 3) := by decide +kernel
theorem dM_power_253 : decode bM_power 253 = .ok (.aload_n 0, 1) := by decide +kernel
theorem dM_power_254 : decode bM_power 254 = .ok (.invokevirtual 75, 3) := by decide +kernel
theorem dM_power_257 : decode bM_power 257 = .ok (.aload_n 0, 1) := by decide +kernel
theorem dM_power_258 : decode bM_power 258 = .ok (.iconst 2, 1) := by decide +kernel
theorem dM_power_259 : decode bM_power 259 = .ok (.putfield 51, 3) := by decide +kernel
theorem dM_power_262 : decode bM_power 262 = .ok (.aload_n 0, 1) := by decide +kernel
theorem dM_power_263 : decode bM_power 263 = .ok (.lconst 1, 1) := by decide +kernel
theorem dM_power_264 : decode bM_power 264 = .ok (.putfield 54, 3) := by decide +kernel
theorem dM_power_267 : decode bM_power 267 = .ok (.aload_n 0, 1) := by decide +kernel
theorem dM_power_268 : decode bM_power 268 = .ok (.iconst 0, 1) := by decide +kernel
theorem dM_power_269 : decode bM_power 269 = .ok (.putfield 57, 3) := by decide +kernel
theorem dM_power_272 : decode bM_power 272 = .ok (.aload_n 0, 1) := by decide +kernel
theorem dM_power_273 : decode bM_power 273 = .ok (.invokevirtual 157, 3) := by decide +kernel
theorem dM_power_276 : decode bM_power 276 = .ok (.iconst 0, 1) := by decide +kernel
theorem dM_power_277 : decode bM_power 277 = .ok (.ireturn, 1) := by decide +kernel
theorem dM_compare_0 : decode bM_compare 0 = .ok (.iload_n 1, 1) := by decide +kernel
theorem dM_compare_1 : decode bM_compare 1 = .ok (.ifCond .lt 22, 3) := by decide +kernel
theorem dM_compare_4 : decode bM_compare 4 = .ok (.iload_n 1, 1) := by decide +kernel
theorem dM_compare_5 : decode bM_compare 5 = .ok (.iconst 2, 1) := by decide +kernel
theorem dM_compare_6 : decode bM_compare 6 = .ok (.if_icmp .gt 17, 3) := by decide +kernel
theorem dM_compare_9 : decode bM_compare 9 = .ok (.iload_n 2, 1) := by decide +kernel
theorem dM_compare_10 : decode bM_compare 10 = .ok (.invokestatic 204, 3) := by decide +kernel
theorem dM_compare_13 : decode bM_compare 13 = .ok (.ifCond .eq 10, 3) := by decide +kernel
theorem dM_compare_16 : decode bM_compare 16 = .ok (.iload_n 3, 1) := by decide +kernel
theorem dM_compare_17 : decode bM_compare 17 = .ok (.invokestatic 204, 3) := by decide +kernel
theorem dM_compare_20 : decode bM_compare 20 = .ok (.ifCond .ne 5, 3) := by decide +kernel
theorem dM_compare_23 : decode bM_compare 23 = .ok (.iconst (-1), 1) := by decide +kernel
theorem dM_compare_24 : decode bM_compare 24 = .ok (.ireturn, 1) := by decide +kernel
theorem dM_compare_25 : decode bM_compare 25 = .ok (.aload_n 0, 1) := by decide +kernel
theorem dM_compare_26 : decode bM_compare 26 = .ok (.iload_n 2, 1) := by decide +kernel
theorem dM_compare_27 : decode bM_compare 27 = .ok (.invokevirtual 210, 3) := by decide +kernel
theorem dM_compare_30 : decode bM_compare 30 = .ok (.aload_n 0, 1) := by decide +kernel
theorem dM_compare_31 : decode bM_compare 31 = .ok (.iload_n 3, 1) := by decide +kernel
theorem dM_compare_32 : decode bM_compare 32 = .ok (.invokevirtual 213, 3) := by decide +kernel
theorem dM_compare_35 : decode bM_compare 35 = .ok (.iload_n 1, 1) := by decide +kernel
theorem dM_compare_36 : decode bM_compare 36 = .ok (.ifCond .ne 10, 3) := by decide +kernel
theorem dM_compare_39 : decode bM_compare 39 = .ok (.aload_n 0, 1) := by decide +kernel
theorem dM_compare_40 : decode bM_compare 40 = .ok (.invokevirtual 219, 3) := by decide +kernel
theorem dM_compare_43 : decode bM_compare 43 = .ok (.goto 17, 3) := by decide +kernel
theorem dM_compare_46 : decode bM_compare 46 = .ok (.aload_n 0, 1) := by decide +kernel
theorem dM_compare_47 : decode bM_compare 47 = .ok (.iload_n 1, 1) := by decide +kernel
theorem dM_compare_48 : decode bM_compare 48 = .ok (.iconst 2, 1) := by decide +kernel
theorem dM_compare_49 : decode bM_compare 49 = .ok (.if_icmp .ne 7, 3) := by decide +kernel
theorem dM_compare_52 : decode bM_compare 52 = .ok (.iconst 1, 1) := by decide +kernel
theorem dM_compare_53 : decode bM_compare 53 = .ok (.goto 4, 3) := by decide +kernel
theorem dM_compare_56 : decode bM_compare 56 = .ok (.iconst 0, 1) := by decide +kernel
theorem dM_compare_57 : decode bM_compare 57 = .ok (.invokevirtual 223, 3) := by decide +kernel
theorem dM_compare_60 : decode bM_compare 60 = .ok (.istore 4, 2) := by decide +kernel
theorem dM_compare_62 : decode bM_compare 62 = .ok (.iload 4, 2) := by decide +kernel
theorem dM_compare_64 : decode bM_compare 64 = .ok (.ifCond .eq 7, 3) := by decide +kernel
theorem dM_compare_67 : decode bM_compare 67 = .ok (.iconst 1, 1) := by decide +kernel
theorem dM_compare_68 : decode bM_compare 68 = .ok (.goto 4, 3) := by decide +kernel
theorem dM_compare_71 : decode bM_compare 71 = .ok (.iconst 0, 1) := by decide +kernel
theorem dM_compare_72 : decode bM_compare 72 = .ok (.ireturn, 1) := by decide +kernel
theorem dM_isEqual_0 : decode bM_isEqual 0 = .ok (.aload_n 0, 1) := by decide +kernel
theorem dM_isEqual_1 : decode bM_isEqual 1 = .ok (.getfield 51, 3) := by decide +kernel
theorem dM_isEqual_4 : decode bM_isEqual 4 = .ok (.iconst 5, 1) := by decide +kernel
theorem dM_isEqual_5 : decode bM_isEqual 5 = .ok (.if_icmp .eq 11, 3) := by decide +kernel
theorem dM_isEqual_8 : decode bM_isEqual 8 = .ok (.aload_n 0, 1) := by decide +kernel
theorem dM_isEqual_9 : decode bM_isEqual 9 = .ok (.getfield 60, 3) := by decide +kernel
theorem dM_isEqual_12 : decode bM_isEqual 12 = .ok (.iconst 5, 1) := by decide +kernel
theorem dM_isEqual_13 : decode bM_isEqual 13 = .ok (.if_icmp .ne 5, 3) := by decide +kernel
theorem dM_isEqual_16 : decode bM_isEqual 16 = .ok (.iconst 0, 1) := by decide +kernel
theorem dM_isEqual_17 : decode bM_isEqual 17 = .ok (.ireturn, 1) := by decide +kernel
theorem dM_isEqual_18 : decode bM_isEqual 18 = .ok (.aload_n 0, 1) := by decide +kernel
theorem dM_isEqual_19 : decode bM_isEqual 19 = .ok (.getfield 51, 3) := by decide +kernel
theorem dM_isEqual_22 : decode bM_isEqual 22 = .ok (.invokestatic 86, 3) := by decide +kernel
theorem dM_isEqual_25 : decode bM_isEqual 25 = .ok (.ifCond .ne 13, 3) := by decide +kernel
theorem dM_isEqual_28 : decode bM_isEqual 28 = .ok (.aload_n 0, 1) := by decide +kernel
theorem dM_isEqual_29 : decode bM_isEqual 29 = .ok (.getfield 60, 3) := by decide +kernel
theorem dM_isEqual_32 : decode bM_isEqual 32 = .ok (.invokestatic 86, 3) := by decide +kernel
theorem dM_isEqual_35 : decode bM_isEqual 35 = .ok (.ifCond .eq 20, 3) := by decide +kernel
theorem dM_isEqual_38 : decode bM_isEqual 38 = .ok (.aload_n 0, 1) := by decide +kernel
theorem dM_isEqual_39 : decode bM_isEqual 39 = .ok (.getfield 51, 3) := by decide +kernel
theorem dM_isEqual_42 : decode bM_isEqual 42 = .ok (.aload_n 0, 1) := by decide +kernel
theorem dM_isEqual_43 : decode bM_isEqual 43 = .ok (.getfield 60, 3) := by decide +kernel
theorem dM_isEqual_46 : decode bM_isEqual 46 = .ok (.if_icmp .ne 7, 3) := by decide +kernel
theorem dM_isEqual_49 : decode bM_isEqual 49 = .ok (.iconst 1, 1) := by decide +kernel
theorem dM_isEqual_50 : decode bM_isEqual 50 = .ok (.goto 4, 3) := by decide +kernel
theorem dM_isEqual_53 : decode bM_isEqual 53 = .ok (.iconst 0, 1) := by decide +kernel
theorem dM_isEqual_54 : decode bM_isEqual 54 = .ok (.ireturn, 1) := by decide +kernel
theorem dM_isEqual_55 : decode bM_isEqual 55 = .ok (.aload_n 0, 1) := by decide +kernel
theorem dM_isEqual_56 : decode bM_isEqual 56 = .ok (.getfield 51, 3) := by decide +kernel
theorem dM_isEqual_59 : decode bM_isEqual 59 = .ok (.aload_n 0, 1) := by decide +kernel
theorem dM_isEqual_60 : decode bM_isEqual 60 = .ok (.getfield 60, 3) := by decide +kernel
theorem dM_isEqual_63 : decode bM_isEqual 63 = .ok (.if_icmp .ne 32, 3) := by decide +kernel
theorem dM_isEqual_66 : decode bM_isEqual 66 = .ok (.aload_n 0, 1) := by decide +kernel
theorem dM_isEqual_67 : decode bM_isEqual 67 = .ok (.getfield 54, 3) := by decide +kernel
theorem dM_isEqual_70 : decode bM_isEqual 70 = .ok (.aload_n 0, 1) := by decide +kernel
theorem dM_isEqual_71 : decode bM_isEqual 71 = .ok (.getfield 63, 3) := by decide +kernel
theorem dM_isEqual_74 : decode bM_isEqual 74 = .ok (.lcmp, 1) := by decide +kernel
theorem dM_isEqual_75 : decode bM_isEqual 75 = .ok (.ifCond .ne 18, 3) := by decide +kernel
theorem dM_isEqual_78 : decode bM_isEqual 78 = .ok (.aload_n 0, 1) := by decide +kernel
theorem dM_isEqual_79 : decode bM_isEqual 79 = .ok (.getfield 57, 3) := by decide +kernel
theorem dM_isEqual_82 : decode bM_isEqual 82 = .ok (.aload_n 0, 1) := by decide +kernel
theorem dM_isEqual_83 : decode bM_isEqual 83 = .ok (.getfield 66, 3) := by decide +kernel
theorem dM_isEqual_86 : decode bM_isEqual 86 = .ok (.if_icmp .ne 7, 3) := by decide +kernel
theorem dM_isEqual_89 : decode bM_isEqual 89 = .ok (.iconst 1, 1) := by decide +kernel
theorem dM_isEqual_90 : decode bM_isEqual 90 = .ok (.goto 4, 3) := by decide +kernel
theorem dM_isEqual_93 : decode bM_isEqual 93 = .ok (.iconst 0, 1) := by decide +kernel
theorem dM_isEqual_94 : decode bM_isEqual 94 = .ok (.ireturn, 1) := by decide +kernel
theorem dM_isEqual_95 : decode bM_isEqual 95 = .ok (.aload_n 0, 1) := by decide +kernel
theorem dM_isEqual_96 : decode bM_isEqual 96 = .ok (.getfield 51, 3) := by decide +kernel
theorem dM_isEqual_99 : decode bM_isEqual 99 = .ok (.iconst 1, 1) := by decide +kernel
theorem dM_isEqual_100 : decode bM_isEqual 100 = .ok (.if_icmp .ne 10, 3) := by decide +kernel
theorem dM_isEqual_103 : decode bM_isEqual 103 = .ok (.aload_n 0, 1) := by decide +kernel
theorem dM_isEqual_104 : decode bM_isEqual 104 = .ok (.getfield 54, 3) := by decide +kernel
theorem dM_isEqual_107 : decode bM_isEqual 107 = .ok (.goto 7, 3) := by decide +kernel
theorem dM_isEqual_110 : decode bM_isEqual 110 = .ok (.aload_n 0, 1) := by decide +kernel
theorem dM_isEqual_111 : decode bM_isEqual 111 = .ok (.getfield 63, 3) := by decide +kernel
theorem dM_isEqual_114 : decode bM_isEqual 114 = .ok (.lstore_n 1, 1) := by decide +kernel
theorem dM_isEqual_115 : decode bM_isEqual 115 = .ok (.aload_n 0, 1) := by decide +kernel
theorem dM_isEqual_116 : decode bM_isEqual 116 = .ok (.getfield 51, 3) := by decide +kernel
theorem dM_isEqual_119 : decode bM_isEqual 119 = .ok (.iconst 1, 1) := by decide +kernel
theorem dM_isEqual_120 : decode bM_isEqual 120 = .ok (.if_icmp .ne 10, 3) := by decide +kernel
theorem dM_isEqual_123 : decode bM_isEqual 123 = .ok (.aload_n 0, 1) := by decide +kernel
theorem dM_isEqual_124 : decode bM_isEqual 124 = .ok (.getfield 63, 3) := by decide +kernel
theorem dM_isEqual_127 : decode bM_isEqual 127 = .ok (.goto 7, 3) := by decide +kernel
theorem dM_isEqual_130 : decode bM_isEqual 130 = .ok (.aload_n 0, 1) := by decide +kernel
theorem dM_isEqual_131 : decode bM_isEqual 131 = .ok (.getfield 54, 3) := by decide +kernel
theorem dM_isEqual_134 : decode bM_isEqual 134 = .ok (.lstore_n 3, 1) := by decide +kernel
theorem dM_isEqual_135 : decode bM_isEqual 135 = .ok (.aload_n 0, 1) := by decide +kernel
theorem dM_isEqual_136 : decode bM_isEqual 136 = .ok (.getfield 51, 3) := by decide +kernel
theorem dM_isEqual_139 : decode bM_isEqual 139 = .ok (.iconst 1, 1) := by decide +kernel
theorem dM_isEqual_140 : decode bM_isEqual 140 = .ok (.if_icmp .ne 10, 3) := by decide +kernel
theorem dM_isEqual_143 : decode bM_isEqual 143 = .ok (.aload_n 0, 1) := by decide +kernel
theorem dM_isEqual_144 : decode bM_isEqual 144 = .ok (.getfield 66, 3) := by decide +kernel
theorem dM_isEqual_147 : decode bM_isEqual 147 = .ok (.goto 7, 3) := by decide +kernel
theorem dM_isEqual_150 : decode bM_isEqual 150 = .ok (.aload_n 0, 1) := by decide +kernel
theorem dM_isEqual_151 : decode bM_isEqual 151 = .ok (.getfield 57, 3) := by decide +kernel
theorem dM_isEqual_154 : decode bM_isEqual 154 = .ok (.istore 5, 2) := by decide +kernel
theorem dM_isEqual_156 : decode bM_isEqual 156 = .ok (.aload_n 0, 1) := by decide +kernel
theorem dM_isEqual_157 : decode bM_isEqual 157 = .ok (.iconst 2, 1) := by decide +kernel
theorem dM_isEqual_158 : decode bM_isEqual 158 = .ok (.lload_n 3, 1) := by decide +kernel
theorem dM_isEqual_159 : decode bM_isEqual 159 = .ok (.iload 5, 2) := by decide +kernel
theorem dM_isEqual_161 : decode bM_isEqual 161 = .ok (.invokevirtual 126, 3) := by decide +kernel
theorem dM_isEqual_164 : decode bM_isEqual 164 = .ok (.ifCond .eq 16, 3) := by decide +kernel
theorem dM_isEqual_167 : decode bM_isEqual 167 = .ok (.lload_n 3, 1) := by decide +kernel
theorem dM_isEqual_168 : decode bM_isEqual 168 = .ok (.iload 5, 2) := by decide +kernel
theorem dM_isEqual_170 : decode bM_isEqual 170 = .ok (.lshl, 1) := by decide +kernel
theorem dM_isEqual_171 : decode bM_isEqual 171 = .ok (.lload_n 1, 1) := by decide +kernel
theorem dM_isEqual_172 : decode bM_isEqual 172 = .ok (.lcmp, 1) := by decide +kernel
theorem dM_isEqual_173 : decode bM_isEqual 173 = .ok (.ifCond .ne 7, 3) := by decide +kernel
theorem dM_isEqual_176 : decode bM_isEqual 176 = .ok (.iconst 1, 1) := by decide +kernel
theorem dM_isEqual_177 : decode bM_isEqual 177 = .ok (.goto 4, 3) := by decide +kernel
theorem dM_isEqual_180 : decode bM_isEqual 180 = .ok (.iconst 0, 1) := by decide +kernel
theorem dM_isEqual_181 : decode bM_isEqual 181 = .ok (.ireturn, 1) := by decide +kernel
theorem dM_isLess_0 : decode bM_isLess 0 = .ok (.aload_n 0, 1) := by decide +kernel
theorem dM_isLess_1 : decode bM_isLess 1 = .ok (.getfield 51, 3) := by decide +kernel
theorem dM_isLess_4 : decode bM_isLess 4 = .ok (.iconst 5, 1) := by decide +kernel
theorem dM_isLess_5 : decode bM_isLess 5 = .ok (.if_icmp .eq 11, 3) := by decide +kernel
theorem dM_isLess_8 : decode bM_isLess 8 = .ok (.aload_n 0, 1) := by decide +kernel
theorem dM_isLess_9 : decode bM_isLess 9 = .ok (.getfield 60, 3) := by decide +kernel
theorem dM_isLess_12 : decode bM_isLess 12 = .ok (.iconst 5, 1) := by decide +kernel
theorem dM_isLess_13 : decode bM_isLess 13 = .ok (.if_icmp .ne 5, 3) := by decide +kernel
theorem dM_isLess_16 : decode bM_isLess 16 = .ok (.iconst 0, 1) := by decide +kernel
theorem dM_isLess_17 : decode bM_isLess 17 = .ok (.ireturn, 1) := by decide +kernel
theorem dM_isLess_18 : decode bM_isLess 18 = .ok (.aload_n 0, 1) := by decide +kernel
theorem dM_isLess_19 : decode bM_isLess 19 = .ok (.getfield 51, 3) := by decide +kernel
theorem dM_isLess_22 : decode bM_isLess 22 = .ok (.invokestatic 86, 3) := by decide +kernel
theorem dM_isLess_25 : decode bM_isLess 25 = .ok (.ifCond .ne 13, 3) := by decide +kernel
theorem dM_isLess_28 : decode bM_isLess 28 = .ok (.aload_n 0, 1) := by decide +kernel
theorem dM_isLess_29 : decode bM_isLess 29 = .ok (.getfield 60, 3) := by decide +kernel
theorem dM_isLess_32 : decode bM_isLess 32 = .ok (.invokestatic 86, 3) := by decide +kernel
theorem dM_isLess_35 : decode bM_isLess 35 = .ok (.ifCond .eq 38, 3) := by decide +kernel
theorem dM_isLess_38 : decode bM_isLess 38 = .ok (.aload_n 0, 1) := by decide +kernel
theorem dM_isLess_39 : decode bM_isLess 39 = .ok (.getfield 51, 3) := by decide +kernel
theorem dM_isLess_42 : decode bM_isLess 42 = .ok (.aload_n 0, 1) := by decide +kernel
theorem dM_isLess_43 : decode bM_isLess 43 = .ok (.getfield 60, 3) := by decide +kernel
theorem dM_isLess_46 : decode bM_isLess 46 = .ok (.if_icmp .ne 5, 3) := by decide +kernel
theorem dM_isLess_49 : decode bM_isLess 49 = .ok (.iload_n 1, 1) := by decide +kernel
theorem dM_isLess_50 : decode bM_isLess 50 = .ok (.ireturn, 1) := by decide +kernel
theorem dM_isLess_51 : decode bM_isLess 51 = .ok (.aload_n 0, 1) := by decide +kernel
theorem dM_isLess_52 : decode bM_isLess 52 = .ok (.getfield 51, 3) := by decide +kernel
theorem dM_isLess_55 : decode bM_isLess 55 = .ok (.iconst 4, 1) := by decide +kernel
theorem dM_isLess_56 : decode bM_isLess 56 = .ok (.if_icmp .eq 11, 3) := by decide +kernel
theorem dM_isLess_59 : decode bM_isLess 59 = .ok (.aload_n 0, 1) := by decide +kernel
theorem dM_isLess_60 : decode bM_isLess 60 = .ok (.getfield 60, 3) := by decide +kernel
theorem dM_isLess_63 : decode bM_isLess 63 = .ok (.iconst 3, 1) := by decide +kernel
theorem dM_isLess_64 : decode bM_isLess 64 = .ok (.if_icmp .ne 7, 3) := by decide +kernel
theorem dM_isLess_67 : decode bM_isLess 67 = .ok (.iconst 1, 1) := by decide +kernel
theorem dM_isLess_68 : decode bM_isLess 68 = .ok (.goto 4, 3) := by decide +kernel
theorem dM_isLess_71 : decode bM_isLess 71 = .ok (.iconst 0, 1) := by decide +kernel
theorem dM_isLess_72 : decode bM_isLess 72 = .ok (.ireturn, 1) := by decide +kernel
theorem dM_isLess_73 : decode bM_isLess 73 = .ok (.aload_n 0, 1) := by decide +kernel
theorem dM_isLess_74 : decode bM_isLess 74 = .ok (.getfield 51, 3) := by decide +kernel
theorem dM_isLess_77 : decode bM_isLess 77 = .ok (.iconst 1, 1) := by decide +kernel
theorem dM_isLess_78 : decode bM_isLess 78 = .ok (.if_icmp .ne 53, 3) := by decide +kernel
theorem dM_isLess_81 : decode bM_isLess 81 = .ok (.aload_n 0, 1) := by decide +kernel
theorem dM_isLess_82 : decode bM_isLess 82 = .ok (.getfield 60, 3) := by decide +kernel
theorem dM_isLess_85 : decode bM_isLess 85 = .ok (.iconst 1, 1) := by decide +kernel
theorem dM_isLess_86 : decode bM_isLess 86 = .ok (.if_icmp .ne 45, 3) := by decide +kernel
theorem dM_isLess_89 : decode bM_isLess 89 = .ok (.iload_n 1, 1) := by decide +kernel
theorem dM_isLess_90 : decode bM_isLess 90 = .ok (.ifCond .eq 23, 3) := by decide +kernel
theorem dM_isLess_93 : decode bM_isLess 93 = .ok (.aload_n 0, 1) := by decide +kernel
theorem dM_isLess_94 : decode bM_isLess 94 = .ok (.getfield 54, 3) := by decide +kernel
theorem dM_isLess_97 : decode bM_isLess 97 = .ok (.aload_n 0, 1) := by decide +kernel
theorem dM_isLess_98 : decode bM_isLess 98 = .ok (.getfield 63, 3) := by decide +kernel
theorem dM_isLess_101 : decode bM_isLess 101 = .ok (.lcmp, 1) := by decide +kernel
theorem dM_isLess_102 : decode bM_isLess 102 = .ok (.ifCond .gt 7, 3) := by decide +kernel
theorem dM_isLess_105 : decode bM_isLess 105 = .ok (.iconst 1, 1) := by decide +kernel
theorem dM_isLess_106 : decode bM_isLess 106 = .ok (.goto 24, 3) := by decide +kernel
theorem dM_isLess_109 : decode bM_isLess 109 = .ok (.iconst 0, 1) := by decide +kernel
theorem dM_isLess_110 : decode bM_isLess 110 = .ok (.goto 20, 3) := by decide +kernel
theorem dM_isLess_113 : decode bM_isLess 113 = .ok (.aload_n 0, 1) := by decide +kernel
theorem dM_isLess_114 : decode bM_isLess 114 = .ok (.getfield 54, 3) := by decide +kernel
theorem dM_isLess_117 : decode bM_isLess 117 = .ok (.aload_n 0, 1) := by decide +kernel
theorem dM_isLess_118 : decode bM_isLess 118 = .ok (.getfield 63, 3) := by decide +kernel
theorem dM_isLess_121 : decode bM_isLess 121 = .ok (.lcmp, 1) := by decide +kernel
theorem dM_isLess_122 : decode bM_isLess 122 = .ok (.ifCond .ge 7, 3) := by decide +kernel
theorem dM_isLess_125 : decode bM_isLess 125 = .ok (.iconst 1, 1) := by decide +kernel
theorem dM_isLess_126 : decode bM_isLess 126 = .ok (.goto 4, 3) := by decide +kernel
theorem dM_isLess_129 : decode bM_isLess 129 = .ok (.iconst 0, 1) := by decide +kernel
theorem dM_isLess_130 : decode bM_isLess 130 = .ok (.ireturn, 1) := by decide +kernel
theorem dM_isLess_131 : decode bM_isLess 131 = .ok (.aload_n 0, 1) := by decide +kernel
theorem dM_isLess_132 : decode bM_isLess 132 = .ok (.getfield 51, 3) := by decide +kernel
theorem dM_isLess_135 : decode bM_isLess 135 = .ok (.iconst 1, 1) := by decide +kernel
theorem dM_isLess_136 : decode bM_isLess 136 = .ok (.if_icmp .ne 21, 3) := by decide +kernel
theorem dM_isLess_139 : decode bM_isLess 139 = .ok (.aload_n 0, 1) := by decide +kernel
theorem dM_isLess_140 : decode bM_isLess 140 = .ok (.aload_n 0, 1) := by decide +kernel
theorem dM_isLess_141 : decode bM_isLess 141 = .ok (.getfield 54, 3) := by decide +kernel
theorem dM_isLess_144 : decode bM_isLess 144 = .ok (.aload_n 0, 1) := by decide +kernel
theorem dM_isLess_145 : decode bM_isLess 145 = .ok (.getfield 63, 3) := by decide +kernel
theorem dM_isLess_148 : decode bM_isLess 148 = .ok (.aload_n 0, 1) := by decide +kernel
theorem dM_isLess_149 : decode bM_isLess 149 = .ok (.getfield 66, 3) := by decide +kernel
theorem dM_isLess_152 : decode bM_isLess 152 = .ok (.iload_n 1, 1) := by decide +kernel
theorem dM_isLess_153 : decode bM_isLess 153 = .ok (.invokevirtual 196, 3) := by decide +kernel
theorem dM_isLess_156 : decode bM_isLess 156 = .ok (.ireturn, 1) := by decide +kernel
theorem dM_isLess_157 : decode bM_isLess 157 = .ok (.aload_n 0, 1) := by decide +kernel
theorem dM_isLess_158 : decode bM_isLess 158 = .ok (.getfield 60, 3) := by decide +kernel
theorem dM_isLess_161 : decode bM_isLess 161 = .ok (.iconst 1, 1) := by decide +kernel
theorem dM_isLess_162 : decode bM_isLess 162 = .ok (.if_icmp .ne 37, 3) := by decide +kernel
theorem dM_isLess_165 : decode bM_isLess 165 = .ok (.aload_n 0, 1) := by decide +kernel
theorem dM_isLess_166 : decode bM_isLess 166 = .ok (.aload_n 0, 1) := by decide +kernel
theorem dM_isLess_167 : decode bM_isLess 167 = .ok (.getfield 63, 3) := by decide +kernel
theorem dM_isLess_170 : decode bM_isLess 170 = .ok (.aload_n 0, 1) := by decide +kernel
theorem dM_isLess_171 : decode bM_isLess 171 = .ok (.getfield 54, 3) := by decide +kernel
theorem dM_isLess_174 : decode bM_isLess 174 = .ok (.aload_n 0, 1) := by decide +kernel
theorem dM_isLess_175 : decode bM_isLess 175 = .ok (.getfield 57, 3) := by decide +kernel
theorem dM_isLess_178 : decode bM_isLess 178 = .ok (.iload_n 1, 1) := by decide +kernel
theorem dM_isLess_179 : decode bM_isLess 179 = .ok (.ifCond .ne 7, 3) := by decide +kernel
theorem dM_isLess_182 : decode bM_isLess 182 = .ok (.iconst 1, 1) := by decide +kernel
theorem dM_isLess_183 : decode bM_isLess 183 = .ok (.goto 4, 3) := by decide +kernel
theorem dM_isLess_186 : decode bM_isLess 186 = .ok (.iconst 0, 1) := by decide +kernel
theorem dM_isLess_187 : decode bM_isLess 187 = .ok (.invokevirtual 196, 3) := by decide +kernel
theorem dM_isLess_190 : decode bM_isLess 190 = .ok (.ifCond .ne 7, 3) := by decide +kernel
theorem dM_isLess_193 : decode bM_isLess 193 = .ok (.iconst 1, 1) := by decide +kernel
theorem dM_isLess_194 : decode bM_isLess 194 = .ok (.goto 4, 3) := by decide +kernel
theorem dM_isLess_197 : decode bM_isLess 197 = .ok (.iconst 0, 1) := by decide +kernel
theorem dM_isLess_198 : decode bM_isLess 198 = .ok (.ireturn, 1) := by decide +kernel
theorem dM_isLess_199 : decode bM_isLess 199 = .ok (.aload_n 0, 1) := by decide +kernel
theorem dM_isLess_200 : decode bM_isLess 200 = .ok (.iload_n 1, 1) := by decide +kernel
theorem dM_isLess_201 : decode bM_isLess 201 = .ok (.invokevirtual 200, 3) := by decide +kernel
theorem dM_isLess_204 : decode bM_isLess 204 = .ok (.ireturn, 1) := by decide +kernel
theorem dM_isWholeLess_0 : decode bM_isWholeLess 0 = .ok (.iload 5, 2) := by decide +kernel
theorem dM_isWholeLess_2 : decode bM_isWholeLess 2 = .ok (.ifCond .lt 71, 3) := by decide +kernel
theorem dM_isWholeLess_5 : decode bM_isWholeLess 5 = .ok (.iload 5, 2) := by decide +kernel
theorem dM_isWholeLess_7 : decode bM_isWholeLess 7 = .ok (.bipush 63, 2) := by decide +kernel
theorem dM_isWholeLess_9 : decode bM_isWholeLess 9 = .ok (.if_icmp .gt 15, 3) := by decide +kernel
theorem dM_isWholeLess_12 : decode bM_isWholeLess 12 = .ok (.lload_n 3, 1) := by decide +kernel
theorem dM_isWholeLess_13 : decode bM_isWholeLess 13 = .ok (.iload 5, 2) := by decide +kernel
theorem dM_isWholeLess_15 : decode bM_isWholeLess 15 = .ok (.lshl, 1) := by decide +kernel
theorem dM_isWholeLess_16 : decode bM_isWholeLess 16 = .ok (.iload 5, 2) := by decide +kernel
theorem dM_isWholeLess_18 : decode bM_isWholeLess 18 = .ok (.lshr, 1) := by decide +kernel
theorem dM_isWholeLess_19 : decode bM_isWholeLess 19 = .ok (.lload_n 3, 1) := by decide +kernel
theorem dM_isWholeLess_20 : decode bM_isWholeLess 20 = .ok (.lcmp, 1) := by decide +kernel
theorem dM_isWholeLess_21 : decode bM_isWholeLess 21 = .ok (.ifCond .eq 15, 3) := by decide +kernel
theorem dM_isWholeLess_24 : decode bM_isWholeLess 24 = .ok (.lload_n 3, 1) := by decide +kernel
theorem dM_isWholeLess_25 : decode bM_isWholeLess 25 = .ok (.lconst 0, 1) := by decide +kernel
theorem dM_isWholeLess_26 : decode bM_isWholeLess 26 = .ok (.lcmp, 1) := by decide +kernel
theorem dM_isWholeLess_27 : decode bM_isWholeLess 27 = .ok (.ifCond .le 7, 3) := by decide +kernel
theorem dM_isWholeLess_30 : decode bM_isWholeLess 30 = .ok (.iconst 1, 1) := by decide +kernel
theorem dM_isWholeLess_31 : decode bM_isWholeLess 31 = .ok (.goto 4, 3) := by decide +kernel
theorem dM_isWholeLess_34 : decode bM_isWholeLess 34 = .ok (.iconst 0, 1) := by decide +kernel
theorem dM_isWholeLess_35 : decode bM_isWholeLess 35 = .ok (.ireturn, 1) := by decide +kernel
theorem dM_isWholeLess_36 : decode bM_isWholeLess 36 = .ok (.iload 6, 2) := by decide +kernel
theorem dM_isWholeLess_38 : decode bM_isWholeLess 38 = .ok (.ifCond .eq 20, 3) := by decide +kernel
theorem dM_isWholeLess_41 : decode bM_isWholeLess 41 = .ok (.lload_n 1, 1) := by decide +kernel
theorem dM_isWholeLess_42 : decode bM_isWholeLess 42 = .ok (.lload_n 3, 1) := by decide +kernel
theorem dM_isWholeLess_43 : decode bM_isWholeLess 43 = .ok (.iload 5, 2) := by decide +kernel
theorem dM_isWholeLess_45 : decode bM_isWholeLess 45 = .ok (.lshl, 1) := by decide +kernel
theorem dM_isWholeLess_46 : decode bM_isWholeLess 46 = .ok (.lcmp, 1) := by decide +kernel
theorem dM_isWholeLess_47 : decode bM_isWholeLess 47 = .ok (.ifCond .gt 7, 3) := by decide +kernel
theorem dM_isWholeLess_50 : decode bM_isWholeLess 50 = .ok (.iconst 1, 1) := by decide +kernel
theorem dM_isWholeLess_51 : decode bM_isWholeLess 51 = .ok (.goto 21, 3) := by decide +kernel
theorem dM_isWholeLess_54 : decode bM_isWholeLess 54 = .ok (.iconst 0, 1) := by decide +kernel
theorem dM_isWholeLess_55 : decode bM_isWholeLess 55 = .ok (.goto 17, 3) := by decide +kernel
theorem dM_isWholeLess_58 : decode bM_isWholeLess 58 = .ok (.lload_n 1, 1) := by decide +kernel
theorem dM_isWholeLess_59 : decode bM_isWholeLess 59 = .ok (.lload_n 3, 1) := by decide +kernel
theorem dM_isWholeLess_60 : decode bM_isWholeLess 60 = .ok (.iload 5, 2) := by decide +kernel
theorem dM_isWholeLess_62 : decode bM_isWholeLess 62 = .ok (.lshl, 1) := by decide +kernel
theorem dM_isWholeLess_63 : decode bM_isWholeLess 63 = .ok (.lcmp, 1) := by decide +kernel
theorem dM_isWholeLess_64 : decode bM_isWholeLess 64 = .ok (.ifCond .ge 7, 3) := by decide +kernel
theorem dM_isWholeLess_67 : decode bM_isWholeLess 67 = .ok (.iconst 1, 1) := by decide +kernel
theorem dM_isWholeLess_68 : decode bM_isWholeLess 68 = .ok (.goto 4, 3) := by decide +kernel
theorem dM_isWholeLess_71 : decode bM_isWholeLess 71 = .ok (.iconst 0, 1) := by decide +kernel
theorem dM_isWholeLess_72 : decode bM_isWholeLess 72 = .ok (.ireturn, 1) := by decide +kernel
theorem dM_isWholeLess_73 : decode bM_isWholeLess 73 = .ok (.iload 5, 2) := by decide +kernel
theorem dM_isWholeLess_75 : decode bM_isWholeLess 75 = .ok (.bipush (-62), 2) := by decide +kernel
theorem dM_isWholeLess_77 : decode bM_isWholeLess 77 = .ok (.if_icmp .ge 19, 3) := by decide +kernel
theorem dM_isWholeLess_80 : decode bM_isWholeLess 80 = .ok (.lload_n 3, 1) := by decide +kernel
theorem dM_isWholeLess_81 : decode bM_isWholeLess 81 = .ok (.lconst 0, 1) := by decide +kernel
theorem dM_isWholeLess_82 : decode bM_isWholeLess 82 = .ok (.lcmp, 1) := by decide +kernel
theorem dM_isWholeLess_83 : decode bM_isWholeLess 83 = .ok (.ifCond .ge 9, 3) := by decide +kernel
theorem dM_isWholeLess_86 : decode bM_isWholeLess 86 = .ok (.ldc2_w 112, 3) := by decide +kernel
theorem dM_isWholeLess_89 : decode bM_isWholeLess 89 = .ok (.goto 12, 3) := by decide +kernel
theorem dM_isWholeLess_92 : decode bM_isWholeLess 92 = .ok (.lconst 0, 1) := by decide +kernel
theorem dM_isWholeLess_93 : decode bM_isWholeLess 93 = .ok (.goto 8, 3) := by decide +kernel
theorem dM_isWholeLess_96 : decode bM_isWholeLess 96 = .ok (.lload_n 3, 1) := by decide +kernel
theorem dM_isWholeLess_97 : decode bM_isWholeLess 97 = .ok (.iload 5, 2) := by decide +kernel
theorem dM_isWholeLess_99 : decode bM_isWholeLess 99 = .ok (.ineg, 1) := by decide +kernel
theorem dM_isWholeLess_100 : decode bM_isWholeLess 100 = .ok (.lshr, 1) := by decide +kernel
theorem dM_isWholeLess_101 : decode bM_isWholeLess 101 = .ok (.lstore 7, 2) := by decide +kernel
theorem dM_isWholeLess_103 : decode bM_isWholeLess 103 = .ok (.lload_n 1, 1) := by decide +kernel
theorem dM_isWholeLess_104 : decode bM_isWholeLess 104 = .ok (.lload 7, 2) := by decide +kernel
theorem dM_isWholeLess_106 : decode bM_isWholeLess 106 = .ok (.lcmp, 1) := by decide +kernel
theorem dM_isWholeLess_107 : decode bM_isWholeLess 107 = .ok (.ifCond .gt 7, 3) := by decide +kernel
theorem dM_isWholeLess_110 : decode bM_isWholeLess 110 = .ok (.iconst 1, 1) := by decide +kernel
theorem dM_isWholeLess_111 : decode bM_isWholeLess 111 = .ok (.goto 4, 3) := by decide +kernel
theorem dM_isWholeLess_114 : decode bM_isWholeLess 114 = .ok (.iconst 0, 1) := by decide +kernel
theorem dM_isWholeLess_115 : decode bM_isWholeLess 115 = .ok (.ireturn, 1) := by decide +kernel
theorem dM_isRealLess_0 : decode bM_isRealLess 0 = .ok (.aload_n 0, 1) := by decide +kernel
theorem dM_isRealLess_1 : decode bM_isRealLess 1 = .ok (.getfield 51, 3) := by decide +kernel
theorem dM_isRealLess_4 : decode bM_isRealLess 4 = .ok (.aload_n 0, 1) := by decide +kernel
theorem dM_isRealLess_5 : decode bM_isRealLess 5 = .ok (.getfield 54, 3) := by decide +kernel
theorem dM_isRealLess_8 : decode bM_isRealLess 8 = .ok (.invokestatic 101, 3) := by decide +kernel
theorem dM_isRealLess_11 : decode bM_isRealLess 11 = .ok (.istore_n 2, 1) := by decide +kernel
theorem dM_isRealLess_12 : decode bM_isRealLess 12 = .ok (.aload_n 0, 1) := by decide +kernel
theorem dM_isRealLess_13 : decode bM_isRealLess 13 = .ok (.getfield 60, 3) := by decide +kernel
theorem dM_isRealLess_16 : decode bM_isRealLess 16 = .ok (.aload_n 0, 1) := by decide +kernel
theorem dM_isRealLess_17 : decode bM_isRealLess 17 = .ok (.getfield 63, 3) := by decide +kernel
theorem dM_isRealLess_20 : decode bM_isRealLess 20 = .ok (.invokestatic 101, 3) := by decide +kernel
theorem dM_isRealLess_23 : decode bM_isRealLess 23 = .ok (.istore_n 3, 1) := by decide +kernel
theorem dM_isRealLess_24 : decode bM_isRealLess 24 = .ok (.iload_n 2, 1) := by decide +kernel
theorem dM_isRealLess_25 : decode bM_isRealLess 25 = .ok (.iload_n 3, 1) := by decide +kernel
theorem dM_isRealLess_26 : decode bM_isRealLess 26 = .ok (.if_icmp .eq 14, 3) := by decide +kernel
theorem dM_isRealLess_29 : decode bM_isRealLess 29 = .ok (.iload_n 2, 1) := by decide +kernel
theorem dM_isRealLess_30 : decode bM_isRealLess 30 = .ok (.iload_n 3, 1) := by decide +kernel
theorem dM_isRealLess_31 : decode bM_isRealLess 31 = .ok (.if_icmp .ge 7, 3) := by decide +kernel
theorem dM_isRealLess_34 : decode bM_isRealLess 34 = .ok (.iconst 1, 1) := by decide +kernel
theorem dM_isRealLess_35 : decode bM_isRealLess 35 = .ok (.goto 4, 3) := by decide +kernel
theorem dM_isRealLess_38 : decode bM_isRealLess 38 = .ok (.iconst 0, 1) := by decide +kernel
theorem dM_isRealLess_39 : decode bM_isRealLess 39 = .ok (.ireturn, 1) := by decide +kernel
theorem dM_isRealLess_40 : decode bM_isRealLess 40 = .ok (.iload_n 2, 1) := by decide +kernel
theorem dM_isRealLess_41 : decode bM_isRealLess 41 = .ok (.ifCond .ne 5, 3) := by decide +kernel
theorem dM_isRealLess_44 : decode bM_isRealLess 44 = .ok (.iload_n 1, 1) := by decide +kernel
theorem dM_isRealLess_45 : decode bM_isRealLess 45 = .ok (.ireturn, 1) := by decide +kernel
theorem dM_isRealLess_46 : decode bM_isRealLess 46 = .ok (.aload_n 0, 1) := by decide +kernel
theorem dM_isRealLess_47 : decode bM_isRealLess 47 = .ok (.invokevirtual 151, 3) := by decide +kernel
theorem dM_isRealLess_50 : decode bM_isRealLess 50 = .ok (.aload_n 0, 1) := by decide +kernel
theorem dM_isRealLess_51 : decode bM_isRealLess 51 = .ok (.invokevirtual 90, 3) := by decide +kernel
theorem dM_isRealLess_54 : decode bM_isRealLess 54 = .ok (.aload_n 0, 1) := by decide +kernel
theorem dM_isRealLess_55 : decode bM_isRealLess 55 = .ok (.getfield 24, 3) := by decide +kernel
theorem dM_isRealLess_58 : decode bM_isRealLess 58 = .ok (.lconst 0, 1) := by decide +kernel
theorem dM_isRealLess_59 : decode bM_isRealLess 59 = .ok (.lcmp, 1) := by decide +kernel
theorem dM_isRealLess_60 : decode bM_isRealLess 60 = .ok (.ifCond .lt 16, 3) := by decide +kernel
theorem dM_isRealLess_63 : decode bM_isRealLess 63 = .ok (.aload_n 0, 1) := by decide +kernel
theorem dM_isRealLess_64 : decode bM_isRealLess 64 = .ok (.getfield 24, 3) := by decide +kernel
theorem dM_isRealLess_67 : decode bM_isRealLess 67 = .ok (.lconst 0, 1) := by decide +kernel
theorem dM_isRealLess_68 : decode bM_isRealLess 68 = .ok (.lcmp, 1) := by decide +kernel
theorem dM_isRealLess_69 : decode bM_isRealLess 69 = .ok (.ifCond .ne 11, 3) := by decide +kernel
theorem dM_isRealLess_72 : decode bM_isRealLess 72 = .ok (.iload_n 1, 1) := by decide +kernel
theorem dM_isRealLess_73 : decode bM_isRealLess 73 = .ok (.ifCond .eq 7, 3) := by decide +kernel
theorem dM_isRealLess_76 : decode bM_isRealLess 76 = .ok (.iconst 1, 1) := by decide +kernel
theorem dM_isRealLess_77 : decode bM_isRealLess 77 = .ok (.goto 4, 3) := by decide +kernel
theorem dM_isRealLess_80 : decode bM_isRealLess 80 = .ok (.iconst 0, 1) := by decide +kernel
theorem dM_isRealLess_81 : decode bM_isRealLess 81 = .ok (.ireturn, 1) := by decide +kernel
theorem dM_kind_0 : decode bM_kind 0 = .ok (.iload_n 1, 1) := by decide +kernel
theorem dM_kind_1 : decode bM_kind 1 = .ok (.invokestatic 204, 3) := by decide +kernel
theorem dM_kind_4 : decode bM_kind 4 = .ok (.ifCond .eq 12, 3) := by decide +kernel
theorem dM_kind_7 : decode bM_kind 7 = .ok (.aload_n 0, 1) := by decide +kernel
theorem dM_kind_8 : decode bM_kind 8 = .ok (.getfield 7, 3) := by decide +kernel
theorem dM_kind_11 : decode bM_kind 11 = .ok (.iload_n 1, 1) := by decide +kernel
theorem dM_kind_12 : decode bM_kind 12 = .ok (.iaload, 1) := by decide +kernel
theorem dM_kind_13 : decode bM_kind 13 = .ok (.goto 4, 3) := by decide +kernel
theorem dM_kind_16 : decode bM_kind 16 = .ok (.iconst (-1), 1) := by decide +kernel
theorem dM_kind_17 : decode bM_kind 17 = .ok (.ireturn, 1) := by decide +kernel
theorem dM_number_0 : decode bM_number 0 = .ok (.iload_n 1, 1) := by decide +kernel
theorem dM_number_1 : decode bM_number 1 = .ok (.invokestatic 204, 3) := by decide +kernel
theorem dM_number_4 : decode bM_number 4 = .ok (.ifCond .eq 22, 3) := by decide +kernel
theorem dM_number_7 : decode bM_number 7 = .ok (.aload_n 0, 1) := by decide +kernel
theorem dM_number_8 : decode bM_number 8 = .ok (.getfield 7, 3) := by decide +kernel
theorem dM_number_11 : decode bM_number 11 = .ok (.iload_n 1, 1) := by decide +kernel
theorem dM_number_12 : decode bM_number 12 = .ok (.iaload, 1) := by decide +kernel
theorem dM_number_13 : decode bM_number 13 = .ok (.iconst 3, 1) := by decide +kernel
theorem dM_number_14 : decode bM_number 14 = .ok (.if_icmp .ge 12, 3) := by decide +kernel
theorem dM_number_17 : decode bM_number 17 = .ok (.aload_n 0, 1) := by decide +kernel
theorem dM_number_18 : decode bM_number 18 = .ok (.getfield 13, 3) := by decide +kernel
theorem dM_number_21 : decode bM_number 21 = .ok (.iload_n 1, 1) := by decide +kernel
theorem dM_number_22 : decode bM_number 22 = .ok (.laload, 1) := by decide +kernel
theorem dM_number_23 : decode bM_number 23 = .ok (.goto 4, 3) := by decide +kernel
theorem dM_number_26 : decode bM_number 26 = .ok (.lconst 0, 1) := by decide +kernel
theorem dM_number_27 : decode bM_number 27 = .ok (.lreturn, 1) := by decide +kernel
theorem dM_exponent_0 : decode bM_exponent 0 = .ok (.iload_n 1, 1) := by decide +kernel
theorem dM_exponent_1 : decode bM_exponent 1 = .ok (.invokestatic 204, 3) := by decide +kernel
theorem dM_exponent_4 : decode bM_exponent 4 = .ok (.ifCond .eq 22, 3) := by decide +kernel
theorem dM_exponent_7 : decode bM_exponent 7 = .ok (.aload_n 0, 1) := by decide +kernel
theorem dM_exponent_8 : decode bM_exponent 8 = .ok (.getfield 7, 3) := by decide +kernel
theorem dM_exponent_11 : decode bM_exponent 11 = .ok (.iload_n 1, 1) := by decide +kernel
theorem dM_exponent_12 : decode bM_exponent 12 = .ok (.iaload, 1) := by decide +kernel
theorem dM_exponent_13 : decode bM_exponent 13 = .ok (.iconst 2, 1) := by decide +kernel
theorem dM_exponent_14 : decode bM_exponent 14 = .ok (.if_icmp .ne 12, 3) := by decide +kernel
theorem dM_exponent_17 : decode bM_exponent 17 = .ok (.aload_n 0, 1) := by decide +kernel
theorem dM_exponent_18 : decode bM_exponent 18 = .ok (.getfield 17, 3) := by decide +kernel
theorem dM_exponent_21 : decode bM_exponent 21 = .ok (.iload_n 1, 1) := by decide +kernel
theorem dM_exponent_22 : decode bM_exponent 22 = .ok (.iaload, 1) := by decide +kernel
theorem dM_exponent_23 : decode bM_exponent 23 = .ok (.goto 4, 3) := by decide +kernel
theorem dM_exponent_26 : decode bM_exponent 26 = .ok (.iconst 0, 1) := by decide +kernel
theorem dM_exponent_27 : decode bM_exponent 27 = .ok (.ireturn, 1) := by decide +kernel
theorem dM_sum_0 : decode bM_sum 0 = .ok (.iload_n 1, 1) := by decide +kernel
theorem dM_sum_1 : decode bM_sum 1 = .ok (.invokestatic 204, 3) := by decide +kernel
theorem dM_sum_4 : decode bM_sum 4 = .ok (.ifCond .eq 11, 3) := by decide +kernel
theorem dM_sum_7 : decode bM_sum 7 = .ok (.iload_n 2, 1) := by decide +kernel
theorem dM_sum_8 : decode bM_sum 8 = .ok (.iload_n 3, 1) := by decide +kernel
theorem dM_sum_9 : decode bM_sum 9 = .ok (.invokestatic 226, 3) := by decide +kernel
theorem dM_sum_12 : decode bM_sum 12 = .ok (.ifCond .ne 5, 3) := by decide +kernel
theorem dM_sum_15 : decode bM_sum 15 = .ok (.iconst 0, 1) := by decide +kernel
theorem dM_sum_16 : decode bM_sum 16 = .ok (.ireturn, 1) := by decide +kernel
theorem dM_sum_17 : decode bM_sum 17 = .ok (.aload_n 0, 1) := by decide +kernel
theorem dM_sum_18 : decode bM_sum 18 = .ok (.lconst 0, 1) := by decide +kernel
theorem dM_sum_19 : decode bM_sum 19 = .ok (.invokevirtual 134, 3) := by decide +kernel
theorem dM_sum_22 : decode bM_sum 22 = .ok (.iconst 0, 1) := by decide +kernel
theorem dM_sum_23 : decode bM_sum 23 = .ok (.istore 4, 2) := by decide +kernel
theorem dM_sum_25 : decode bM_sum 25 = .ok (.iload 4, 2) := by decide +kernel
theorem dM_sum_27 : decode bM_sum 27 = .ok (.iload_n 3, 1) := by decide +kernel
theorem dM_sum_28 : decode bM_sum 28 = .ok (.if_icmp .ge 27, 3) := by decide +kernel
theorem dM_sum_31 : decode bM_sum 31 = .ok (.aload_n 0, 1) := by decide +kernel
theorem dM_sum_32 : decode bM_sum 32 = .ok (.invokevirtual 72, 3) := by decide +kernel
theorem dM_sum_35 : decode bM_sum 35 = .ok (.aload_n 0, 1) := by decide +kernel
theorem dM_sum_36 : decode bM_sum 36 = .ok (.iload_n 2, 1) := by decide +kernel
theorem dM_sum_37 : decode bM_sum 37 = .ok (.iload 4, 2) := by decide +kernel
theorem dM_sum_39 : decode bM_sum 39 = .ok (.iadd, 1) := by decide +kernel
theorem dM_sum_40 : decode bM_sum 40 = .ok (.invokevirtual 213, 3) := by decide +kernel
theorem dM_sum_43 : decode bM_sum 43 = .ok (.aload_n 0, 1) := by decide +kernel
theorem dM_sum_44 : decode bM_sum 44 = .ok (.iconst 0, 1) := by decide +kernel
theorem dM_sum_45 : decode bM_sum 45 = .ok (.invokevirtual 216, 3) := by decide +kernel
theorem dM_sum_48 : decode bM_sum 48 = .ok (.pop, 1) := by decide +kernel
theorem dM_sum_49 : decode bM_sum 49 = .ok (.iinc 4 1, 3) := by decide +kernel
theorem dM_sum_52 : decode bM_sum 52 = .ok (.goto (-27), 3) := by decide +kernel
theorem dM_sum_55 : decode bM_sum 55 = .ok (.aload_n 0, 1) := by decide +kernel
theorem dM_sum_56 : decode bM_sum 56 = .ok (.iload_n 1, 1) := by decide +kernel
theorem dM_sum_57 : decode bM_sum 57 = .ok (.invokevirtual 207, 3) := by decide +kernel
theorem dM_sum_60 : decode bM_sum 60 = .ok (.iconst 1, 1) := by decide +kernel
theorem dM_sum_61 : decode bM_sum 61 = .ok (.ireturn, 1) := by decide +kernel
theorem dM_areRegisters_0 : decode bM_areRegisters 0 = .ok (.iload_n 1, 1) := by decide +kernel
theorem dM_areRegisters_1 : decode bM_areRegisters 1 = .ok (.ifCond .lt 25, 3) := by decide +kernel
theorem dM_areRegisters_4 : decode bM_areRegisters 4 = .ok (.iload_n 0, 1) := by decide +kernel
theorem dM_areRegisters_5 : decode bM_areRegisters 5 = .ok (.ifCond .lt 21, 3) := by decide +kernel
theorem dM_areRegisters_8 : decode bM_areRegisters 8 = .ok (.iload_n 0, 1) := by decide +kernel
theorem dM_areRegisters_9 : decode bM_areRegisters 9 = .ok (.bipush 32, 2) := by decide +kernel
theorem dM_areRegisters_11 : decode bM_areRegisters 11 = .ok (.if_icmp .gt 15, 3) := by decide +kernel
theorem dM_areRegisters_14 : decode bM_areRegisters 14 = .ok (.iload_n 1, 1) := by decide +kernel
theorem dM_areRegisters_15 : decode bM_areRegisters 15 = .ok (.bipush 32, 2) := by decide +kernel
theorem dM_areRegisters_17 : decode bM_areRegisters 17 = .ok (.iload_n 0, 1) := by decide +kernel
theorem dM_areRegisters_18 : decode bM_areRegisters 18 = .ok (.isub, 1) := by decide +kernel
theorem dM_areRegisters_19 : decode bM_areRegisters 19 = .ok (.if_icmp .gt 7, 3) := by decide +kernel
theorem dM_areRegisters_22 : decode bM_areRegisters 22 = .ok (.iconst 1, 1) := by decide +kernel
theorem dM_areRegisters_23 : decode bM_areRegisters 23 = .ok (.goto 4, 3) := by decide +kernel
theorem dM_areRegisters_26 : decode bM_areRegisters 26 = .ok (.iconst 0, 1) := by decide +kernel
theorem dM_areRegisters_27 : decode bM_areRegisters 27 = .ok (.ireturn, 1) := by decide +kernel
theorem dM_polynomial_0 : decode bM_polynomial 0 = .ok (.iload_n 1, 1) := by decide +kernel
theorem dM_polynomial_1 : decode bM_polynomial 1 = .ok (.invokestatic 204, 3) := by decide +kernel
theorem dM_polynomial_4 : decode bM_polynomial 4 = .ok (.ifCond .eq 19, 3) := by decide +kernel
theorem dM_polynomial_7 : decode bM_polynomial 7 = .ok (.iload_n 2, 1) := by decide +kernel
theorem dM_polynomial_8 : decode bM_polynomial 8 = .ok (.invokestatic 204, 3) := by decide +kernel
theorem dM_polynomial_11 : decode bM_polynomial 11 = .ok (.ifCond .eq 12, 3) := by decide +kernel
theorem dM_polynomial_14 : decode bM_polynomial 14 = .ok (.iload_n 3, 1) := by decide +kernel
theorem dM_polynomial_15 : decode bM_polynomial 15 = .ok (.iload 4, 2) := by decide +kernel
theorem dM_polynomial_17 : decode bM_polynomial 17 = .ok (.invokestatic 226, 3) := by decide +kernel
theorem dM_polynomial_20 : decode bM_polynomial 20 = .ok (.ifCond .ne 5, 3) := by decide +kernel
theorem dM_polynomial_23 : decode bM_polynomial 23 = .ok (.iconst 0, 1) := by decide +kernel
theorem dM_polynomial_24 : decode bM_polynomial 24 = .ok (.ireturn, 1) := by decide +kernel
theorem dM_polynomial_25 : decode bM_polynomial 25 = .ok (.aload_n 0, 1) := by decide +kernel
theorem dM_polynomial_26 : decode bM_polynomial 26 = .ok (.lconst 0, 1) := by decide +kernel
theorem dM_polynomial_27 : decode bM_polynomial 27 = .ok (.invokevirtual 134, 3) := by decide +kernel
theorem dM_polynomial_30 : decode bM_polynomial 30 = .ok (.iload 4, 2) := by decide +kernel
theorem dM_polynomial_32 : decode bM_polynomial 32 = .ok (.iconst 1, 1) := by decide +kernel
theorem dM_polynomial_33 : decode bM_polynomial 33 = .ok (.isub, 1) := by decide +kernel
theorem dM_polynomial_34 : decode bM_polynomial 34 = .ok (.istore 5, 2) := by decide +kernel
theorem dM_polynomial_36 : decode bM_polynomial 36 = .ok (.iload 5, 2) := by decide +kernel
theorem dM_polynomial_38 : decode bM_polynomial 38 = .ok (.ifCond .lt 42, 3) := by decide +kernel
theorem dM_polynomial_41 : decode bM_polynomial 41 = .ok (.aload_n 0, 1) := by decide +kernel
theorem dM_polynomial_42 : decode bM_polynomial 42 = .ok (.invokevirtual 72, 3) := by decide +kernel
theorem dM_polynomial_45 : decode bM_polynomial 45 = .ok (.aload_n 0, 1) := by decide +kernel
theorem dM_polynomial_46 : decode bM_polynomial 46 = .ok (.iload_n 2, 1) := by decide +kernel
theorem dM_polynomial_47 : decode bM_polynomial 47 = .ok (.invokevirtual 213, 3) := by decide +kernel
theorem dM_polynomial_50 : decode bM_polynomial 50 = .ok (.aload_n 0, 1) := by decide +kernel
theorem dM_polynomial_51 : decode bM_polynomial 51 = .ok (.iconst 2, 1) := by decide +kernel
theorem dM_polynomial_52 : decode bM_polynomial 52 = .ok (.invokevirtual 216, 3) := by decide +kernel
theorem dM_polynomial_55 : decode bM_polynomial 55 = .ok (.pop, 1) := by decide +kernel
theorem dM_polynomial_56 : decode bM_polynomial 56 = .ok (.aload_n 0, 1) := by decide +kernel
theorem dM_polynomial_57 : decode bM_polynomial 57 = .ok (.invokevirtual 72, 3) := by decide +kernel
theorem dM_polynomial_60 : decode bM_polynomial 60 = .ok (.aload_n 0, 1) := by decide +kernel
theorem dM_polynomial_61 : decode bM_polynomial 61 = .ok (.iload_n 3, 1) := by decide +kernel
theorem dM_polynomial_62 : decode bM_polynomial 62 = .ok (.iload 5, 2) := by decide +kernel
theorem dM_polynomial_64 : decode bM_polynomial 64 = .ok (.iadd, 1) := by decide +kernel
theorem dM_polynomial_65 : decode bM_polynomial 65 = .ok (.invokevirtual 213, 3) := by decide +kernel
theorem dM_polynomial_68 : decode bM_polynomial 68 = .ok (.aload_n 0, 1) := by decide +kernel
theorem dM_polynomial_69 : decode bM_polynomial 69 = .ok (.iconst 0, 1) := by decide +kernel
theorem dM_polynomial_70 : decode bM_polynomial 70 = .ok (.invokevirtual 216, 3) := by decide +kernel
theorem dM_polynomial_73 : decode bM_polynomial 73 = .ok (.pop, 1) := by decide +kernel
theorem dM_polynomial_74 : decode bM_polynomial 74 = .ok (.iinc 5 (-1), 3) := by decide +kernel
theorem dM_polynomial_77 : decode bM_polynomial 77 = .ok (.goto (-41), 3) := by decide +kernel
theorem dM_polynomial_80 : decode bM_polynomial 80 = .ok (.aload_n 0, 1) := by decide +kernel
theorem dM_polynomial_81 : decode bM_polynomial 81 = .ok (.iload_n 1, 1) := by decide +kernel
theorem dM_polynomial_82 : decode bM_polynomial 82 = .ok (.invokevirtual 207, 3) := by decide +kernel
theorem dM_polynomial_85 : decode bM_polynomial 85 = .ok (.iconst 1, 1) := by decide +kernel
theorem dM_polynomial_86 : decode bM_polynomial 86 = .ok (.ireturn, 1) := by decide +kernel
theorem dM_sort_0 : decode bM_sort 0 = .ok (.iload_n 1, 1) := by decide +kernel
theorem dM_sort_1 : decode bM_sort 1 = .ok (.iload_n 2, 1) := by decide +kernel
theorem dM_sort_2 : decode bM_sort 2 = .ok (.invokestatic 226, 3) := by decide +kernel
theorem dM_sort_5 : decode bM_sort 5 = .ok (.ifCond .ne 5, 3) := by decide +kernel
theorem dM_sort_8 : decode bM_sort 8 = .ok (.iconst 0, 1) := by decide +kernel
theorem dM_sort_9 : decode bM_sort 9 = .ok (.ireturn, 1) := by decide +kernel
theorem dM_sort_10 : decode bM_sort 10 = .ok (.iload_n 1, 1) := by decide +kernel
theorem dM_sort_11 : decode bM_sort 11 = .ok (.iconst 1, 1) := by decide +kernel
theorem dM_sort_12 : decode bM_sort 12 = .ok (.iadd, 1) := by decide +kernel
theorem dM_sort_13 : decode bM_sort 13 = .ok (.istore_n 3, 1) := by decide +kernel
theorem dM_sort_14 : decode bM_sort 14 = .ok (.iload_n 3, 1) := by decide +kernel
theorem dM_sort_15 : decode bM_sort 15 = .ok (.iload_n 1, 1) := by decide +kernel
theorem dM_sort_16 : decode bM_sort 16 = .ok (.iload_n 2, 1) := by decide +kernel
theorem dM_sort_17 : decode bM_sort 17 = .ok (.iadd, 1) := by decide +kernel
theorem dM_sort_18 : decode bM_sort 18 = .ok (.if_icmp .ge 47, 3) := by decide +kernel
theorem dM_sort_21 : decode bM_sort 21 = .ok (.iload_n 3, 1) := by decide +kernel
theorem dM_sort_22 : decode bM_sort 22 = .ok (.istore 4, 2) := by decide +kernel
theorem dM_sort_24 : decode bM_sort 24 = .ok (.iload 4, 2) := by decide +kernel
theorem dM_sort_26 : decode bM_sort 26 = .ok (.iload_n 1, 1) := by decide +kernel
theorem dM_sort_27 : decode bM_sort 27 = .ok (.if_icmp .le 32, 3) := by decide +kernel
theorem dM_sort_30 : decode bM_sort 30 = .ok (.aload_n 0, 1) := by decide +kernel
theorem dM_sort_31 : decode bM_sort 31 = .ok (.iload 4, 2) := by decide +kernel
theorem dM_sort_33 : decode bM_sort 33 = .ok (.iload 4, 2) := by decide +kernel
theorem dM_sort_35 : decode bM_sort 35 = .ok (.iconst 1, 1) := by decide +kernel
theorem dM_sort_36 : decode bM_sort 36 = .ok (.isub, 1) := by decide +kernel
theorem dM_sort_37 : decode bM_sort 37 = .ok (.invokevirtual 234, 3) := by decide +kernel
theorem dM_sort_40 : decode bM_sort 40 = .ok (.ifCond .eq 19, 3) := by decide +kernel
theorem dM_sort_43 : decode bM_sort 43 = .ok (.aload_n 0, 1) := by decide +kernel
theorem dM_sort_44 : decode bM_sort 44 = .ok (.iload 4, 2) := by decide +kernel
theorem dM_sort_46 : decode bM_sort 46 = .ok (.iload 4, 2) := by decide +kernel
theorem dM_sort_48 : decode bM_sort 48 = .ok (.iconst 1, 1) := by decide +kernel
theorem dM_sort_49 : decode bM_sort 49 = .ok (.isub, 1) := by decide +kernel
theorem dM_sort_50 : decode bM_sort 50 = .ok (.invokevirtual 237, 3) := by decide +kernel
theorem dM_sort_53 : decode bM_sort 53 = .ok (.iinc 4 (-1), 3) := by decide +kernel
theorem dM_sort_56 : decode bM_sort 56 = .ok (.goto (-32), 3) := by decide +kernel
theorem dM_sort_59 : decode bM_sort 59 = .ok (.iinc 3 1, 3) := by decide +kernel
theorem dM_sort_62 : decode bM_sort 62 = .ok (.goto (-48), 3) := by decide +kernel
theorem dM_sort_65 : decode bM_sort 65 = .ok (.iconst 1, 1) := by decide +kernel
theorem dM_sort_66 : decode bM_sort 66 = .ok (.ireturn, 1) := by decide +kernel
theorem dM_isBefore_0 : decode bM_isBefore 0 = .ok (.aload_n 0, 1) := by decide +kernel
theorem dM_isBefore_1 : decode bM_isBefore 1 = .ok (.getfield 7, 3) := by decide +kernel
theorem dM_isBefore_4 : decode bM_isBefore 4 = .ok (.iload_n 1, 1) := by decide +kernel
theorem dM_isBefore_5 : decode bM_isBefore 5 = .ok (.iaload, 1) := by decide +kernel
theorem dM_isBefore_6 : decode bM_isBefore 6 = .ok (.iconst 5, 1) := by decide +kernel
theorem dM_isBefore_7 : decode bM_isBefore 7 = .ok (.if_icmp .eq 13, 3) := by decide +kernel
theorem dM_isBefore_10 : decode bM_isBefore 10 = .ok (.aload_n 0, 1) := by decide +kernel
theorem dM_isBefore_11 : decode bM_isBefore 11 = .ok (.getfield 7, 3) := by decide +kernel
theorem dM_isBefore_14 : decode bM_isBefore 14 = .ok (.iload_n 2, 1) := by decide +kernel
theorem dM_isBefore_15 : decode bM_isBefore 15 = .ok (.iaload, 1) := by decide +kernel
theorem dM_isBefore_16 : decode bM_isBefore 16 = .ok (.iconst 5, 1) := by decide +kernel
theorem dM_isBefore_17 : decode bM_isBefore 17 = .ok (.if_icmp .ne 29, 3) := by decide +kernel
theorem dM_isBefore_20 : decode bM_isBefore 20 = .ok (.aload_n 0, 1) := by decide +kernel
theorem dM_isBefore_21 : decode bM_isBefore 21 = .ok (.getfield 7, 3) := by decide +kernel
theorem dM_isBefore_24 : decode bM_isBefore 24 = .ok (.iload_n 1, 1) := by decide +kernel
theorem dM_isBefore_25 : decode bM_isBefore 25 = .ok (.iaload, 1) := by decide +kernel
theorem dM_isBefore_26 : decode bM_isBefore 26 = .ok (.iconst 5, 1) := by decide +kernel
theorem dM_isBefore_27 : decode bM_isBefore 27 = .ok (.if_icmp .eq 17, 3) := by decide +kernel
theorem dM_isBefore_30 : decode bM_isBefore 30 = .ok (.aload_n 0, 1) := by decide +kernel
theorem dM_isBefore_31 : decode bM_isBefore 31 = .ok (.getfield 7, 3) := by decide +kernel
theorem dM_isBefore_34 : decode bM_isBefore 34 = .ok (.iload_n 2, 1) := by decide +kernel
theorem dM_isBefore_35 : decode bM_isBefore 35 = .ok (.iaload, 1) := by decide +kernel
theorem dM_isBefore_36 : decode bM_isBefore 36 = .ok (.iconst 5, 1) := by decide +kernel
theorem dM_isBefore_37 : decode bM_isBefore 37 = .ok (.if_icmp .ne 7, 3) := by decide +kernel
theorem dM_isBefore_40 : decode bM_isBefore 40 = .ok (.iconst 1, 1) := by decide +kernel
theorem dM_isBefore_41 : decode bM_isBefore 41 = .ok (.goto 4, 3) := by decide +kernel
theorem dM_isBefore_44 : decode bM_isBefore 44 = .ok (.iconst 0, 1) := by decide +kernel
theorem dM_isBefore_45 : decode bM_isBefore 45 = .ok (.ireturn, 1) := by decide +kernel
theorem dM_isBefore_46 : decode bM_isBefore 46 = .ok (.aload_n 0, 1) := by decide +kernel
theorem dM_isBefore_47 : decode bM_isBefore 47 = .ok (.iconst 1, 1) := by decide +kernel
theorem dM_isBefore_48 : decode bM_isBefore 48 = .ok (.iload_n 1, 1) := by decide +kernel
theorem dM_isBefore_49 : decode bM_isBefore 49 = .ok (.iload_n 2, 1) := by decide +kernel
theorem dM_isBefore_50 : decode bM_isBefore 50 = .ok (.invokevirtual 230, 3) := by decide +kernel
theorem dM_isBefore_53 : decode bM_isBefore 53 = .ok (.iconst 1, 1) := by decide +kernel
theorem dM_isBefore_54 : decode bM_isBefore 54 = .ok (.if_icmp .ne 7, 3) := by decide +kernel
theorem dM_isBefore_57 : decode bM_isBefore 57 = .ok (.iconst 1, 1) := by decide +kernel
theorem dM_isBefore_58 : decode bM_isBefore 58 = .ok (.goto 4, 3) := by decide +kernel
theorem dM_isBefore_61 : decode bM_isBefore 61 = .ok (.iconst 0, 1) := by decide +kernel
theorem dM_isBefore_62 : decode bM_isBefore 62 = .ok (.ireturn, 1) := by decide +kernel
theorem dM_exchange_0 : decode bM_exchange 0 = .ok (.aload_n 0, 1) := by decide +kernel
theorem dM_exchange_1 : decode bM_exchange 1 = .ok (.iload_n 1, 1) := by decide +kernel
theorem dM_exchange_2 : decode bM_exchange 2 = .ok (.invokevirtual 210, 3) := by decide +kernel
theorem dM_exchange_5 : decode bM_exchange 5 = .ok (.aload_n 0, 1) := by decide +kernel
theorem dM_exchange_6 : decode bM_exchange 6 = .ok (.iload_n 2, 1) := by decide +kernel
theorem dM_exchange_7 : decode bM_exchange 7 = .ok (.invokevirtual 213, 3) := by decide +kernel
theorem dM_exchange_10 : decode bM_exchange 10 = .ok (.aload_n 0, 1) := by decide +kernel
theorem dM_exchange_11 : decode bM_exchange 11 = .ok (.getfield 7, 3) := by decide +kernel
theorem dM_exchange_14 : decode bM_exchange 14 = .ok (.iload_n 1, 1) := by decide +kernel
theorem dM_exchange_15 : decode bM_exchange 15 = .ok (.aload_n 0, 1) := by decide +kernel
theorem dM_exchange_16 : decode bM_exchange 16 = .ok (.getfield 60, 3) := by decide +kernel
theorem dM_exchange_19 : decode bM_exchange 19 = .ok (.iastore, 1) := by decide +kernel
theorem dM_exchange_20 : decode bM_exchange 20 = .ok (.aload_n 0, 1) := by decide +kernel
theorem dM_exchange_21 : decode bM_exchange 21 = .ok (.getfield 13, 3) := by decide +kernel
theorem dM_exchange_24 : decode bM_exchange 24 = .ok (.iload_n 1, 1) := by decide +kernel
theorem dM_exchange_25 : decode bM_exchange 25 = .ok (.aload_n 0, 1) := by decide +kernel
theorem dM_exchange_26 : decode bM_exchange 26 = .ok (.getfield 63, 3) := by decide +kernel
theorem dM_exchange_29 : decode bM_exchange 29 = .ok (.lastore, 1) := by decide +kernel
theorem dM_exchange_30 : decode bM_exchange 30 = .ok (.aload_n 0, 1) := by decide +kernel
theorem dM_exchange_31 : decode bM_exchange 31 = .ok (.getfield 17, 3) := by decide +kernel
theorem dM_exchange_34 : decode bM_exchange 34 = .ok (.iload_n 1, 1) := by decide +kernel
theorem dM_exchange_35 : decode bM_exchange 35 = .ok (.aload_n 0, 1) := by decide +kernel
theorem dM_exchange_36 : decode bM_exchange 36 = .ok (.getfield 66, 3) := by decide +kernel
theorem dM_exchange_39 : decode bM_exchange 39 = .ok (.iastore, 1) := by decide +kernel
theorem dM_exchange_40 : decode bM_exchange 40 = .ok (.aload_n 0, 1) := by decide +kernel
theorem dM_exchange_41 : decode bM_exchange 41 = .ok (.getfield 7, 3) := by decide +kernel
theorem dM_exchange_44 : decode bM_exchange 44 = .ok (.iload_n 2, 1) := by decide +kernel
theorem dM_exchange_45 : decode bM_exchange 45 = .ok (.aload_n 0, 1) := by decide +kernel
theorem dM_exchange_46 : decode bM_exchange 46 = .ok (.getfield 51, 3) := by decide +kernel
theorem dM_exchange_49 : decode bM_exchange 49 = .ok (.iastore, 1) := by decide +kernel
theorem dM_exchange_50 : decode bM_exchange 50 = .ok (.aload_n 0, 1) := by decide +kernel
theorem dM_exchange_51 : decode bM_exchange 51 = .ok (.getfield 13, 3) := by decide +kernel
theorem dM_exchange_54 : decode bM_exchange 54 = .ok (.iload_n 2, 1) := by decide +kernel
theorem dM_exchange_55 : decode bM_exchange 55 = .ok (.aload_n 0, 1) := by decide +kernel
theorem dM_exchange_56 : decode bM_exchange 56 = .ok (.getfield 54, 3) := by decide +kernel
theorem dM_exchange_59 : decode bM_exchange 59 = .ok (.lastore, 1) := by decide +kernel
theorem dM_exchange_60 : decode bM_exchange 60 = .ok (.aload_n 0, 1) := by decide +kernel
theorem dM_exchange_61 : decode bM_exchange 61 = .ok (.getfield 17, 3) := by decide +kernel
theorem dM_exchange_64 : decode bM_exchange 64 = .ok (.iload_n 2, 1) := by decide +kernel
theorem dM_exchange_65 : decode bM_exchange 65 = .ok (.aload_n 0, 1) := by decide +kernel
theorem dM_exchange_66 : decode bM_exchange 66 = .ok (.getfield 57, 3) := by decide +kernel
theorem dM_exchange_69 : decode bM_exchange 69 = .ok (.iastore, 1) := by decide +kernel
theorem dM_exchange_70 : decode bM_exchange 70 = .ok (.return_, 1) := by decide +kernel
