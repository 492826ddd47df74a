theorem dN_init_0 : decode bN_init 0 = .ok (.aload_n 0, 1) := by decide +kernel
theorem dN_init_1 : decode bN_init 1 = .ok (.invokespecial 1, 3) := by decide +kernel
theorem dN_init_4 : decode bN_init 4 = .ok (.aload_n 0, 1) := by decide +kernel
theorem dN_init_5 : decode bN_init 5 = .ok (.bipush 32, 2) := by decide +kernel
theorem dN_init_7 : decode bN_init 7 = .ok (.anewarray 9, 3) := by decide +kernel
theorem dN_init_10 : decode bN_init 10 = .ok (.putfield 11, 3) := by decide +kernel
theorem dN_init_13 : decode bN_init 13 = .ok (.iconst 0, 1) := by decide +kernel
theorem dN_init_14 : decode bN_init 14 = .ok (.istore_n 1, 1) := by decide +kernel
theorem dN_init_15 : decode bN_init 15 = .ok (.iload_n 1, 1) := by decide +kernel
theorem dN_init_16 : decode bN_init 16 = .ok (.bipush 32, 2) := by decide +kernel
theorem dN_init_18 : decode bN_init 18 = .ok (.if_icmp .ge 22, 3) := by decide +kernel
theorem dN_init_21 : decode bN_init 21 = .ok (.aload_n 0, 1) := by decide +kernel
theorem dN_init_22 : decode bN_init 22 = .ok (.getfield 11, 3) := by decide +kernel
theorem dN_init_25 : decode bN_init 25 = .ok (.iload_n 1, 1) := by decide +kernel
theorem dN_init_26 : decode bN_init 26 = .ok (.new 9, 3) := by decide +kernel
theorem dN_init_29 : decode bN_init 29 = .ok (.dup, 1) := by decide +kernel
theorem dN_init_30 : decode bN_init 30 = .ok (.invokespecial 15, 3) := by decide +kernel
theorem dN_init_33 : decode bN_init 33 = .ok (.aastore, 1) := by decide +kernel
theorem dN_init_34 : decode bN_init 34 = .ok (.iinc 1 1, 3) := by decide +kernel
theorem dN_init_37 : decode bN_init 37 = .ok (.goto (-22), 3) := by decide +kernel
theorem dN_init_40 : decode bN_init 40 = .ok (.aload_n 0, 1) := by decide +kernel
theorem dN_init_41 : decode bN_init 41 = .ok (.new 9, 3) := by decide +kernel
theorem dN_init_44 : decode bN_init 44 = .ok (.dup, 1) := by decide +kernel
theorem dN_init_45 : decode bN_init 45 = .ok (.invokespecial 15, 3) := by decide +kernel
theorem dN_init_48 : decode bN_init 48 = .ok (.putfield 16, 3) := by decide +kernel
theorem dN_init_51 : decode bN_init 51 = .ok (.aload_n 0, 1) := by decide +kernel
theorem dN_init_52 : decode bN_init 52 = .ok (.new 9, 3) := by decide +kernel
theorem dN_init_55 : decode bN_init 55 = .ok (.dup, 1) := by decide +kernel
theorem dN_init_56 : decode bN_init 56 = .ok (.invokespecial 15, 3) := by decide +kernel
theorem dN_init_59 : decode bN_init 59 = .ok (.putfield 20, 3) := by decide +kernel
theorem dN_init_62 : decode bN_init 62 = .ok (.aload_n 0, 1) := by decide +kernel
theorem dN_init_63 : decode bN_init 63 = .ok (.new 9, 3) := by decide +kernel
theorem dN_init_66 : decode bN_init 66 = .ok (.dup, 1) := by decide +kernel
theorem dN_init_67 : decode bN_init 67 = .ok (.invokespecial 15, 3) := by decide +kernel
theorem dN_init_70 : decode bN_init 70 = .ok (.putfield 23, 3) := by decide +kernel
theorem dN_init_73 : decode bN_init 73 = .ok (.return_, 1) := by decide +kernel
theorem dV_init_0 : decode bV_init 0 = .ok (.aload_n 0, 1) := by decide +kernel
theorem dV_init_1 : decode bV_init 1 = .ok (.invokespecial 3, 3) := by decide +kernel
theorem dV_init_4 : decode bV_init 4 = .ok (.aload_n 0, 1) := by decide +kernel
theorem dV_init_5 : decode bV_init 5 = .ok (.iconst 1, 1) := by decide +kernel
theorem dV_init_6 : decode bV_init 6 = .ok (.putfield 9, 3) := by decide +kernel
theorem dV_init_9 : decode bV_init 9 = .ok (.aload_n 0, 1) := by decide +kernel
theorem dV_init_10 : decode bV_init 10 = .ok (.lconst 0, 1) := by decide +kernel
theorem dV_init_11 : decode bV_init 11 = .ok (.putfield 15, 3) := by decide +kernel
theorem dV_init_14 : decode bV_init 14 = .ok (.aload_n 0, 1) := by decide +kernel
theorem dV_init_15 : decode bV_init 15 = .ok (.iconst 0, 1) := by decide +kernel
theorem dV_init_16 : decode bV_init 16 = .ok (.putfield 19, 3) := by decide +kernel
theorem dV_init_19 : decode bV_init 19 = .ok (.return_, 1) := by decide +kernel
theorem dN_whole_0 : decode bN_whole 0 = .ok (.iload_n 1, 1) := by decide +kernel
theorem dN_whole_1 : decode bN_whole 1 = .ok (.invokestatic 26, 3) := by decide +kernel
theorem dN_whole_4 : decode bN_whole 4 = .ok (.ifCond .ne 5, 3) := by decide +kernel
theorem dN_whole_7 : decode bN_whole 7 = .ok (.iconst 0, 1) := by decide +kernel
theorem dN_whole_8 : decode bN_whole 8 = .ok (.ireturn, 1) := by decide +kernel
theorem dN_whole_9 : decode bN_whole 9 = .ok (.aload_n 0, 1) := by decide +kernel
theorem dN_whole_10 : decode bN_whole 10 = .ok (.getfield 11, 3) := by decide +kernel
theorem dN_whole_13 : decode bN_whole 13 = .ok (.iload_n 1, 1) := by decide +kernel
theorem dN_whole_14 : decode bN_whole 14 = .ok (.aaload, 1) := by decide +kernel
theorem dN_whole_15 : decode bN_whole 15 = .ok (.lload_n 2, 1) := by decide +kernel
theorem dN_whole_16 : decode bN_whole 16 = .ok (.invokevirtual 30, 3) := by decide +kernel
theorem dN_whole_19 : decode bN_whole 19 = .ok (.iconst 1, 1) := by decide +kernel
theorem dN_whole_20 : decode bN_whole 20 = .ok (.ireturn, 1) := by decide +kernel
theorem dN_isRegister_0 : decode bN_isRegister 0 = .ok (.iload_n 0, 1) := by decide +kernel
theorem dN_isRegister_1 : decode bN_isRegister 1 = .ok (.ifCond .lt 13, 3) := by decide +kernel
theorem dN_isRegister_4 : decode bN_isRegister 4 = .ok (.iload_n 0, 1) := by decide +kernel
theorem dN_isRegister_5 : decode bN_isRegister 5 = .ok (.bipush 32, 2) := by decide +kernel
theorem dN_isRegister_7 : decode bN_isRegister 7 = .ok (.if_icmp .ge 7, 3) := by decide +kernel
theorem dN_isRegister_10 : decode bN_isRegister 10 = .ok (.iconst 1, 1) := by decide +kernel
theorem dN_isRegister_11 : decode bN_isRegister 11 = .ok (.goto 4, 3) := by decide +kernel
theorem dN_isRegister_14 : decode bN_isRegister 14 = .ok (.iconst 0, 1) := by decide +kernel
theorem dN_isRegister_15 : decode bN_isRegister 15 = .ok (.ireturn, 1) := by decide +kernel
theorem dV_setWhole_0 : decode bV_setWhole 0 = .ok (.aload_n 0, 1) := by decide +kernel
theorem dV_setWhole_1 : decode bV_setWhole 1 = .ok (.iconst 1, 1) := by decide +kernel
theorem dV_setWhole_2 : decode bV_setWhole 2 = .ok (.putfield 9, 3) := by decide +kernel
theorem dV_setWhole_5 : decode bV_setWhole 5 = .ok (.aload_n 0, 1) := by decide +kernel
theorem dV_setWhole_6 : decode bV_setWhole 6 = .ok (.lload_n 1, 1) := by decide +kernel
theorem dV_setWhole_7 : decode bV_setWhole 7 = .ok (.putfield 15, 3) := by decide +kernel
theorem dV_setWhole_10 : decode bV_setWhole 10 = .ok (.aload_n 0, 1) := by decide +kernel
theorem dV_setWhole_11 : decode bV_setWhole 11 = .ok (.iconst 0, 1) := by decide +kernel
theorem dV_setWhole_12 : decode bV_setWhole 12 = .ok (.putfield 19, 3) := by decide +kernel
theorem dV_setWhole_15 : decode bV_setWhole 15 = .ok (.return_, 1) := by decide +kernel
theorem dN_real_0 : decode bN_real 0 = .ok (.iload_n 1, 1) := by decide +kernel
theorem dN_real_1 : decode bN_real 1 = .ok (.invokestatic 26, 3) := by decide +kernel
theorem dN_real_4 : decode bN_real 4 = .ok (.ifCond .eq 19, 3) := by decide +kernel
theorem dN_real_7 : decode bN_real 7 = .ok (.iload 4, 2) := by decide +kernel
theorem dN_real_9 : decode bN_real 9 = .ok (.sipush (-1200), 3) := by decide +kernel
theorem dN_real_12 : decode bN_real 12 = .ok (.if_icmp .lt 11, 3) := by decide +kernel
theorem dN_real_15 : decode bN_real 15 = .ok (.iload 4, 2) := by decide +kernel
theorem dN_real_17 : decode bN_real 17 = .ok (.sipush 1200, 3) := by decide +kernel
theorem dN_real_20 : decode bN_real 20 = .ok (.if_icmp .le 5, 3) := by decide +kernel
theorem dN_real_23 : decode bN_real 23 = .ok (.iconst 0, 1) := by decide +kernel
theorem dN_real_24 : decode bN_real 24 = .ok (.ireturn, 1) := by decide +kernel
theorem dN_real_25 : decode bN_real 25 = .ok (.aload_n 0, 1) := by decide +kernel
theorem dN_real_26 : decode bN_real 26 = .ok (.getfield 16, 3) := by decide +kernel
theorem dN_real_29 : decode bN_real 29 = .ok (.lload_n 2, 1) := by decide +kernel
theorem dN_real_30 : decode bN_real 30 = .ok (.iconst 0, 1) := by decide +kernel
theorem dN_real_31 : decode bN_real 31 = .ok (.invokevirtual 34, 3) := by decide +kernel
theorem dN_real_34 : decode bN_real 34 = .ok (.aload_n 0, 1) := by decide +kernel
theorem dN_real_35 : decode bN_real 35 = .ok (.getfield 16, 3) := by decide +kernel
theorem dN_real_38 : decode bN_real 38 = .ok (.aload_n 0, 1) := by decide +kernel
theorem dN_real_39 : decode bN_real 39 = .ok (.getfield 16, 3) := by decide +kernel
theorem dN_real_42 : decode bN_real 42 = .ok (.getfield 38, 3) := by decide +kernel
theorem dN_real_45 : decode bN_real 45 = .ok (.aload_n 0, 1) := by decide +kernel
theorem dN_real_46 : decode bN_real 46 = .ok (.getfield 16, 3) := by decide +kernel
theorem dN_real_49 : decode bN_real 49 = .ok (.getfield 42, 3) := by decide +kernel
theorem dN_real_52 : decode bN_real 52 = .ok (.iload 4, 2) := by decide +kernel
theorem dN_real_54 : decode bN_real 54 = .ok (.iadd, 1) := by decide +kernel
theorem dN_real_55 : decode bN_real 55 = .ok (.invokevirtual 34, 3) := by decide +kernel
theorem dN_real_58 : decode bN_real 58 = .ok (.aload_n 0, 1) := by decide +kernel
theorem dN_real_59 : decode bN_real 59 = .ok (.getfield 11, 3) := by decide +kernel
theorem dN_real_62 : decode bN_real 62 = .ok (.iload_n 1, 1) := by decide +kernel
theorem dN_real_63 : decode bN_real 63 = .ok (.aaload, 1) := by decide +kernel
theorem dN_real_64 : decode bN_real 64 = .ok (.aload_n 0, 1) := by decide +kernel
theorem dN_real_65 : decode bN_real 65 = .ok (.getfield 16, 3) := by decide +kernel
theorem dN_real_68 : decode bN_real 68 = .ok (.invokevirtual 46, 3) := by decide +kernel
theorem dN_real_71 : decode bN_real 71 = .ok (.iconst 1, 1) := by decide +kernel
theorem dN_real_72 : decode bN_real 72 = .ok (.ireturn, 1) := by decide +kernel
theorem dV_setReal_0 : decode bV_setReal 0 = .ok (.aload_n 0, 1) := by decide +kernel
theorem dV_setReal_1 : decode bV_setReal 1 = .ok (.lload_n 1, 1) := by decide +kernel
theorem dV_setReal_2 : decode bV_setReal 2 = .ok (.lconst 0, 1) := by decide +kernel
theorem dV_setReal_3 : decode bV_setReal 3 = .ok (.lcmp, 1) := by decide +kernel
theorem dV_setReal_4 : decode bV_setReal 4 = .ok (.ifCond .ge 7, 3) := by decide +kernel
theorem dV_setReal_7 : decode bV_setReal 7 = .ok (.iconst 1, 1) := by decide +kernel
theorem dV_setReal_8 : decode bV_setReal 8 = .ok (.goto 4, 3) := by decide +kernel
theorem dV_setReal_11 : decode bV_setReal 11 = .ok (.iconst 0, 1) := by decide +kernel
theorem dV_setReal_12 : decode bV_setReal 12 = .ok (.lload_n 1, 1) := by decide +kernel
theorem dV_setReal_13 : decode bV_setReal 13 = .ok (.invokestatic 22, 3) := by decide +kernel
theorem dV_setReal_16 : decode bV_setReal 16 = .ok (.iconst 0, 1) := by decide +kernel
theorem dV_setReal_17 : decode bV_setReal 17 = .ok (.iload_n 3, 1) := by decide +kernel
theorem dV_setReal_18 : decode bV_setReal 18 = .ok (.invokevirtual 26, 3) := by decide +kernel
theorem dV_setReal_21 : decode bV_setReal 21 = .ok (.return_, 1) := by decide +kernel
theorem dV_sizeOf_0 : decode bV_sizeOf 0 = .ok (.lload_n 0, 1) := by decide +kernel
theorem dV_sizeOf_1 : decode bV_sizeOf 1 = .ok (.lconst 0, 1) := by decide +kernel
theorem dV_sizeOf_2 : decode bV_sizeOf 2 = .ok (.lcmp, 1) := by decide +kernel
theorem dV_sizeOf_3 : decode bV_sizeOf 3 = .ok (.ifCond .ge 8, 3) := by decide +kernel
theorem dV_sizeOf_6 : decode bV_sizeOf 6 = .ok (.lload_n 0, 1) := by decide +kernel
theorem dV_sizeOf_7 : decode bV_sizeOf 7 = .ok (.lneg, 1) := by decide +kernel
theorem dV_sizeOf_8 : decode bV_sizeOf 8 = .ok (.goto 4, 3) := by decide +kernel
theorem dV_sizeOf_11 : decode bV_sizeOf 11 = .ok (.lload_n 0, 1) := by decide +kernel
theorem dV_sizeOf_12 : decode bV_sizeOf 12 = .ok (.lreturn, 1) := by decide +kernel
theorem dV_setNearest_0 : decode bV_setNearest 0 = .ok (.bipush 64, 2) := by decide +kernel
theorem dV_setNearest_2 : decode bV_setNearest 2 = .ok (.lload_n 2, 1) := by decide +kernel
theorem dV_setNearest_3 : decode bV_setNearest 3 = .ok (.invokestatic 30, 3) := by decide +kernel
theorem dV_setNearest_6 : decode bV_setNearest 6 = .ok (.isub, 1) := by decide +kernel
theorem dV_setNearest_7 : decode bV_setNearest 7 = .ok (.istore 6, 2) := by decide +kernel
theorem dV_setNearest_9 : decode bV_setNearest 9 = .ok (.iload 5, 2) := by decide +kernel
theorem dV_setNearest_11 : decode bV_setNearest 11 = .ok (.iload 6, 2) := by decide +kernel
theorem dV_setNearest_13 : decode bV_setNearest 13 = .ok (.iadd, 1) := by decide +kernel
theorem dV_setNearest_14 : decode bV_setNearest 14 = .ok (.bipush 53, 2) := by decide +kernel
theorem dV_setNearest_16 : decode bV_setNearest 16 = .ok (.isub, 1) := by decide +kernel
theorem dV_setNearest_17 : decode bV_setNearest 17 = .ok (.sipush (-1074), 3) := by decide +kernel
theorem dV_setNearest_20 : decode bV_setNearest 20 = .ok (.invokestatic 36, 3) := by decide +kernel
theorem dV_setNearest_23 : decode bV_setNearest 23 = .ok (.iload 5, 2) := by decide +kernel
theorem dV_setNearest_25 : decode bV_setNearest 25 = .ok (.isub, 1) := by decide +kernel
theorem dV_setNearest_26 : decode bV_setNearest 26 = .ok (.istore 7, 2) := by decide +kernel
theorem dV_setNearest_28 : decode bV_setNearest 28 = .ok (.iload 7, 2) := by decide +kernel
theorem dV_setNearest_30 : decode bV_setNearest 30 = .ok (.ifCond .le 14, 3) := by decide +kernel
theorem dV_setNearest_33 : decode bV_setNearest 33 = .ok (.lload_n 2, 1) := by decide +kernel
theorem dV_setNearest_34 : decode bV_setNearest 34 = .ok (.iload 4, 2) := by decide +kernel
theorem dV_setNearest_36 : decode bV_setNearest 36 = .ok (.iload 7, 2) := by decide +kernel
theorem dV_setNearest_38 : decode bV_setNearest 38 = .ok (.invokestatic 42, 3) := by decide +kernel
theorem dV_setNearest_41 : decode bV_setNearest 41 = .ok (.goto 4, 3) := by decide +kernel
theorem dV_setNearest_44 : decode bV_setNearest 44 = .ok (.lload_n 2, 1) := by decide +kernel
theorem dV_setNearest_45 : decode bV_setNearest 45 = .ok (.lstore 8, 2) := by decide +kernel
theorem dV_setNearest_47 : decode bV_setNearest 47 = .ok (.iload 7, 2) := by decide +kernel
theorem dV_setNearest_49 : decode bV_setNearest 49 = .ok (.ifCond .le 11, 3) := by decide +kernel
theorem dV_setNearest_52 : decode bV_setNearest 52 = .ok (.iload 5, 2) := by decide +kernel
theorem dV_setNearest_54 : decode bV_setNearest 54 = .ok (.iload 7, 2) := by decide +kernel
theorem dV_setNearest_56 : decode bV_setNearest 56 = .ok (.iadd, 1) := by decide +kernel
theorem dV_setNearest_57 : decode bV_setNearest 57 = .ok (.goto 5, 3) := by decide +kernel
theorem dV_setNearest_60 : decode bV_setNearest 60 = .ok (.iload 5, 2) := by decide +kernel
theorem dV_setNearest_62 : decode bV_setNearest 62 = .ok (.istore 10, 2) := by decide +kernel
theorem dV_setNearest_64 : decode bV_setNearest 64 = .ok (.lload 8, 2) := by decide +kernel
theorem dV_setNearest_66 : decode bV_setNearest 66 = .ok (.lconst 0, 1) := by decide +kernel
theorem dV_setNearest_67 : decode bV_setNearest 67 = .ok (.lcmp, 1) := by decide +kernel
theorem dV_setNearest_68 : decode bV_setNearest 68 = .ok (.ifCond .ne 10, 3) := by decide +kernel
theorem dV_setNearest_71 : decode bV_setNearest 71 = .ok (.aload_n 0, 1) := by decide +kernel
theorem dV_setNearest_72 : decode bV_setNearest 72 = .ok (.invokevirtual 46, 3) := by decide +kernel
theorem dV_setNearest_75 : decode bV_setNearest 75 = .ok (.goto 95, 3) := by decide +kernel
theorem dV_setNearest_78 : decode bV_setNearest 78 = .ok (.bipush 64, 2) := by decide +kernel
theorem dV_setNearest_80 : decode bV_setNearest 80 = .ok (.lload 8, 2) := by decide +kernel
theorem dV_setNearest_82 : decode bV_setNearest 82 = .ok (.invokestatic 30, 3) := by decide +kernel
theorem dV_setNearest_85 : decode bV_setNearest 85 = .ok (.isub, 1) := by decide +kernel
theorem dV_setNearest_86 : decode bV_setNearest 86 = .ok (.iload 10, 2) := by decide +kernel
theorem dV_setNearest_88 : decode bV_setNearest 88 = .ok (.iadd, 1) := by decide +kernel
theorem dV_setNearest_89 : decode bV_setNearest 89 = .ok (.sipush 1024, 3) := by decide +kernel
theorem dV_setNearest_92 : decode bV_setNearest 92 = .ok (.if_icmp .le 11, 3) := by decide +kernel
theorem dV_setNearest_95 : decode bV_setNearest 95 = .ok (.aload_n 0, 1) := by decide +kernel
theorem dV_setNearest_96 : decode bV_setNearest 96 = .ok (.iload_n 1, 1) := by decide +kernel
theorem dV_setNearest_97 : decode bV_setNearest 97 = .ok (.invokevirtual 49, 3) := by decide +kernel
theorem dV_setNearest_100 : decode bV_setNearest 100 = .ok (.goto 70, 3) := by decide +kernel
theorem dV_setNearest_103 : decode bV_setNearest 103 = .ok (.lload 8, 2) := by decide +kernel
theorem dV_setNearest_105 : decode bV_setNearest 105 = .ok (.invokestatic 53, 3) := by decide +kernel
theorem dV_setNearest_108 : decode bV_setNearest 108 = .ok (.sipush 971, 3) := by decide +kernel
theorem dV_setNearest_111 : decode bV_setNearest 111 = .ok (.iload 10, 2) := by decide +kernel
theorem dV_setNearest_113 : decode bV_setNearest 113 = .ok (.isub, 1) := by decide +kernel
theorem dV_setNearest_114 : decode bV_setNearest 114 = .ok (.invokestatic 56, 3) := by decide +kernel
theorem dV_setNearest_117 : decode bV_setNearest 117 = .ok (.istore 11, 2) := by decide +kernel
theorem dV_setNearest_119 : decode bV_setNearest 119 = .ok (.iload 11, 2) := by decide +kernel
theorem dV_setNearest_121 : decode bV_setNearest 121 = .ok (.ifCond .lt 11, 3) := by decide +kernel
theorem dV_setNearest_124 : decode bV_setNearest 124 = .ok (.lload 8, 2) := by decide +kernel
theorem dV_setNearest_126 : decode bV_setNearest 126 = .ok (.iload 11, 2) := by decide +kernel
theorem dV_setNearest_128 : decode bV_setNearest 128 = .ok (.lushr, 1) := by decide +kernel
theorem dV_setNearest_129 : decode bV_setNearest 129 = .ok (.goto 9, 3) := by decide +kernel
theorem dV_setNearest_132 : decode bV_setNearest 132 = .ok (.lload 8, 2) := by decide +kernel
theorem dV_setNearest_134 : decode bV_setNearest 134 = .ok (.iload 11, 2) := by decide +kernel
theorem dV_setNearest_136 : decode bV_setNearest 136 = .ok (.ineg, 1) := by decide +kernel
theorem dV_setNearest_137 : decode bV_setNearest 137 = .ok (.lshl, 1) := by decide +kernel
theorem dV_setNearest_138 : decode bV_setNearest 138 = .ok (.lstore 8, 2) := by decide +kernel
theorem dV_setNearest_140 : decode bV_setNearest 140 = .ok (.aload_n 0, 1) := by decide +kernel
theorem dV_setNearest_141 : decode bV_setNearest 141 = .ok (.iconst 2, 1) := by decide +kernel
theorem dV_setNearest_142 : decode bV_setNearest 142 = .ok (.putfield 9, 3) := by decide +kernel
theorem dV_setNearest_145 : decode bV_setNearest 145 = .ok (.aload_n 0, 1) := by decide +kernel
theorem dV_setNearest_146 : decode bV_setNearest 146 = .ok (.iload_n 1, 1) := by decide +kernel
theorem dV_setNearest_147 : decode bV_setNearest 147 = .ok (.ifCond .eq 9, 3) := by decide +kernel
theorem dV_setNearest_150 : decode bV_setNearest 150 = .ok (.lload 8, 2) := by decide +kernel
theorem dV_setNearest_152 : decode bV_setNearest 152 = .ok (.lneg, 1) := by decide +kernel
theorem dV_setNearest_153 : decode bV_setNearest 153 = .ok (.goto 5, 3) := by decide +kernel
theorem dV_setNearest_156 : decode bV_setNearest 156 = .ok (.lload 8, 2) := by decide +kernel
theorem dV_setNearest_158 : decode bV_setNearest 158 = .ok (.putfield 15, 3) := by decide +kernel
theorem dV_setNearest_161 : decode bV_setNearest 161 = .ok (.aload_n 0, 1) := by decide +kernel
theorem dV_setNearest_162 : decode bV_setNearest 162 = .ok (.iload 10, 2) := by decide +kernel
theorem dV_setNearest_164 : decode bV_setNearest 164 = .ok (.iload 11, 2) := by decide +kernel
theorem dV_setNearest_166 : decode bV_setNearest 166 = .ok (.iadd, 1) := by decide +kernel
theorem dV_setNearest_167 : decode bV_setNearest 167 = .ok (.putfield 19, 3) := by decide +kernel
theorem dV_setNearest_170 : decode bV_setNearest 170 = .ok (.return_, 1) := by decide +kernel
theorem dJL_numberOfLeadingZeros_0 : decode bJL_numberOfLeadingZeros 0 = .ok (.lload_n 0, 1) := by decide +kernel
theorem dJL_numberOfLeadingZeros_1 : decode bJL_numberOfLeadingZeros 1 = .ok (.bipush 32, 2) := by decide +kernel
theorem dJL_numberOfLeadingZeros_3 : decode bJL_numberOfLeadingZeros 3 = .ok (.lushr, 1) := by decide +kernel
theorem dJL_numberOfLeadingZeros_4 : decode bJL_numberOfLeadingZeros 4 = .ok (.l2i, 1) := by decide +kernel
theorem dJL_numberOfLeadingZeros_5 : decode bJL_numberOfLeadingZeros 5 = .ok (.istore_n 2, 1) := by decide +kernel
theorem dJL_numberOfLeadingZeros_6 : decode bJL_numberOfLeadingZeros 6 = .ok (.iload_n 2, 1) := by decide +kernel
theorem dJL_numberOfLeadingZeros_7 : decode bJL_numberOfLeadingZeros 7 = .ok (.ifCond .ne 14, 3) := by decide +kernel
theorem dJL_numberOfLeadingZeros_10 : decode bJL_numberOfLeadingZeros 10 = .ok (.bipush 32, 2) := by decide +kernel
theorem dJL_numberOfLeadingZeros_12 : decode bJL_numberOfLeadingZeros 12 = .ok (.lload_n 0, 1) := by decide +kernel
theorem dJL_numberOfLeadingZeros_13 : decode bJL_numberOfLeadingZeros 13 = .ok (.l2i, 1) := by decide +kernel
theorem dJL_numberOfLeadingZeros_14 : decode bJL_numberOfLeadingZeros 14 = .ok (.invokestatic 308, 3) := by decide +kernel
theorem dJL_numberOfLeadingZeros_17 : decode bJL_numberOfLeadingZeros 17 = .ok (.iadd, 1) := by decide +kernel
theorem dJL_numberOfLeadingZeros_18 : decode bJL_numberOfLeadingZeros 18 = .ok (.goto 7, 3) := by decide +kernel
theorem dJL_numberOfLeadingZeros_21 : decode bJL_numberOfLeadingZeros 21 = .ok (.iload_n 2, 1) := by decide +kernel
theorem dJL_numberOfLeadingZeros_22 : decode bJL_numberOfLeadingZeros 22 = .ok (.invokestatic 308, 3) := by decide +kernel
theorem dJL_numberOfLeadingZeros_25 : decode bJL_numberOfLeadingZeros 25 = .ok (.ireturn, 1) := by decide +kernel
theorem dJI_numberOfLeadingZeros_0 : decode bJI_numberOfLeadingZeros 0 = .ok (.iload_n 0, 1) := by decide +kernel
theorem dJI_numberOfLeadingZeros_1 : decode bJI_numberOfLeadingZeros 1 = .ok (.ifCond .gt 14, 3) := by decide +kernel
theorem dJI_numberOfLeadingZeros_4 : decode bJI_numberOfLeadingZeros 4 = .ok (.iload_n 0, 1) := by decide +kernel
theorem dJI_numberOfLeadingZeros_5 : decode bJI_numberOfLeadingZeros 5 = .ok (.ifCond .ne 8, 3) := by decide +kernel
theorem dJI_numberOfLeadingZeros_8 : decode bJI_numberOfLeadingZeros 8 = .ok (.bipush 32, 2) := by decide +kernel
theorem dJI_numberOfLeadingZeros_10 : decode bJI_numberOfLeadingZeros 10 = .ok (.goto 4, 3) := by decide +kernel
theorem dJI_numberOfLeadingZeros_13 : decode bJI_numberOfLeadingZeros 13 = .ok (.iconst 0, 1) := by decide +kernel
theorem dJI_numberOfLeadingZeros_14 : decode bJI_numberOfLeadingZeros 14 = .ok (.ireturn, 1) := by decide +kernel
theorem dJI_numberOfLeadingZeros_15 : decode bJI_numberOfLeadingZeros 15 = .ok (.bipush 31, 2) := by decide +kernel
theorem dJI_numberOfLeadingZeros_17 : decode bJI_numberOfLeadingZeros 17 = .ok (.istore_n 1, 1) := by decide +kernel
theorem dJI_numberOfLeadingZeros_18 : decode bJI_numberOfLeadingZeros 18 = .ok (.iload_n 0, 1) := by decide +kernel
theorem dJI_numberOfLeadingZeros_19 : decode bJI_numberOfLeadingZeros 19 = .ok (.ldc_w 264, 3) := by decide +kernel
theorem dJI_numberOfLeadingZeros_22 : decode bJI_numberOfLeadingZeros 22 = .ok (.if_icmp .lt 11, 3) := by decide +kernel
theorem dJI_numberOfLeadingZeros_25 : decode bJI_numberOfLeadingZeros 25 = .ok (.iinc 1 (-16), 3) := by decide +kernel
theorem dJI_numberOfLeadingZeros_28 : decode bJI_numberOfLeadingZeros 28 = .ok (.iload_n 0, 1) := by decide +kernel
theorem dJI_numberOfLeadingZeros_29 : decode bJI_numberOfLeadingZeros 29 = .ok (.bipush 16, 2) := by decide +kernel
theorem dJI_numberOfLeadingZeros_31 : decode bJI_numberOfLeadingZeros 31 = .ok (.iushr, 1) := by decide +kernel
theorem dJI_numberOfLeadingZeros_32 : decode bJI_numberOfLeadingZeros 32 = .ok (.istore_n 0, 1) := by decide +kernel
theorem dJI_numberOfLeadingZeros_33 : decode bJI_numberOfLeadingZeros 33 = .ok (.iload_n 0, 1) := by decide +kernel
theorem dJI_numberOfLeadingZeros_34 : decode bJI_numberOfLeadingZeros 34 = .ok (.sipush 256, 3) := by decide +kernel
theorem dJI_numberOfLeadingZeros_37 : decode bJI_numberOfLeadingZeros 37 = .ok (.if_icmp .lt 11, 3) := by decide +kernel
theorem dJI_numberOfLeadingZeros_40 : decode bJI_numberOfLeadingZeros 40 = .ok (.iinc 1 (-8), 3) := by decide +kernel
theorem dJI_numberOfLeadingZeros_43 : decode bJI_numberOfLeadingZeros 43 = .ok (.iload_n 0, 1) := by decide +kernel
theorem dJI_numberOfLeadingZeros_44 : decode bJI_numberOfLeadingZeros 44 = .ok (.bipush 8, 2) := by decide +kernel
theorem dJI_numberOfLeadingZeros_46 : decode bJI_numberOfLeadingZeros 46 = .ok (.iushr, 1) := by decide +kernel
theorem dJI_numberOfLeadingZeros_47 : decode bJI_numberOfLeadingZeros 47 = .ok (.istore_n 0, 1) := by decide +kernel
theorem dJI_numberOfLeadingZeros_48 : decode bJI_numberOfLeadingZeros 48 = .ok (.iload_n 0, 1) := by decide +kernel
theorem dJI_numberOfLeadingZeros_49 : decode bJI_numberOfLeadingZeros 49 = .ok (.bipush 16, 2) := by decide +kernel
theorem dJI_numberOfLeadingZeros_51 : decode bJI_numberOfLeadingZeros 51 = .ok (.if_icmp .lt 10, 3) := by decide +kernel
theorem dJI_numberOfLeadingZeros_54 : decode bJI_numberOfLeadingZeros 54 = .ok (.iinc 1 (-4), 3) := by decide +kernel
theorem dJI_numberOfLeadingZeros_57 : decode bJI_numberOfLeadingZeros 57 = .ok (.iload_n 0, 1) := by decide +kernel
theorem dJI_numberOfLeadingZeros_58 : decode bJI_numberOfLeadingZeros 58 = .ok (.iconst 4, 1) := by decide +kernel
theorem dJI_numberOfLeadingZeros_59 : decode bJI_numberOfLeadingZeros 59 = .ok (.iushr, 1) := by decide +kernel
theorem dJI_numberOfLeadingZeros_60 : decode bJI_numberOfLeadingZeros 60 = .ok (.istore_n 0, 1) := by decide +kernel
theorem dJI_numberOfLeadingZeros_61 : decode bJI_numberOfLeadingZeros 61 = .ok (.iload_n 0, 1) := by decide +kernel
theorem dJI_numberOfLeadingZeros_62 : decode bJI_numberOfLeadingZeros 62 = .ok (.iconst 4, 1) := by decide +kernel
theorem dJI_numberOfLeadingZeros_63 : decode bJI_numberOfLeadingZeros 63 = .ok (.if_icmp .lt 10, 3) := by decide +kernel
theorem dJI_numberOfLeadingZeros_66 : decode bJI_numberOfLeadingZeros 66 = .ok (.iinc 1 (-2), 3) := by decide +kernel
theorem dJI_numberOfLeadingZeros_69 : decode bJI_numberOfLeadingZeros 69 = .ok (.iload_n 0, 1) := by decide +kernel
theorem dJI_numberOfLeadingZeros_70 : decode bJI_numberOfLeadingZeros 70 = .ok (.iconst 2, 1) := by decide +kernel
theorem dJI_numberOfLeadingZeros_71 : decode bJI_numberOfLeadingZeros 71 = .ok (.iushr, 1) := by decide +kernel
theorem dJI_numberOfLeadingZeros_72 : decode bJI_numberOfLeadingZeros 72 = .ok (.istore_n 0, 1) := by decide +kernel
theorem dJI_numberOfLeadingZeros_73 : decode bJI_numberOfLeadingZeros 73 = .ok (.iload_n 1, 1) := by decide +kernel
theorem dJI_numberOfLeadingZeros_74 : decode bJI_numberOfLeadingZeros 74 = .ok (.iload_n 0, 1) := by decide +kernel
theorem dJI_numberOfLeadingZeros_75 : decode bJI_numberOfLeadingZeros 75 = .ok (.iconst 1, 1) := by decide +kernel
theorem dJI_numberOfLeadingZeros_76 : decode bJI_numberOfLeadingZeros 76 = .ok (.iushr, 1) := by decide +kernel
theorem dJI_numberOfLeadingZeros_77 : decode bJI_numberOfLeadingZeros 77 = .ok (.isub, 1) := by decide +kernel
theorem dJI_numberOfLeadingZeros_78 : decode bJI_numberOfLeadingZeros 78 = .ok (.ireturn, 1) := by decide +kernel
theorem dV_dropBits_0 : decode bV_dropBits 0 = .ok (.iload_n 3, 1) := by decide +kernel
theorem dV_dropBits_1 : decode bV_dropBits 1 = .ok (.bipush 63, 2) := by decide +kernel
theorem dV_dropBits_3 : decode bV_dropBits 3 = .ok (.if_icmp .le 5, 3) := by decide +kernel
theorem dV_dropBits_6 : decode bV_dropBits 6 = .ok (.lconst 0, 1) := by decide +kernel
theorem dV_dropBits_7 : decode bV_dropBits 7 = .ok (.lreturn, 1) := by decide +kernel
theorem dV_dropBits_8 : decode bV_dropBits 8 = .ok (.lload_n 0, 1) := by decide +kernel
theorem dV_dropBits_9 : decode bV_dropBits 9 = .ok (.iload_n 3, 1) := by decide +kernel
theorem dV_dropBits_10 : decode bV_dropBits 10 = .ok (.lushr, 1) := by decide +kernel
theorem dV_dropBits_11 : decode bV_dropBits 11 = .ok (.lstore 4, 2) := by decide +kernel
theorem dV_dropBits_13 : decode bV_dropBits 13 = .ok (.lload_n 0, 1) := by decide +kernel
theorem dV_dropBits_14 : decode bV_dropBits 14 = .ok (.lload 4, 2) := by decide +kernel
theorem dV_dropBits_16 : decode bV_dropBits 16 = .ok (.iload_n 3, 1) := by decide +kernel
theorem dV_dropBits_17 : decode bV_dropBits 17 = .ok (.lshl, 1) := by decide +kernel
theorem dV_dropBits_18 : decode bV_dropBits 18 = .ok (.lsub, 1) := by decide +kernel
theorem dV_dropBits_19 : decode bV_dropBits 19 = .ok (.lstore 6, 2) := by decide +kernel
theorem dV_dropBits_21 : decode bV_dropBits 21 = .ok (.lconst 1, 1) := by decide +kernel
theorem dV_dropBits_22 : decode bV_dropBits 22 = .ok (.iload_n 3, 1) := by decide +kernel
theorem dV_dropBits_23 : decode bV_dropBits 23 = .ok (.iconst 1, 1) := by decide +kernel
theorem dV_dropBits_24 : decode bV_dropBits 24 = .ok (.isub, 1) := by decide +kernel
theorem dV_dropBits_25 : decode bV_dropBits 25 = .ok (.lshl, 1) := by decide +kernel
theorem dV_dropBits_26 : decode bV_dropBits 26 = .ok (.lstore 8, 2) := by decide +kernel
theorem dV_dropBits_28 : decode bV_dropBits 28 = .ok (.lload 6, 2) := by decide +kernel
theorem dV_dropBits_30 : decode bV_dropBits 30 = .ok (.lload 8, 2) := by decide +kernel
theorem dV_dropBits_32 : decode bV_dropBits 32 = .ok (.lcmp, 1) := by decide +kernel
theorem dV_dropBits_33 : decode bV_dropBits 33 = .ok (.ifCond .gt 24, 3) := by decide +kernel
theorem dV_dropBits_36 : decode bV_dropBits 36 = .ok (.lload 6, 2) := by decide +kernel
theorem dV_dropBits_38 : decode bV_dropBits 38 = .ok (.lload 8, 2) := by decide +kernel
theorem dV_dropBits_40 : decode bV_dropBits 40 = .ok (.lcmp, 1) := by decide +kernel
theorem dV_dropBits_41 : decode bV_dropBits 41 = .ok (.ifCond .ne 20, 3) := by decide +kernel
theorem dV_dropBits_44 : decode bV_dropBits 44 = .ok (.iload_n 2, 1) := by decide +kernel
theorem dV_dropBits_45 : decode bV_dropBits 45 = .ok (.ifCond .ne 12, 3) := by decide +kernel
theorem dV_dropBits_48 : decode bV_dropBits 48 = .ok (.lload 4, 2) := by decide +kernel
theorem dV_dropBits_50 : decode bV_dropBits 50 = .ok (.lconst 1, 1) := by decide +kernel
theorem dV_dropBits_51 : decode bV_dropBits 51 = .ok (.land, 1) := by decide +kernel
theorem dV_dropBits_52 : decode bV_dropBits 52 = .ok (.lconst 1, 1) := by decide +kernel
theorem dV_dropBits_53 : decode bV_dropBits 53 = .ok (.lcmp, 1) := by decide +kernel
theorem dV_dropBits_54 : decode bV_dropBits 54 = .ok (.ifCond .ne 7, 3) := by decide +kernel
theorem dV_dropBits_57 : decode bV_dropBits 57 = .ok (.iconst 1, 1) := by decide +kernel
theorem dV_dropBits_58 : decode bV_dropBits 58 = .ok (.goto 4, 3) := by decide +kernel
theorem dV_dropBits_61 : decode bV_dropBits 61 = .ok (.iconst 0, 1) := by decide +kernel
theorem dV_dropBits_62 : decode bV_dropBits 62 = .ok (.istore 10, 2) := by decide +kernel
theorem dV_dropBits_64 : decode bV_dropBits 64 = .ok (.iload 10, 2) := by decide +kernel
theorem dV_dropBits_66 : decode bV_dropBits 66 = .ok (.ifCond .eq 10, 3) := by decide +kernel
theorem dV_dropBits_69 : decode bV_dropBits 69 = .ok (.lload 4, 2) := by decide +kernel
theorem dV_dropBits_71 : decode bV_dropBits 71 = .ok (.lconst 1, 1) := by decide +kernel
theorem dV_dropBits_72 : decode bV_dropBits 72 = .ok (.ladd, 1) := by decide +kernel
theorem dV_dropBits_73 : decode bV_dropBits 73 = .ok (.goto 5, 3) := by decide +kernel
theorem dV_dropBits_76 : decode bV_dropBits 76 = .ok (.lload 4, 2) := by decide +kernel
theorem dV_dropBits_78 : decode bV_dropBits 78 = .ok (.lreturn, 1) := by decide +kernel
theorem dV_setZero_0 : decode bV_setZero 0 = .ok (.aload_n 0, 1) := by decide +kernel
theorem dV_setZero_1 : decode bV_setZero 1 = .ok (.iconst 2, 1) := by decide +kernel
theorem dV_setZero_2 : decode bV_setZero 2 = .ok (.putfield 9, 3) := by decide +kernel
theorem dV_setZero_5 : decode bV_setZero 5 = .ok (.aload_n 0, 1) := by decide +kernel
theorem dV_setZero_6 : decode bV_setZero 6 = .ok (.lconst 0, 1) := by decide +kernel
theorem dV_setZero_7 : decode bV_setZero 7 = .ok (.putfield 15, 3) := by decide +kernel
theorem dV_setZero_10 : decode bV_setZero 10 = .ok (.aload_n 0, 1) := by decide +kernel
theorem dV_setZero_11 : decode bV_setZero 11 = .ok (.iconst 0, 1) := by decide +kernel
theorem dV_setZero_12 : decode bV_setZero 12 = .ok (.putfield 19, 3) := by decide +kernel
theorem dV_setZero_15 : decode bV_setZero 15 = .ok (.return_, 1) := by decide +kernel
theorem dV_setInfinity_0 : decode bV_setInfinity 0 = .ok (.aload_n 0, 1) := by decide +kernel
theorem dV_setInfinity_1 : decode bV_setInfinity 1 = .ok (.iload_n 1, 1) := by decide +kernel
theorem dV_setInfinity_2 : decode bV_setInfinity 2 = .ok (.ifCond .eq 7, 3) := by decide +kernel
theorem dV_setInfinity_5 : decode bV_setInfinity 5 = .ok (.iconst 4, 1) := by decide +kernel
theorem dV_setInfinity_6 : decode bV_setInfinity 6 = .ok (.goto 4, 3) := by decide +kernel
theorem dV_setInfinity_9 : decode bV_setInfinity 9 = .ok (.iconst 3, 1) := by decide +kernel
theorem dV_setInfinity_10 : decode bV_setInfinity 10 = .ok (.putfield 9, 3) := by decide +kernel
theorem dV_setInfinity_13 : decode bV_setInfinity 13 = .ok (.aload_n 0, 1) := by decide +kernel
theorem dV_setInfinity_14 : decode bV_setInfinity 14 = .ok (.lconst 0, 1) := by decide +kernel
theorem dV_setInfinity_15 : decode bV_setInfinity 15 = .ok (.putfield 15, 3) := by decide +kernel
theorem dV_setInfinity_18 : decode bV_setInfinity 18 = .ok (.aload_n 0, 1) := by decide +kernel
theorem dV_setInfinity_19 : decode bV_setInfinity 19 = .ok (.iconst 0, 1) := by decide +kernel
theorem dV_setInfinity_20 : decode bV_setInfinity 20 = .ok (.putfield 19, 3) := by decide +kernel
theorem dV_setInfinity_23 : decode bV_setInfinity 23 = .ok (.return_, 1) := by decide +kernel
theorem dJL_numberOfTrailingZeros_0 : decode bJL_numberOfTrailingZeros 0 = .ok (.lload_n 0, 1) := by decide +kernel
theorem dJL_numberOfTrailingZeros_1 : decode bJL_numberOfTrailingZeros 1 = .ok (.l2i, 1) := by decide +kernel
theorem dJL_numberOfTrailingZeros_2 : decode bJL_numberOfTrailingZeros 2 = .ok (.istore_n 2, 1) := by decide +kernel
theorem dJL_numberOfTrailingZeros_3 : decode bJL_numberOfTrailingZeros 3 = .ok (.iload_n 2, 1) := by decide +kernel
theorem dJL_numberOfTrailingZeros_4 : decode bJL_numberOfTrailingZeros 4 = .ok (.ifCond .ne 17, 3) := by decide +kernel
theorem dJL_numberOfTrailingZeros_7 : decode bJL_numberOfTrailingZeros 7 = .ok (.bipush 32, 2) := by decide +kernel
theorem dJL_numberOfTrailingZeros_9 : decode bJL_numberOfTrailingZeros 9 = .ok (.lload_n 0, 1) := by decide +kernel
theorem dJL_numberOfTrailingZeros_10 : decode bJL_numberOfTrailingZeros 10 = .ok (.bipush 32, 2) := by decide +kernel
theorem dJL_numberOfTrailingZeros_12 : decode bJL_numberOfTrailingZeros 12 = .ok (.lushr, 1) := by decide +kernel
theorem dJL_numberOfTrailingZeros_13 : decode bJL_numberOfTrailingZeros 13 = .ok (.l2i, 1) := by decide +kernel
theorem dJL_numberOfTrailingZeros_14 : decode bJL_numberOfTrailingZeros 14 = .ok (.invokestatic 311, 3) := by decide +kernel
theorem dJL_numberOfTrailingZeros_17 : decode bJL_numberOfTrailingZeros 17 = .ok (.iadd, 1) := by decide +kernel
theorem dJL_numberOfTrailingZeros_18 : decode bJL_numberOfTrailingZeros 18 = .ok (.goto 7, 3) := by decide +kernel
theorem dJL_numberOfTrailingZeros_21 : decode bJL_numberOfTrailingZeros 21 = .ok (.iload_n 2, 1) := by decide +kernel
theorem dJL_numberOfTrailingZeros_22 : decode bJL_numberOfTrailingZeros 22 = .ok (.invokestatic 311, 3) := by decide +kernel
theorem dJL_numberOfTrailingZeros_25 : decode bJL_numberOfTrailingZeros 25 = .ok (.ireturn, 1) := by decide +kernel
theorem dJI_numberOfTrailingZeros_0 : decode bJI_numberOfTrailingZeros 0 = .ok (.iload_n 0, 1) := by decide +kernel
theorem dJI_numberOfTrailingZeros_1 : decode bJI_numberOfTrailingZeros 1 = .ok (.iconst (-1), 1) := by decide +kernel
theorem dJI_numberOfTrailingZeros_2 : decode bJI_numberOfTrailingZeros 2 = .ok (.ixor, 1) := by decide +kernel
theorem dJI_numberOfTrailingZeros_3 : decode bJI_numberOfTrailingZeros 3 = .ok (.iload_n 0, 1) := by decide +kernel
theorem dJI_numberOfTrailingZeros_4 : decode bJI_numberOfTrailingZeros 4 = .ok (.iconst 1, 1) := by decide +kernel
theorem dJI_numberOfTrailingZeros_5 : decode bJI_numberOfTrailingZeros 5 = .ok (.isub, 1) := by decide +kernel
theorem dJI_numberOfTrailingZeros_6 : decode bJI_numberOfTrailingZeros 6 = .ok (.iand, 1) := by decide +kernel
theorem dJI_numberOfTrailingZeros_7 : decode bJI_numberOfTrailingZeros 7 = .ok (.istore_n 0, 1) := by decide +kernel
theorem dJI_numberOfTrailingZeros_8 : decode bJI_numberOfTrailingZeros 8 = .ok (.iload_n 0, 1) := by decide +kernel
theorem dJI_numberOfTrailingZeros_9 : decode bJI_numberOfTrailingZeros 9 = .ok (.ifCond .gt 8, 3) := by decide +kernel
theorem dJI_numberOfTrailingZeros_12 : decode bJI_numberOfTrailingZeros 12 = .ok (.iload_n 0, 1) := by decide +kernel
theorem dJI_numberOfTrailingZeros_13 : decode bJI_numberOfTrailingZeros 13 = .ok (.bipush 32, 2) := by decide +kernel
theorem dJI_numberOfTrailingZeros_15 : decode bJI_numberOfTrailingZeros 15 = .ok (.iand, 1) := by decide +kernel
theorem dJI_numberOfTrailingZeros_16 : decode bJI_numberOfTrailingZeros 16 = .ok (.ireturn, 1) := by decide +kernel
theorem dJI_numberOfTrailingZeros_17 : decode bJI_numberOfTrailingZeros 17 = .ok (.iconst 1, 1) := by decide +kernel
theorem dJI_numberOfTrailingZeros_18 : decode bJI_numberOfTrailingZeros 18 = .ok (.istore_n 1, 1) := by decide +kernel
theorem dJI_numberOfTrailingZeros_19 : decode bJI_numberOfTrailingZeros 19 = .ok (.iload_n 0, 1) := by decide +kernel
theorem dJI_numberOfTrailingZeros_20 : decode bJI_numberOfTrailingZeros 20 = .ok (.ldc_w 264, 3) := by decide +kernel
theorem dJI_numberOfTrailingZeros_23 : decode bJI_numberOfTrailingZeros 23 = .ok (.if_icmp .le 11, 3) := by decide +kernel
theorem dJI_numberOfTrailingZeros_26 : decode bJI_numberOfTrailingZeros 26 = .ok (.iinc 1 16, 3) := by decide +kernel
theorem dJI_numberOfTrailingZeros_29 : decode bJI_numberOfTrailingZeros 29 = .ok (.iload_n 0, 1) := by decide +kernel
theorem dJI_numberOfTrailingZeros_30 : decode bJI_numberOfTrailingZeros 30 = .ok (.bipush 16, 2) := by decide +kernel
theorem dJI_numberOfTrailingZeros_32 : decode bJI_numberOfTrailingZeros 32 = .ok (.iushr, 1) := by decide +kernel
theorem dJI_numberOfTrailingZeros_33 : decode bJI_numberOfTrailingZeros 33 = .ok (.istore_n 0, 1) := by decide +kernel
theorem dJI_numberOfTrailingZeros_34 : decode bJI_numberOfTrailingZeros 34 = .ok (.iload_n 0, 1) := by decide +kernel
theorem dJI_numberOfTrailingZeros_35 : decode bJI_numberOfTrailingZeros 35 = .ok (.sipush 256, 3) := by decide +kernel
theorem dJI_numberOfTrailingZeros_38 : decode bJI_numberOfTrailingZeros 38 = .ok (.if_icmp .le 11, 3) := by decide +kernel
theorem dJI_numberOfTrailingZeros_41 : decode bJI_numberOfTrailingZeros 41 = .ok (.iinc 1 8, 3) := by decide +kernel
theorem dJI_numberOfTrailingZeros_44 : decode bJI_numberOfTrailingZeros 44 = .ok (.iload_n 0, 1) := by decide +kernel
theorem dJI_numberOfTrailingZeros_45 : decode bJI_numberOfTrailingZeros 45 = .ok (.bipush 8, 2) := by decide +kernel
theorem dJI_numberOfTrailingZeros_47 : decode bJI_numberOfTrailingZeros 47 = .ok (.iushr, 1) := by decide +kernel
theorem dJI_numberOfTrailingZeros_48 : decode bJI_numberOfTrailingZeros 48 = .ok (.istore_n 0, 1) := by decide +kernel
theorem dJI_numberOfTrailingZeros_49 : decode bJI_numberOfTrailingZeros 49 = .ok (.iload_n 0, 1) := by decide +kernel
theorem dJI_numberOfTrailingZeros_50 : decode bJI_numberOfTrailingZeros 50 = .ok (.bipush 16, 2) := by decide +kernel
theorem dJI_numberOfTrailingZeros_52 : decode bJI_numberOfTrailingZeros 52 = .ok (.if_icmp .le 10, 3) := by decide +kernel
theorem dJI_numberOfTrailingZeros_55 : decode bJI_numberOfTrailingZeros 55 = .ok (.iinc 1 4, 3) := by decide +kernel
theorem dJI_numberOfTrailingZeros_58 : decode bJI_numberOfTrailingZeros 58 = .ok (.iload_n 0, 1) := by decide +kernel
theorem dJI_numberOfTrailingZeros_59 : decode bJI_numberOfTrailingZeros 59 = .ok (.iconst 4, 1) := by decide +kernel
theorem dJI_numberOfTrailingZeros_60 : decode bJI_numberOfTrailingZeros 60 = .ok (.iushr, 1) := by decide +kernel
theorem dJI_numberOfTrailingZeros_61 : decode bJI_numberOfTrailingZeros 61 = .ok (.istore_n 0, 1) := by decide +kernel
theorem dJI_numberOfTrailingZeros_62 : decode bJI_numberOfTrailingZeros 62 = .ok (.iload_n 0, 1) := by decide +kernel
theorem dJI_numberOfTrailingZeros_63 : decode bJI_numberOfTrailingZeros 63 = .ok (.iconst 4, 1) := by decide +kernel
theorem dJI_numberOfTrailingZeros_64 : decode bJI_numberOfTrailingZeros 64 = .ok (.if_icmp .le 10, 3) := by decide +kernel
theorem dJI_numberOfTrailingZeros_67 : decode bJI_numberOfTrailingZeros 67 = .ok (.iinc 1 2, 3) := by decide +kernel
theorem dJI_numberOfTrailingZeros_70 : decode bJI_numberOfTrailingZeros 70 = .ok (.iload_n 0, 1) := by decide +kernel
theorem dJI_numberOfTrailingZeros_71 : decode bJI_numberOfTrailingZeros 71 = .ok (.iconst 2, 1) := by decide +kernel
theorem dJI_numberOfTrailingZeros_72 : decode bJI_numberOfTrailingZeros 72 = .ok (.iushr, 1) := by decide +kernel
theorem dJI_numberOfTrailingZeros_73 : decode bJI_numberOfTrailingZeros 73 = .ok (.istore_n 0, 1) := by decide +kernel
theorem dJI_numberOfTrailingZeros_74 : decode bJI_numberOfTrailingZeros 74 = .ok (.iload_n 1, 1) := by decide +kernel
theorem dJI_numberOfTrailingZeros_75 : decode bJI_numberOfTrailingZeros 75 = .ok (.iload_n 0, 1) := by decide +kernel
theorem dJI_numberOfTrailingZeros_76 : decode bJI_numberOfTrailingZeros 76 = .ok (.iconst 1, 1) := by decide +kernel
theorem dJI_numberOfTrailingZeros_77 : decode bJI_numberOfTrailingZeros 77 = .ok (.iushr, 1) := by decide +kernel
theorem dJI_numberOfTrailingZeros_78 : decode bJI_numberOfTrailingZeros 78 = .ok (.iadd, 1) := by decide +kernel
theorem dJI_numberOfTrailingZeros_79 : decode bJI_numberOfTrailingZeros 79 = .ok (.ireturn, 1) := by decide +kernel
theorem dV_become_0 : decode bV_become 0 = .ok (.aload_n 0, 1) := by decide +kernel
theorem dV_become_1 : decode bV_become 1 = .ok (.aload_n 1, 1) := by decide +kernel
theorem dV_become_2 : decode bV_become 2 = .ok (.getfield 9, 3) := by decide +kernel
theorem dV_become_5 : decode bV_become 5 = .ok (.putfield 9, 3) := by decide +kernel
theorem dV_become_8 : decode bV_become 8 = .ok (.aload_n 0, 1) := by decide +kernel
theorem dV_become_9 : decode bV_become 9 = .ok (.aload_n 1, 1) := by decide +kernel
theorem dV_become_10 : decode bV_become 10 = .ok (.getfield 15, 3) := by decide +kernel
theorem dV_become_13 : decode bV_become 13 = .ok (.putfield 15, 3) := by decide +kernel
theorem dV_become_16 : decode bV_become 16 = .ok (.aload_n 0, 1) := by decide +kernel
theorem dV_become_17 : decode bV_become 17 = .ok (.aload_n 1, 1) := by decide +kernel
theorem dV_become_18 : decode bV_become 18 = .ok (.getfield 19, 3) := by decide +kernel
theorem dV_become_21 : decode bV_become 21 = .ok (.putfield 19, 3) := by decide +kernel
theorem dV_become_24 : decode bV_become 24 = .ok (.return_, 1) := by decide +kernel
theorem dN_special_0 : decode bN_special 0 = .ok (.iload_n 1, 1) := by decide +kernel
theorem dN_special_1 : decode bN_special 1 = .ok (.invokestatic 26, 3) := by decide +kernel
theorem dN_special_4 : decode bN_special 4 = .ok (.ifCond .eq 13, 3) := by decide +kernel
theorem dN_special_7 : decode bN_special 7 = .ok (.iload_n 2, 1) := by decide +kernel
theorem dN_special_8 : decode bN_special 8 = .ok (.iconst 3, 1) := by decide +kernel
theorem dN_special_9 : decode bN_special 9 = .ok (.if_icmp .lt 8, 3) := by decide +kernel
theorem dN_special_12 : decode bN_special 12 = .ok (.iload_n 2, 1) := by decide +kernel
theorem dN_special_13 : decode bN_special 13 = .ok (.iconst 5, 1) := by decide +kernel
theorem dN_special_14 : decode bN_special 14 = .ok (.if_icmp .le 5, 3) := by decide +kernel
theorem dN_special_17 : decode bN_special 17 = .ok (.iconst 0, 1) := by decide +kernel
theorem dN_special_18 : decode bN_special 18 = .ok (.ireturn, 1) := by decide +kernel
theorem dN_special_19 : decode bN_special 19 = .ok (.aload_n 0, 1) := by decide +kernel
theorem dN_special_20 : decode bN_special 20 = .ok (.getfield 11, 3) := by decide +kernel
theorem dN_special_23 : decode bN_special 23 = .ok (.iload_n 1, 1) := by decide +kernel
theorem dN_special_24 : decode bN_special 24 = .ok (.aaload, 1) := by decide +kernel
theorem dN_special_25 : decode bN_special 25 = .ok (.iload_n 2, 1) := by decide +kernel
theorem dN_special_26 : decode bN_special 26 = .ok (.invokevirtual 50, 3) := by decide +kernel
theorem dN_special_29 : decode bN_special 29 = .ok (.iconst 1, 1) := by decide +kernel
theorem dN_special_30 : decode bN_special 30 = .ok (.ireturn, 1) := by decide +kernel
theorem dV_setSpecial_0 : decode bV_setSpecial 0 = .ok (.aload_n 0, 1) := by decide +kernel
theorem dV_setSpecial_1 : decode bV_setSpecial 1 = .ok (.iload_n 1, 1) := by decide +kernel
theorem dV_setSpecial_2 : decode bV_setSpecial 2 = .ok (.putfield 9, 3) := by decide +kernel
theorem dV_setSpecial_5 : decode bV_setSpecial 5 = .ok (.aload_n 0, 1) := by decide +kernel
theorem dV_setSpecial_6 : decode bV_setSpecial 6 = .ok (.lconst 0, 1) := by decide +kernel
theorem dV_setSpecial_7 : decode bV_setSpecial 7 = .ok (.putfield 15, 3) := by decide +kernel
theorem dV_setSpecial_10 : decode bV_setSpecial 10 = .ok (.aload_n 0, 1) := by decide +kernel
theorem dV_setSpecial_11 : decode bV_setSpecial 11 = .ok (.iconst 0, 1) := by decide +kernel
theorem dV_setSpecial_12 : decode bV_setSpecial 12 = .ok (.putfield 19, 3) := by decide +kernel
theorem dV_setSpecial_15 : decode bV_setSpecial 15 = .ok (.return_, 1) := by decide +kernel
theorem dN_operate_0 : decode bN_operate 0 = .ok (.iload_n 2, 1) := by decide +kernel
theorem dN_operate_1 : decode bN_operate 1 = .ok (.invokestatic 26, 3) := by decide +kernel
theorem dN_operate_4 : decode bN_operate 4 = .ok (.ifCond .eq 28, 3) := by decide +kernel
theorem dN_operate_7 : decode bN_operate 7 = .ok (.iload_n 3, 1) := by decide +kernel
theorem dN_operate_8 : decode bN_operate 8 = .ok (.invokestatic 26, 3) := by decide +kernel
theorem dN_operate_11 : decode bN_operate 11 = .ok (.ifCond .eq 21, 3) := by decide +kernel
theorem dN_operate_14 : decode bN_operate 14 = .ok (.iload 4, 2) := by decide +kernel
theorem dN_operate_16 : decode bN_operate 16 = .ok (.invokestatic 26, 3) := by decide +kernel
theorem dN_operate_19 : decode bN_operate 19 = .ok (.ifCond .eq 13, 3) := by decide +kernel
theorem dN_operate_22 : decode bN_operate 22 = .ok (.iload_n 1, 1) := by decide +kernel
theorem dN_operate_23 : decode bN_operate 23 = .ok (.ifCond .lt 9, 3) := by decide +kernel
theorem dN_operate_26 : decode bN_operate 26 = .ok (.iload_n 1, 1) := by decide +kernel
theorem dN_operate_27 : decode bN_operate 27 = .ok (.bipush 17, 2) := by decide +kernel
theorem dN_operate_29 : decode bN_operate 29 = .ok (.if_icmp .le 5, 3) := by decide +kernel
theorem dN_operate_32 : decode bN_operate 32 = .ok (.iconst (-1), 1) := by decide +kernel
theorem dN_operate_33 : decode bN_operate 33 = .ok (.ireturn, 1) := by decide +kernel
theorem dN_operate_34 : decode bN_operate 34 = .ok (.aload_n 0, 1) := by decide +kernel
theorem dN_operate_35 : decode bN_operate 35 = .ok (.getfield 16, 3) := by decide +kernel
theorem dN_operate_38 : decode bN_operate 38 = .ok (.aload_n 0, 1) := by decide +kernel
theorem dN_operate_39 : decode bN_operate 39 = .ok (.getfield 11, 3) := by decide +kernel
theorem dN_operate_42 : decode bN_operate 42 = .ok (.iload_n 3, 1) := by decide +kernel
theorem dN_operate_43 : decode bN_operate 43 = .ok (.aaload, 1) := by decide +kernel
theorem dN_operate_44 : decode bN_operate 44 = .ok (.invokevirtual 46, 3) := by decide +kernel
theorem dN_operate_47 : decode bN_operate 47 = .ok (.aload_n 0, 1) := by decide +kernel
theorem dN_operate_48 : decode bN_operate 48 = .ok (.getfield 20, 3) := by decide +kernel
theorem dN_operate_51 : decode bN_operate 51 = .ok (.aload_n 0, 1) := by decide +kernel
theorem dN_operate_52 : decode bN_operate 52 = .ok (.getfield 11, 3) := by decide +kernel
theorem dN_operate_55 : decode bN_operate 55 = .ok (.iload 4, 2) := by decide +kernel
theorem dN_operate_57 : decode bN_operate 57 = .ok (.aaload, 1) := by decide +kernel
theorem dN_operate_58 : decode bN_operate 58 = .ok (.invokevirtual 46, 3) := by decide +kernel
theorem dN_operate_61 : decode bN_operate 61 = .ok (.iload_n 1, 1) := by decide +kernel
theorem dN_operate_62 : decode bN_operate 62 = .ok (.iconst 2, 1) := by decide +kernel
theorem dN_operate_63 : decode bN_operate 63 = .ok (.if_icmp .gt 13, 3) := by decide +kernel
theorem dN_operate_66 : decode bN_operate 66 = .ok (.aload_n 0, 1) := by decide +kernel
theorem dN_operate_67 : decode bN_operate 67 = .ok (.iload_n 1, 1) := by decide +kernel
theorem dN_operate_68 : decode bN_operate 68 = .ok (.invokevirtual 54, 3) := by decide +kernel
theorem dN_operate_71 : decode bN_operate 71 = .ok (.istore 5, 2) := by decide +kernel
theorem dN_operate_73 : decode bN_operate 73 = .ok (.goto 56, 3) := by decide +kernel
theorem dN_operate_76 : decode bN_operate 76 = .ok (.iload_n 1, 1) := by decide +kernel
theorem dN_operate_77 : decode bN_operate 77 = .ok (.iconst 5, 1) := by decide +kernel
theorem dN_operate_78 : decode bN_operate 78 = .ok (.if_icmp .gt 13, 3) := by decide +kernel
theorem dN_operate_81 : decode bN_operate 81 = .ok (.aload_n 0, 1) := by decide +kernel
theorem dN_operate_82 : decode bN_operate 82 = .ok (.iload_n 1, 1) := by decide +kernel
theorem dN_operate_83 : decode bN_operate 83 = .ok (.invokevirtual 58, 3) := by decide +kernel
theorem dN_operate_86 : decode bN_operate 86 = .ok (.istore 5, 2) := by decide +kernel
theorem dN_operate_88 : decode bN_operate 88 = .ok (.goto 41, 3) := by decide +kernel
theorem dN_operate_91 : decode bN_operate 91 = .ok (.iload_n 1, 1) := by decide +kernel
theorem dN_operate_92 : decode bN_operate 92 = .ok (.bipush 6, 2) := by decide +kernel
theorem dN_operate_94 : decode bN_operate 94 = .ok (.if_icmp .ne 12, 3) := by decide +kernel
theorem dN_operate_97 : decode bN_operate 97 = .ok (.aload_n 0, 1) := by decide +kernel
theorem dN_operate_98 : decode bN_operate 98 = .ok (.invokevirtual 61, 3) := by decide +kernel
theorem dN_operate_101 : decode bN_operate 101 = .ok (.istore 5, 2) := by decide +kernel
theorem dN_operate_103 : decode bN_operate 103 = .ok (.goto 26, 3) := by decide +kernel
theorem dN_operate_106 : decode bN_operate 106 = .ok (.iload_n 1, 1) := by decide +kernel
theorem dN_operate_107 : decode bN_operate 107 = .ok (.bipush 11, 2) := by decide +kernel
theorem dN_operate_109 : decode bN_operate 109 = .ok (.if_icmp .gt 13, 3) := by decide +kernel
theorem dN_operate_112 : decode bN_operate 112 = .ok (.aload_n 0, 1) := by decide +kernel
theorem dN_operate_113 : decode bN_operate 113 = .ok (.iload_n 1, 1) := by decide +kernel
theorem dN_operate_114 : decode bN_operate 114 = .ok (.invokevirtual 65, 3) := by decide +kernel
theorem dN_operate_117 : decode bN_operate 117 = .ok (.istore 5, 2) := by decide +kernel
theorem dN_operate_119 : decode bN_operate 119 = .ok (.goto 10, 3) := by decide +kernel
theorem dN_operate_122 : decode bN_operate 122 = .ok (.aload_n 0, 1) := by decide +kernel
theorem dN_operate_123 : decode bN_operate 123 = .ok (.iload_n 1, 1) := by decide +kernel
theorem dN_operate_124 : decode bN_operate 124 = .ok (.invokevirtual 68, 3) := by decide +kernel
theorem dN_operate_127 : decode bN_operate 127 = .ok (.istore 5, 2) := by decide +kernel
theorem dN_operate_129 : decode bN_operate 129 = .ok (.iload 5, 2) := by decide +kernel
theorem dN_operate_131 : decode bN_operate 131 = .ok (.ifCond .ne 16, 3) := by decide +kernel
theorem dN_operate_134 : decode bN_operate 134 = .ok (.aload_n 0, 1) := by decide +kernel
theorem dN_operate_135 : decode bN_operate 135 = .ok (.getfield 11, 3) := by decide +kernel
theorem dN_operate_138 : decode bN_operate 138 = .ok (.iload_n 2, 1) := by decide +kernel
theorem dN_operate_139 : decode bN_operate 139 = .ok (.aaload, 1) := by decide +kernel
theorem dN_operate_140 : decode bN_operate 140 = .ok (.aload_n 0, 1) := by decide +kernel
theorem dN_operate_141 : decode bN_operate 141 = .ok (.getfield 16, 3) := by decide +kernel
theorem dN_operate_144 : decode bN_operate 144 = .ok (.invokevirtual 46, 3) := by decide +kernel
theorem dN_operate_147 : decode bN_operate 147 = .ok (.iload 5, 2) := by decide +kernel
theorem dN_operate_149 : decode bN_operate 149 = .ok (.ireturn, 1) := by decide +kernel
theorem dN_addOrMultiply_0 : decode bN_addOrMultiply 0 = .ok (.aload_n 0, 1) := by decide +kernel
theorem dN_addOrMultiply_1 : decode bN_addOrMultiply 1 = .ok (.invokevirtual 95, 3) := by decide +kernel
theorem dN_addOrMultiply_4 : decode bN_addOrMultiply 4 = .ok (.ifCond .eq 56, 3) := by decide +kernel
theorem dN_addOrMultiply_7 : decode bN_addOrMultiply 7 = .ok (.aload_n 0, 1) := by decide +kernel
theorem dN_addOrMultiply_8 : decode bN_addOrMultiply 8 = .ok (.getfield 16, 3) := by decide +kernel
theorem dN_addOrMultiply_11 : decode bN_addOrMultiply 11 = .ok (.getfield 38, 3) := by decide +kernel
theorem dN_addOrMultiply_14 : decode bN_addOrMultiply 14 = .ok (.lstore_n 2, 1) := by decide +kernel
theorem dN_addOrMultiply_15 : decode bN_addOrMultiply 15 = .ok (.aload_n 0, 1) := by decide +kernel
theorem dN_addOrMultiply_16 : decode bN_addOrMultiply 16 = .ok (.getfield 20, 3) := by decide +kernel
theorem dN_addOrMultiply_19 : decode bN_addOrMultiply 19 = .ok (.getfield 38, 3) := by decide +kernel
theorem dN_addOrMultiply_22 : decode bN_addOrMultiply 22 = .ok (.lstore 4, 2) := by decide +kernel
theorem dN_addOrMultiply_24 : decode bN_addOrMultiply 24 = .ok (.aload_n 0, 1) := by decide +kernel
theorem dN_addOrMultiply_25 : decode bN_addOrMultiply 25 = .ok (.getfield 16, 3) := by decide +kernel
theorem dN_addOrMultiply_28 : decode bN_addOrMultiply 28 = .ok (.iload_n 1, 1) := by decide +kernel
theorem dN_addOrMultiply_29 : decode bN_addOrMultiply 29 = .ok (.ifCond .ne 10, 3) := by decide +kernel
theorem dN_addOrMultiply_32 : decode bN_addOrMultiply 32 = .ok (.lload_n 2, 1) := by decide +kernel
theorem dN_addOrMultiply_33 : decode bN_addOrMultiply 33 = .ok (.lload 4, 2) := by decide +kernel
theorem dN_addOrMultiply_35 : decode bN_addOrMultiply 35 = .ok (.ladd, 1) := by decide +kernel
theorem dN_addOrMultiply_36 : decode bN_addOrMultiply 36 = .ok (.goto 19, 3) := by decide +kernel
theorem dN_addOrMultiply_39 : decode bN_addOrMultiply 39 = .ok (.iload_n 1, 1) := by decide +kernel
theorem dN_addOrMultiply_40 : decode bN_addOrMultiply 40 = .ok (.iconst 1, 1) := by decide +kernel
theorem dN_addOrMultiply_41 : decode bN_addOrMultiply 41 = .ok (.if_icmp .ne 10, 3) := by decide +kernel
theorem dN_addOrMultiply_44 : decode bN_addOrMultiply 44 = .ok (.lload_n 2, 1) := by decide +kernel
theorem dN_addOrMultiply_45 : decode bN_addOrMultiply 45 = .ok (.lload 4, 2) := by decide +kernel
theorem dN_addOrMultiply_47 : decode bN_addOrMultiply 47 = .ok (.lsub, 1) := by decide +kernel
theorem dN_addOrMultiply_48 : decode bN_addOrMultiply 48 = .ok (.goto 7, 3) := by decide +kernel
theorem dN_addOrMultiply_51 : decode bN_addOrMultiply 51 = .ok (.lload_n 2, 1) := by decide +kernel
theorem dN_addOrMultiply_52 : decode bN_addOrMultiply 52 = .ok (.lload 4, 2) := by decide +kernel
theorem dN_addOrMultiply_54 : decode bN_addOrMultiply 54 = .ok (.lmul, 1) := by decide +kernel
theorem dN_addOrMultiply_55 : decode bN_addOrMultiply 55 = .ok (.invokevirtual 30, 3) := by decide +kernel
theorem dN_addOrMultiply_58 : decode bN_addOrMultiply 58 = .ok (.iconst 0, 1) := by decide +kernel
theorem dN_addOrMultiply_59 : decode bN_addOrMultiply 59 = .ok (.ireturn, 1) := by decide +kernel
theorem dN_addOrMultiply_60 : decode bN_addOrMultiply 60 = .ok (.aload_n 0, 1) := by decide +kernel
theorem dN_addOrMultiply_61 : decode bN_addOrMultiply 61 = .ok (.invokevirtual 99, 3) := by decide +kernel
theorem dN_addOrMultiply_64 : decode bN_addOrMultiply 64 = .ok (.iload_n 1, 1) := by decide +kernel
theorem dN_addOrMultiply_65 : decode bN_addOrMultiply 65 = .ok (.iconst 2, 1) := by decide +kernel
theorem dN_addOrMultiply_66 : decode bN_addOrMultiply 66 = .ok (.if_icmp .ne 16, 3) := by decide +kernel
theorem dN_addOrMultiply_69 : decode bN_addOrMultiply 69 = .ok (.aload_n 0, 1) := by decide +kernel
theorem dN_addOrMultiply_70 : decode bN_addOrMultiply 70 = .ok (.getfield 16, 3) := by decide +kernel
theorem dN_addOrMultiply_73 : decode bN_addOrMultiply 73 = .ok (.aload_n 0, 1) := by decide +kernel
theorem dN_addOrMultiply_74 : decode bN_addOrMultiply 74 = .ok (.getfield 20, 3) := by decide +kernel
theorem dN_addOrMultiply_77 : decode bN_addOrMultiply 77 = .ok (.invokestatic 102, 3) := by decide +kernel
theorem dN_addOrMultiply_80 : decode bN_addOrMultiply 80 = .ok (.iconst 0, 1) := by decide +kernel
theorem dN_addOrMultiply_81 : decode bN_addOrMultiply 81 = .ok (.ireturn, 1) := by decide +kernel
theorem dN_addOrMultiply_82 : decode bN_addOrMultiply 82 = .ok (.iload_n 1, 1) := by decide +kernel
theorem dN_addOrMultiply_83 : decode bN_addOrMultiply 83 = .ok (.iconst 1, 1) := by decide +kernel
theorem dN_addOrMultiply_84 : decode bN_addOrMultiply 84 = .ok (.if_icmp .ne 10, 3) := by decide +kernel
theorem dN_addOrMultiply_87 : decode bN_addOrMultiply 87 = .ok (.aload_n 0, 1) := by decide +kernel
theorem dN_addOrMultiply_88 : decode bN_addOrMultiply 88 = .ok (.getfield 20, 3) := by decide +kernel
theorem dN_addOrMultiply_91 : decode bN_addOrMultiply 91 = .ok (.invokevirtual 108, 3) := by decide +kernel
theorem dN_addOrMultiply_94 : decode bN_addOrMultiply 94 = .ok (.aload_n 0, 1) := by decide +kernel
theorem dN_addOrMultiply_95 : decode bN_addOrMultiply 95 = .ok (.getfield 16, 3) := by decide +kernel
theorem dN_addOrMultiply_98 : decode bN_addOrMultiply 98 = .ok (.aload_n 0, 1) := by decide +kernel
theorem dN_addOrMultiply_99 : decode bN_addOrMultiply 99 = .ok (.getfield 20, 3) := by decide +kernel
theorem dN_addOrMultiply_102 : decode bN_addOrMultiply 102 = .ok (.invokestatic 111, 3) := by decide +kernel
theorem dN_addOrMultiply_105 : decode bN_addOrMultiply 105 = .ok (.iconst 0, 1) := by decide +kernel
theorem dN_addOrMultiply_106 : decode bN_addOrMultiply 106 = .ok (.ireturn, 1) := by decide +kernel
theorem dN_areWhole_0 : decode bN_areWhole 0 = .ok (.aload_n 0, 1) := by decide +kernel
theorem dN_areWhole_1 : decode bN_areWhole 1 = .ok (.getfield 16, 3) := by decide +kernel
theorem dN_areWhole_4 : decode bN_areWhole 4 = .ok (.getfield 71, 3) := by decide +kernel
theorem dN_areWhole_7 : decode bN_areWhole 7 = .ok (.iconst 1, 1) := by decide +kernel
theorem dN_areWhole_8 : decode bN_areWhole 8 = .ok (.if_icmp .ne 18, 3) := by decide +kernel
theorem dN_areWhole_11 : decode bN_areWhole 11 = .ok (.aload_n 0, 1) := by decide +kernel
theorem dN_areWhole_12 : decode bN_areWhole 12 = .ok (.getfield 20, 3) := by decide +kernel
theorem dN_areWhole_15 : decode bN_areWhole 15 = .ok (.getfield 71, 3) := by decide +kernel
theorem dN_areWhole_18 : decode bN_areWhole 18 = .ok (.iconst 1, 1) := by decide +kernel
theorem dN_areWhole_19 : decode bN_areWhole 19 = .ok (.if_icmp .ne 7, 3) := by decide +kernel
theorem dN_areWhole_22 : decode bN_areWhole 22 = .ok (.iconst 1, 1) := by decide +kernel
theorem dN_areWhole_23 : decode bN_areWhole 23 = .ok (.goto 4, 3) := by decide +kernel
theorem dN_areWhole_26 : decode bN_areWhole 26 = .ok (.iconst 0, 1) := by decide +kernel
theorem dN_areWhole_27 : decode bN_areWhole 27 = .ok (.ireturn, 1) := by decide +kernel
theorem dN_makeReals_0 : decode bN_makeReals 0 = .ok (.aload_n 0, 1) := by decide +kernel
theorem dN_makeReals_1 : decode bN_makeReals 1 = .ok (.getfield 16, 3) := by decide +kernel
theorem dN_makeReals_4 : decode bN_makeReals 4 = .ok (.invokevirtual 92, 3) := by decide +kernel
theorem dN_makeReals_7 : decode bN_makeReals 7 = .ok (.aload_n 0, 1) := by decide +kernel
theorem dN_makeReals_8 : decode bN_makeReals 8 = .ok (.getfield 20, 3) := by decide +kernel
theorem dN_makeReals_11 : decode bN_makeReals 11 = .ok (.invokevirtual 92, 3) := by decide +kernel
theorem dN_makeReals_14 : decode bN_makeReals 14 = .ok (.return_, 1) := by decide +kernel
theorem dV_turnReal_0 : decode bV_turnReal 0 = .ok (.aload_n 0, 1) := by decide +kernel
theorem dV_turnReal_1 : decode bV_turnReal 1 = .ok (.getfield 9, 3) := by decide +kernel
theorem dV_turnReal_4 : decode bV_turnReal 4 = .ok (.iconst 1, 1) := by decide +kernel
theorem dV_turnReal_5 : decode bV_turnReal 5 = .ok (.if_icmp .ne 27, 3) := by decide +kernel
theorem dV_turnReal_8 : decode bV_turnReal 8 = .ok (.aload_n 0, 1) := by decide +kernel
theorem dV_turnReal_9 : decode bV_turnReal 9 = .ok (.aload_n 0, 1) := by decide +kernel
theorem dV_turnReal_10 : decode bV_turnReal 10 = .ok (.getfield 15, 3) := by decide +kernel
theorem dV_turnReal_13 : decode bV_turnReal 13 = .ok (.lconst 0, 1) := by decide +kernel
theorem dV_turnReal_14 : decode bV_turnReal 14 = .ok (.lcmp, 1) := by decide +kernel
theorem dV_turnReal_15 : decode bV_turnReal 15 = .ok (.ifCond .ge 7, 3) := by decide +kernel
theorem dV_turnReal_18 : decode bV_turnReal 18 = .ok (.iconst 1, 1) := by decide +kernel
theorem dV_turnReal_19 : decode bV_turnReal 19 = .ok (.goto 4, 3) := by decide +kernel
theorem dV_turnReal_22 : decode bV_turnReal 22 = .ok (.iconst 0, 1) := by decide +kernel
theorem dV_turnReal_23 : decode bV_turnReal 23 = .ok (.aload_n 0, 1) := by decide +kernel
theorem dV_turnReal_24 : decode bV_turnReal 24 = .ok (.invokevirtual 59, 3) := by decide +kernel
theorem dV_turnReal_27 : decode bV_turnReal 27 = .ok (.iconst 0, 1) := by decide +kernel
theorem dV_turnReal_28 : decode bV_turnReal 28 = .ok (.iconst 0, 1) := by decide +kernel
theorem dV_turnReal_29 : decode bV_turnReal 29 = .ok (.invokevirtual 26, 3) := by decide +kernel
theorem dV_turnReal_32 : decode bV_turnReal 32 = .ok (.return_, 1) := by decide +kernel
theorem dV_size_0 : decode bV_size 0 = .ok (.aload_n 0, 1) := by decide +kernel
theorem dV_size_1 : decode bV_size 1 = .ok (.getfield 15, 3) := by decide +kernel
theorem dV_size_4 : decode bV_size 4 = .ok (.invokestatic 22, 3) := by decide +kernel
theorem dV_size_7 : decode bV_size 7 = .ok (.lreturn, 1) := by decide +kernel
theorem dR_multiply_0 : decode bR_multiply 0 = .ok (.aload_n 0, 1) := by decide +kernel
theorem dR_multiply_1 : decode bR_multiply 1 = .ok (.aload_n 1, 1) := by decide +kernel
theorem dR_multiply_2 : decode bR_multiply 2 = .ok (.invokestatic 17, 3) := by decide +kernel
theorem dR_multiply_5 : decode bR_multiply 5 = .ok (.ifCond .eq 9, 3) := by decide +kernel
theorem dR_multiply_8 : decode bR_multiply 8 = .ok (.aload_n 0, 1) := by decide +kernel
theorem dR_multiply_9 : decode bR_multiply 9 = .ok (.iconst 5, 1) := by decide +kernel
theorem dR_multiply_10 : decode bR_multiply 10 = .ok (.invokevirtual 21, 3) := by decide +kernel
theorem dR_multiply_13 : decode bR_multiply 13 = .ok (.return_, 1) := by decide +kernel
theorem dR_multiply_14 : decode bR_multiply 14 = .ok (.aload_n 0, 1) := by decide +kernel
theorem dR_multiply_15 : decode bR_multiply 15 = .ok (.invokevirtual 60, 3) := by decide +kernel
theorem dR_multiply_18 : decode bR_multiply 18 = .ok (.aload_n 1, 1) := by decide +kernel
theorem dR_multiply_19 : decode bR_multiply 19 = .ok (.invokevirtual 60, 3) := by decide +kernel
theorem dR_multiply_22 : decode bR_multiply 22 = .ok (.imul, 1) := by decide +kernel
theorem dR_multiply_23 : decode bR_multiply 23 = .ok (.istore_n 2, 1) := by decide +kernel
theorem dR_multiply_24 : decode bR_multiply 24 = .ok (.aload_n 0, 1) := by decide +kernel
theorem dR_multiply_25 : decode bR_multiply 25 = .ok (.invokevirtual 25, 3) := by decide +kernel
theorem dR_multiply_28 : decode bR_multiply 28 = .ok (.ifCond .ne 27, 3) := by decide +kernel
theorem dR_multiply_31 : decode bR_multiply 31 = .ok (.aload_n 1, 1) := by decide +kernel
theorem dR_multiply_32 : decode bR_multiply 32 = .ok (.invokevirtual 25, 3) := by decide +kernel
theorem dR_multiply_35 : decode bR_multiply 35 = .ok (.ifCond .ne 20, 3) := by decide +kernel
theorem dR_multiply_38 : decode bR_multiply 38 = .ok (.aload_n 0, 1) := by decide +kernel
theorem dR_multiply_39 : decode bR_multiply 39 = .ok (.aload_n 1, 1) := by decide +kernel
theorem dR_multiply_40 : decode bR_multiply 40 = .ok (.iload_n 2, 1) := by decide +kernel
theorem dR_multiply_41 : decode bR_multiply 41 = .ok (.ifCond .ge 7, 3) := by decide +kernel
theorem dR_multiply_44 : decode bR_multiply 44 = .ok (.iconst 1, 1) := by decide +kernel
theorem dR_multiply_45 : decode bR_multiply 45 = .ok (.goto 4, 3) := by decide +kernel
theorem dR_multiply_48 : decode bR_multiply 48 = .ok (.iconst 0, 1) := by decide +kernel
theorem dR_multiply_49 : decode bR_multiply 49 = .ok (.invokestatic 68, 3) := by decide +kernel
theorem dR_multiply_52 : decode bR_multiply 52 = .ok (.goto 28, 3) := by decide +kernel
theorem dR_multiply_55 : decode bR_multiply 55 = .ok (.iload_n 2, 1) := by decide +kernel
theorem dR_multiply_56 : decode bR_multiply 56 = .ok (.ifCond .ne 11, 3) := by decide +kernel
theorem dR_multiply_59 : decode bR_multiply 59 = .ok (.aload_n 0, 1) := by decide +kernel
theorem dR_multiply_60 : decode bR_multiply 60 = .ok (.iconst 5, 1) := by decide +kernel
theorem dR_multiply_61 : decode bR_multiply 61 = .ok (.invokevirtual 21, 3) := by decide +kernel
theorem dR_multiply_64 : decode bR_multiply 64 = .ok (.goto 16, 3) := by decide +kernel
theorem dR_multiply_67 : decode bR_multiply 67 = .ok (.aload_n 0, 1) := by decide +kernel
theorem dR_multiply_68 : decode bR_multiply 68 = .ok (.iload_n 2, 1) := by decide +kernel
theorem dR_multiply_69 : decode bR_multiply 69 = .ok (.ifCond .ge 7, 3) := by decide +kernel
theorem dR_multiply_72 : decode bR_multiply 72 = .ok (.iconst 1, 1) := by decide +kernel
theorem dR_multiply_73 : decode bR_multiply 73 = .ok (.goto 4, 3) := by decide +kernel
theorem dR_multiply_76 : decode bR_multiply 76 = .ok (.iconst 0, 1) := by decide +kernel
theorem dR_multiply_77 : decode bR_multiply 77 = .ok (.invokevirtual 72, 3) := by decide +kernel
theorem dR_multiply_80 : decode bR_multiply 80 = .ok (.return_, 1) := by decide +kernel
theorem dR_hasNoNumber_0 : decode bR_hasNoNumber 0 = .ok (.aload_n 0, 1) := by decide +kernel
theorem dR_hasNoNumber_1 : decode bR_hasNoNumber 1 = .ok (.getfield 11, 3) := by decide +kernel
theorem dR_hasNoNumber_4 : decode bR_hasNoNumber 4 = .ok (.iconst 5, 1) := by decide +kernel
theorem dR_hasNoNumber_5 : decode bR_hasNoNumber 5 = .ok (.if_icmp .eq 11, 3) := by decide +kernel
theorem dR_hasNoNumber_8 : decode bR_hasNoNumber 8 = .ok (.aload_n 1, 1) := by decide +kernel
theorem dR_hasNoNumber_9 : decode bR_hasNoNumber 9 = .ok (.getfield 11, 3) := by decide +kernel
theorem dR_hasNoNumber_12 : decode bR_hasNoNumber 12 = .ok (.iconst 5, 1) := by decide +kernel
theorem dR_hasNoNumber_13 : decode bR_hasNoNumber 13 = .ok (.if_icmp .ne 7, 3) := by decide +kernel
theorem dR_hasNoNumber_16 : decode bR_hasNoNumber 16 = .ok (.iconst 1, 1) := by decide +kernel
theorem dR_hasNoNumber_17 : decode bR_hasNoNumber 17 = .ok (.goto 4, 3) := by decide +kernel
theorem dR_hasNoNumber_20 : decode bR_hasNoNumber 20 = .ok (.iconst 0, 1) := by decide +kernel
theorem dR_hasNoNumber_21 : decode bR_hasNoNumber 21 = .ok (.ireturn, 1) := by decide +kernel
theorem dV_sign_0 : decode bV_sign 0 = .ok (.aload_n 0, 1) := by decide +kernel
theorem dV_sign_1 : decode bV_sign 1 = .ok (.invokevirtual 63, 3) := by decide +kernel
theorem dV_sign_4 : decode bV_sign 4 = .ok (.ifCond .eq 17, 3) := by decide +kernel
theorem dV_sign_7 : decode bV_sign 7 = .ok (.aload_n 0, 1) := by decide +kernel
theorem dV_sign_8 : decode bV_sign 8 = .ok (.getfield 9, 3) := by decide +kernel
theorem dV_sign_11 : decode bV_sign 11 = .ok (.iconst 3, 1) := by decide +kernel
theorem dV_sign_12 : decode bV_sign 12 = .ok (.if_icmp .ne 7, 3) := by decide +kernel
theorem dV_sign_15 : decode bV_sign 15 = .ok (.iconst 1, 1) := by decide +kernel
theorem dV_sign_16 : decode bV_sign 16 = .ok (.goto 4, 3) := by decide +kernel
theorem dV_sign_19 : decode bV_sign 19 = .ok (.iconst (-1), 1) := by decide +kernel
theorem dV_sign_20 : decode bV_sign 20 = .ok (.ireturn, 1) := by decide +kernel
theorem dV_sign_21 : decode bV_sign 21 = .ok (.aload_n 0, 1) := by decide +kernel
theorem dV_sign_22 : decode bV_sign 22 = .ok (.getfield 15, 3) := by decide +kernel
theorem dV_sign_25 : decode bV_sign 25 = .ok (.invokestatic 74, 3) := by decide +kernel
theorem dV_sign_28 : decode bV_sign 28 = .ok (.ireturn, 1) := by decide +kernel
theorem dV_isInfinite_0 : decode bV_isInfinite 0 = .ok (.aload_n 0, 1) := by decide +kernel
theorem dV_isInfinite_1 : decode bV_isInfinite 1 = .ok (.getfield 9, 3) := by decide +kernel
theorem dV_isInfinite_4 : decode bV_isInfinite 4 = .ok (.iconst 3, 1) := by decide +kernel
theorem dV_isInfinite_5 : decode bV_isInfinite 5 = .ok (.if_icmp .eq 11, 3) := by decide +kernel
theorem dV_isInfinite_8 : decode bV_isInfinite 8 = .ok (.aload_n 0, 1) := by decide +kernel
theorem dV_isInfinite_9 : decode bV_isInfinite 9 = .ok (.getfield 9, 3) := by decide +kernel
theorem dV_isInfinite_12 : decode bV_isInfinite 12 = .ok (.iconst 4, 1) := by decide +kernel
theorem dV_isInfinite_13 : decode bV_isInfinite 13 = .ok (.if_icmp .ne 7, 3) := by decide +kernel
theorem dV_isInfinite_16 : decode bV_isInfinite 16 = .ok (.iconst 1, 1) := by decide +kernel
theorem dV_isInfinite_17 : decode bV_isInfinite 17 = .ok (.goto 4, 3) := by decide +kernel
theorem dV_isInfinite_20 : decode bV_isInfinite 20 = .ok (.iconst 0, 1) := by decide +kernel
theorem dV_isInfinite_21 : decode bV_isInfinite 21 = .ok (.ireturn, 1) := by decide +kernel
theorem dJL_signum_0 : decode bJL_signum 0 = .ok (.lload_n 0, 1) := by decide +kernel
theorem dJL_signum_1 : decode bJL_signum 1 = .ok (.bipush 63, 2) := by decide +kernel
theorem dJL_signum_3 : decode bJL_signum 3 = .ok (.lshr, 1) := by decide +kernel
theorem dJL_signum_4 : decode bJL_signum 4 = .ok (.lload_n 0, 1) := by decide +kernel
theorem dJL_signum_5 : decode bJL_signum 5 = .ok (.lneg, 1) := by decide +kernel
theorem dJL_signum_6 : decode bJL_signum 6 = .ok (.bipush 63, 2) := by decide +kernel
theorem dJL_signum_8 : decode bJL_signum 8 = .ok (.lushr, 1) := by decide +kernel
theorem dJL_signum_9 : decode bJL_signum 9 = .ok (.lor, 1) := by decide +kernel
theorem dJL_signum_10 : decode bJL_signum 10 = .ok (.l2i, 1) := by decide +kernel
theorem dJL_signum_11 : decode bJL_signum 11 = .ok (.ireturn, 1) := by decide +kernel
theorem dR_multiplyFinite_0 : decode bR_multiplyFinite 0 = .ok (.aload_n 0, 1) := by decide +kernel
theorem dR_multiplyFinite_1 : decode bR_multiplyFinite 1 = .ok (.invokevirtual 47, 3) := by decide +kernel
theorem dR_multiplyFinite_4 : decode bR_multiplyFinite 4 = .ok (.bipush 27, 2) := by decide +kernel
theorem dR_multiplyFinite_6 : decode bR_multiplyFinite 6 = .ok (.lushr, 1) := by decide +kernel
theorem dR_multiplyFinite_7 : decode bR_multiplyFinite 7 = .ok (.lstore_n 3, 1) := by decide +kernel
theorem dR_multiplyFinite_8 : decode bR_multiplyFinite 8 = .ok (.aload_n 0, 1) := by decide +kernel
theorem dR_multiplyFinite_9 : decode bR_multiplyFinite 9 = .ok (.invokevirtual 47, 3) := by decide +kernel
theorem dR_multiplyFinite_12 : decode bR_multiplyFinite 12 = .ok (.ldc2_w 76, 3) := by decide +kernel
theorem dR_multiplyFinite_15 : decode bR_multiplyFinite 15 = .ok (.land, 1) := by decide +kernel
theorem dR_multiplyFinite_16 : decode bR_multiplyFinite 16 = .ok (.lstore 5, 2) := by decide +kernel
theorem dR_multiplyFinite_18 : decode bR_multiplyFinite 18 = .ok (.aload_n 1, 1) := by decide +kernel
theorem dR_multiplyFinite_19 : decode bR_multiplyFinite 19 = .ok (.invokevirtual 47, 3) := by decide +kernel
theorem dR_multiplyFinite_22 : decode bR_multiplyFinite 22 = .ok (.bipush 27, 2) := by decide +kernel
theorem dR_multiplyFinite_24 : decode bR_multiplyFinite 24 = .ok (.lushr, 1) := by decide +kernel
theorem dR_multiplyFinite_25 : decode bR_multiplyFinite 25 = .ok (.lstore 7, 2) := by decide +kernel
theorem dR_multiplyFinite_27 : decode bR_multiplyFinite 27 = .ok (.aload_n 1, 1) := by decide +kernel
theorem dR_multiplyFinite_28 : decode bR_multiplyFinite 28 = .ok (.invokevirtual 47, 3) := by decide +kernel
theorem dR_multiplyFinite_31 : decode bR_multiplyFinite 31 = .ok (.ldc2_w 76, 3) := by decide +kernel
theorem dR_multiplyFinite_34 : decode bR_multiplyFinite 34 = .ok (.land, 1) := by decide +kernel
theorem dR_multiplyFinite_35 : decode bR_multiplyFinite 35 = .ok (.lstore 9, 2) := by decide +kernel
theorem dR_multiplyFinite_37 : decode bR_multiplyFinite 37 = .ok (.lload_n 3, 1) := by decide +kernel
theorem dR_multiplyFinite_38 : decode bR_multiplyFinite 38 = .ok (.lload 9, 2) := by decide +kernel
theorem dR_multiplyFinite_40 : decode bR_multiplyFinite 40 = .ok (.lmul, 1) := by decide +kernel
theorem dR_multiplyFinite_41 : decode bR_multiplyFinite 41 = .ok (.lload 5, 2) := by decide +kernel
theorem dR_multiplyFinite_43 : decode bR_multiplyFinite 43 = .ok (.lload 7, 2) := by decide +kernel
theorem dR_multiplyFinite_45 : decode bR_multiplyFinite 45 = .ok (.lmul, 1) := by decide +kernel
theorem dR_multiplyFinite_46 : decode bR_multiplyFinite 46 = .ok (.ladd, 1) := by decide +kernel
theorem dR_multiplyFinite_47 : decode bR_multiplyFinite 47 = .ok (.lstore 11, 2) := by decide +kernel
theorem dR_multiplyFinite_49 : decode bR_multiplyFinite 49 = .ok (.lload 5, 2) := by decide +kernel
theorem dR_multiplyFinite_51 : decode bR_multiplyFinite 51 = .ok (.lload 9, 2) := by decide +kernel
theorem dR_multiplyFinite_53 : decode bR_multiplyFinite 53 = .ok (.lmul, 1) := by decide +kernel
theorem dR_multiplyFinite_54 : decode bR_multiplyFinite 54 = .ok (.lload 11, 2) := by decide +kernel
theorem dR_multiplyFinite_56 : decode bR_multiplyFinite 56 = .ok (.ldc2_w 76, 3) := by decide +kernel
theorem dR_multiplyFinite_59 : decode bR_multiplyFinite 59 = .ok (.land, 1) := by decide +kernel
theorem dR_multiplyFinite_60 : decode bR_multiplyFinite 60 = .ok (.bipush 27, 2) := by decide +kernel
theorem dR_multiplyFinite_62 : decode bR_multiplyFinite 62 = .ok (.lshl, 1) := by decide +kernel
theorem dR_multiplyFinite_63 : decode bR_multiplyFinite 63 = .ok (.ladd, 1) := by decide +kernel
theorem dR_multiplyFinite_64 : decode bR_multiplyFinite 64 = .ok (.lstore 13, 2) := by decide +kernel
theorem dR_multiplyFinite_66 : decode bR_multiplyFinite 66 = .ok (.lload_n 3, 1) := by decide +kernel
theorem dR_multiplyFinite_67 : decode bR_multiplyFinite 67 = .ok (.lload 7, 2) := by decide +kernel
theorem dR_multiplyFinite_69 : decode bR_multiplyFinite 69 = .ok (.lmul, 1) := by decide +kernel
theorem dR_multiplyFinite_70 : decode bR_multiplyFinite 70 = .ok (.lload 11, 2) := by decide +kernel
theorem dR_multiplyFinite_72 : decode bR_multiplyFinite 72 = .ok (.bipush 27, 2) := by decide +kernel
theorem dR_multiplyFinite_74 : decode bR_multiplyFinite 74 = .ok (.lushr, 1) := by decide +kernel
theorem dR_multiplyFinite_75 : decode bR_multiplyFinite 75 = .ok (.ladd, 1) := by decide +kernel
theorem dR_multiplyFinite_76 : decode bR_multiplyFinite 76 = .ok (.lload 13, 2) := by decide +kernel
theorem dR_multiplyFinite_78 : decode bR_multiplyFinite 78 = .ok (.bipush 54, 2) := by decide +kernel
theorem dR_multiplyFinite_80 : decode bR_multiplyFinite 80 = .ok (.lushr, 1) := by decide +kernel
theorem dR_multiplyFinite_81 : decode bR_multiplyFinite 81 = .ok (.ladd, 1) := by decide +kernel
theorem dR_multiplyFinite_82 : decode bR_multiplyFinite 82 = .ok (.lstore 15, 2) := by decide +kernel
theorem dR_multiplyFinite_84 : decode bR_multiplyFinite 84 = .ok (.lload 13, 2) := by decide +kernel
theorem dR_multiplyFinite_86 : decode bR_multiplyFinite 86 = .ok (.ldc2_w 78, 3) := by decide +kernel
theorem dR_multiplyFinite_89 : decode bR_multiplyFinite 89 = .ok (.land, 1) := by decide +kernel
theorem dR_multiplyFinite_90 : decode bR_multiplyFinite 90 = .ok (.lstore 13, 2) := by decide +kernel
theorem dR_multiplyFinite_92 : decode bR_multiplyFinite 92 = .ok (.lload 15, 2) := by decide +kernel
theorem dR_multiplyFinite_94 : decode bR_multiplyFinite 94 = .ok (.invokestatic 51, 3) := by decide +kernel
theorem dR_multiplyFinite_97 : decode bR_multiplyFinite 97 = .ok (.iconst 1, 1) := by decide +kernel
theorem dR_multiplyFinite_98 : decode bR_multiplyFinite 98 = .ok (.isub, 1) := by decide +kernel
theorem dR_multiplyFinite_99 : decode bR_multiplyFinite 99 = .ok (.bipush 54, 2) := by decide +kernel
theorem dR_multiplyFinite_101 : decode bR_multiplyFinite 101 = .ok (.invokestatic 80, 3) := by decide +kernel
theorem dR_multiplyFinite_104 : decode bR_multiplyFinite 104 = .ok (.istore 17, 2) := by decide +kernel
theorem dR_multiplyFinite_106 : decode bR_multiplyFinite 106 = .ok (.bipush 54, 2) := by decide +kernel
theorem dR_multiplyFinite_108 : decode bR_multiplyFinite 108 = .ok (.iload 17, 2) := by decide +kernel
theorem dR_multiplyFinite_110 : decode bR_multiplyFinite 110 = .ok (.isub, 1) := by decide +kernel
theorem dR_multiplyFinite_111 : decode bR_multiplyFinite 111 = .ok (.istore 18, 2) := by decide +kernel
theorem dR_multiplyFinite_113 : decode bR_multiplyFinite 113 = .ok (.lload 13, 2) := by decide +kernel
theorem dR_multiplyFinite_115 : decode bR_multiplyFinite 115 = .ok (.iload 18, 2) := by decide +kernel
theorem dR_multiplyFinite_117 : decode bR_multiplyFinite 117 = .ok (.lushr, 1) := by decide +kernel
theorem dR_multiplyFinite_118 : decode bR_multiplyFinite 118 = .ok (.lstore 19, 2) := by decide +kernel
theorem dR_multiplyFinite_120 : decode bR_multiplyFinite 120 = .ok (.lload 19, 2) := by decide +kernel
theorem dR_multiplyFinite_122 : decode bR_multiplyFinite 122 = .ok (.iload 18, 2) := by decide +kernel
theorem dR_multiplyFinite_124 : decode bR_multiplyFinite 124 = .ok (.lshl, 1) := by decide +kernel
theorem dR_multiplyFinite_125 : decode bR_multiplyFinite 125 = .ok (.lload 13, 2) := by decide +kernel
theorem dR_multiplyFinite_127 : decode bR_multiplyFinite 127 = .ok (.lcmp, 1) := by decide +kernel
theorem dR_multiplyFinite_128 : decode bR_multiplyFinite 128 = .ok (.ifCond .eq 7, 3) := by decide +kernel
theorem dR_multiplyFinite_131 : decode bR_multiplyFinite 131 = .ok (.iconst 1, 1) := by decide +kernel
theorem dR_multiplyFinite_132 : decode bR_multiplyFinite 132 = .ok (.goto 4, 3) := by decide +kernel
theorem dR_multiplyFinite_135 : decode bR_multiplyFinite 135 = .ok (.iconst 0, 1) := by decide +kernel
theorem dR_multiplyFinite_136 : decode bR_multiplyFinite 136 = .ok (.istore 21, 2) := by decide +kernel
theorem dR_multiplyFinite_138 : decode bR_multiplyFinite 138 = .ok (.aload_n 0, 1) := by decide +kernel
theorem dR_multiplyFinite_139 : decode bR_multiplyFinite 139 = .ok (.iload_n 2, 1) := by decide +kernel
theorem dR_multiplyFinite_140 : decode bR_multiplyFinite 140 = .ok (.lload 15, 2) := by decide +kernel
theorem dR_multiplyFinite_142 : decode bR_multiplyFinite 142 = .ok (.iload 17, 2) := by decide +kernel
theorem dR_multiplyFinite_144 : decode bR_multiplyFinite 144 = .ok (.lshl, 1) := by decide +kernel
theorem dR_multiplyFinite_145 : decode bR_multiplyFinite 145 = .ok (.lload 19, 2) := by decide +kernel
theorem dR_multiplyFinite_147 : decode bR_multiplyFinite 147 = .ok (.ladd, 1) := by decide +kernel
theorem dR_multiplyFinite_148 : decode bR_multiplyFinite 148 = .ok (.iload 21, 2) := by decide +kernel
theorem dR_multiplyFinite_150 : decode bR_multiplyFinite 150 = .ok (.aload_n 0, 1) := by decide +kernel
theorem dR_multiplyFinite_151 : decode bR_multiplyFinite 151 = .ok (.getfield 57, 3) := by decide +kernel
theorem dR_multiplyFinite_154 : decode bR_multiplyFinite 154 = .ok (.aload_n 1, 1) := by decide +kernel
theorem dR_multiplyFinite_155 : decode bR_multiplyFinite 155 = .ok (.getfield 57, 3) := by decide +kernel
theorem dR_multiplyFinite_158 : decode bR_multiplyFinite 158 = .ok (.iadd, 1) := by decide +kernel
theorem dR_multiplyFinite_159 : decode bR_multiplyFinite 159 = .ok (.iload 18, 2) := by decide +kernel
theorem dR_multiplyFinite_161 : decode bR_multiplyFinite 161 = .ok (.iadd, 1) := by decide +kernel
theorem dR_multiplyFinite_162 : decode bR_multiplyFinite 162 = .ok (.invokevirtual 64, 3) := by decide +kernel
theorem dR_multiplyFinite_165 : decode bR_multiplyFinite 165 = .ok (.return_, 1) := by decide +kernel
theorem dV_negate_0 : decode bV_negate 0 = .ok (.aload_n 0, 1) := by decide +kernel
theorem dV_negate_1 : decode bV_negate 1 = .ok (.invokevirtual 63, 3) := by decide +kernel
theorem dV_negate_4 : decode bV_negate 4 = .ok (.ifCond .eq 23, 3) := by decide +kernel
theorem dV_negate_7 : decode bV_negate 7 = .ok (.aload_n 0, 1) := by decide +kernel
theorem dV_negate_8 : decode bV_negate 8 = .ok (.aload_n 0, 1) := by decide +kernel
theorem dV_negate_9 : decode bV_negate 9 = .ok (.getfield 9, 3) := by decide +kernel
theorem dV_negate_12 : decode bV_negate 12 = .ok (.iconst 3, 1) := by decide +kernel
theorem dV_negate_13 : decode bV_negate 13 = .ok (.if_icmp .ne 7, 3) := by decide +kernel
theorem dV_negate_16 : decode bV_negate 16 = .ok (.iconst 1, 1) := by decide +kernel
theorem dV_negate_17 : decode bV_negate 17 = .ok (.goto 4, 3) := by decide +kernel
theorem dV_negate_20 : decode bV_negate 20 = .ok (.iconst 0, 1) := by decide +kernel
theorem dV_negate_21 : decode bV_negate 21 = .ok (.invokevirtual 49, 3) := by decide +kernel
theorem dV_negate_24 : decode bV_negate 24 = .ok (.goto 12, 3) := by decide +kernel
theorem dV_negate_27 : decode bV_negate 27 = .ok (.aload_n 0, 1) := by decide +kernel
theorem dV_negate_28 : decode bV_negate 28 = .ok (.aload_n 0, 1) := by decide +kernel
theorem dV_negate_29 : decode bV_negate 29 = .ok (.getfield 15, 3) := by decide +kernel
theorem dV_negate_32 : decode bV_negate 32 = .ok (.lneg, 1) := by decide +kernel
theorem dV_negate_33 : decode bV_negate 33 = .ok (.putfield 15, 3) := by decide +kernel
theorem dV_negate_36 : decode bV_negate 36 = .ok (.return_, 1) := by decide +kernel
theorem dR_add_0 : decode bR_add 0 = .ok (.aload_n 0, 1) := by decide +kernel
theorem dR_add_1 : decode bR_add 1 = .ok (.aload_n 1, 1) := by decide +kernel
theorem dR_add_2 : decode bR_add 2 = .ok (.invokestatic 17, 3) := by decide +kernel
theorem dR_add_5 : decode bR_add 5 = .ok (.ifCond .eq 11, 3) := by decide +kernel
theorem dR_add_8 : decode bR_add 8 = .ok (.aload_n 0, 1) := by decide +kernel
theorem dR_add_9 : decode bR_add 9 = .ok (.iconst 5, 1) := by decide +kernel
theorem dR_add_10 : decode bR_add 10 = .ok (.invokevirtual 21, 3) := by decide +kernel
theorem dR_add_13 : decode bR_add 13 = .ok (.goto 92, 3) := by decide +kernel
theorem dR_add_16 : decode bR_add 16 = .ok (.aload_n 0, 1) := by decide +kernel
theorem dR_add_17 : decode bR_add 17 = .ok (.invokevirtual 25, 3) := by decide +kernel
theorem dR_add_20 : decode bR_add 20 = .ok (.ifCond .eq 29, 3) := by decide +kernel
theorem dR_add_23 : decode bR_add 23 = .ok (.aload_n 1, 1) := by decide +kernel
theorem dR_add_24 : decode bR_add 24 = .ok (.invokevirtual 25, 3) := by decide +kernel
theorem dR_add_27 : decode bR_add 27 = .ok (.ifCond .eq 78, 3) := by decide +kernel
theorem dR_add_30 : decode bR_add 30 = .ok (.aload_n 0, 1) := by decide +kernel
theorem dR_add_31 : decode bR_add 31 = .ok (.getfield 11, 3) := by decide +kernel
theorem dR_add_34 : decode bR_add 34 = .ok (.aload_n 1, 1) := by decide +kernel
theorem dR_add_35 : decode bR_add 35 = .ok (.getfield 11, 3) := by decide +kernel
theorem dR_add_38 : decode bR_add 38 = .ok (.if_icmp .eq 67, 3) := by decide +kernel
theorem dR_add_41 : decode bR_add 41 = .ok (.aload_n 0, 1) := by decide +kernel
theorem dR_add_42 : decode bR_add 42 = .ok (.iconst 5, 1) := by decide +kernel
theorem dR_add_43 : decode bR_add 43 = .ok (.invokevirtual 21, 3) := by decide +kernel
theorem dR_add_46 : decode bR_add 46 = .ok (.goto 59, 3) := by decide +kernel
theorem dR_add_49 : decode bR_add 49 = .ok (.aload_n 1, 1) := by decide +kernel
theorem dR_add_50 : decode bR_add 50 = .ok (.invokevirtual 25, 3) := by decide +kernel
theorem dR_add_53 : decode bR_add 53 = .ok (.ifCond .ne 12, 3) := by decide +kernel
theorem dR_add_56 : decode bR_add 56 = .ok (.aload_n 0, 1) := by decide +kernel
theorem dR_add_57 : decode bR_add 57 = .ok (.getfield 29, 3) := by decide +kernel
theorem dR_add_60 : decode bR_add 60 = .ok (.lconst 0, 1) := by decide +kernel
theorem dR_add_61 : decode bR_add 61 = .ok (.lcmp, 1) := by decide +kernel
theorem dR_add_62 : decode bR_add 62 = .ok (.ifCond .ne 11, 3) := by decide +kernel
theorem dR_add_65 : decode bR_add 65 = .ok (.aload_n 0, 1) := by decide +kernel
theorem dR_add_66 : decode bR_add 66 = .ok (.aload_n 1, 1) := by decide +kernel
theorem dR_add_67 : decode bR_add 67 = .ok (.invokevirtual 33, 3) := by decide +kernel
theorem dR_add_70 : decode bR_add 70 = .ok (.goto 35, 3) := by decide +kernel
theorem dR_add_73 : decode bR_add 73 = .ok (.aload_n 1, 1) := by decide +kernel
theorem dR_add_74 : decode bR_add 74 = .ok (.getfield 29, 3) := by decide +kernel
theorem dR_add_77 : decode bR_add 77 = .ok (.lconst 0, 1) := by decide +kernel
theorem dR_add_78 : decode bR_add 78 = .ok (.lcmp, 1) := by decide +kernel
theorem dR_add_79 : decode bR_add 79 = .ok (.ifCond .eq 26, 3) := by decide +kernel
theorem dR_add_82 : decode bR_add 82 = .ok (.aload_n 0, 1) := by decide +kernel
theorem dR_add_83 : decode bR_add 83 = .ok (.aload_n 1, 1) := by decide +kernel
theorem dR_add_84 : decode bR_add 84 = .ok (.invokestatic 37, 3) := by decide +kernel
theorem dR_add_87 : decode bR_add 87 = .ok (.ifCond .lt 12, 3) := by decide +kernel
theorem dR_add_90 : decode bR_add 90 = .ok (.aload_n 0, 1) := by decide +kernel
theorem dR_add_91 : decode bR_add 91 = .ok (.aload_n 0, 1) := by decide +kernel
theorem dR_add_92 : decode bR_add 92 = .ok (.aload_n 1, 1) := by decide +kernel
theorem dR_add_93 : decode bR_add 93 = .ok (.invokestatic 43, 3) := by decide +kernel
theorem dR_add_96 : decode bR_add 96 = .ok (.goto 9, 3) := by decide +kernel
theorem dR_add_99 : decode bR_add 99 = .ok (.aload_n 0, 1) := by decide +kernel
theorem dR_add_100 : decode bR_add 100 = .ok (.aload_n 1, 1) := by decide +kernel
theorem dR_add_101 : decode bR_add 101 = .ok (.aload_n 0, 1) := by decide +kernel
theorem dR_add_102 : decode bR_add 102 = .ok (.invokestatic 43, 3) := by decide +kernel
theorem dR_add_105 : decode bR_add 105 = .ok (.return_, 1) := by decide +kernel
theorem dO_ofSizes_0 : decode bO_ofSizes 0 = .ok (.aload_n 0, 1) := by decide +kernel
theorem dO_ofSizes_1 : decode bO_ofSizes 1 = .ok (.invokevirtual 68, 3) := by decide +kernel
theorem dO_ofSizes_4 : decode bO_ofSizes 4 = .ok (.invokestatic 71, 3) := by decide +kernel
theorem dO_ofSizes_7 : decode bO_ofSizes 7 = .ok (.iconst 1, 1) := by decide +kernel
theorem dO_ofSizes_8 : decode bO_ofSizes 8 = .ok (.isub, 1) := by decide +kernel
theorem dO_ofSizes_9 : decode bO_ofSizes 9 = .ok (.istore_n 2, 1) := by decide +kernel
theorem dO_ofSizes_10 : decode bO_ofSizes 10 = .ok (.aload_n 1, 1) := by decide +kernel
theorem dO_ofSizes_11 : decode bO_ofSizes 11 = .ok (.invokevirtual 68, 3) := by decide +kernel
theorem dO_ofSizes_14 : decode bO_ofSizes 14 = .ok (.invokestatic 71, 3) := by decide +kernel
theorem dO_ofSizes_17 : decode bO_ofSizes 17 = .ok (.iconst 1, 1) := by decide +kernel
theorem dO_ofSizes_18 : decode bO_ofSizes 18 = .ok (.isub, 1) := by decide +kernel
theorem dO_ofSizes_19 : decode bO_ofSizes 19 = .ok (.istore_n 3, 1) := by decide +kernel
theorem dO_ofSizes_20 : decode bO_ofSizes 20 = .ok (.aload_n 0, 1) := by decide +kernel
theorem dO_ofSizes_21 : decode bO_ofSizes 21 = .ok (.getfield 55, 3) := by decide +kernel
theorem dO_ofSizes_24 : decode bO_ofSizes 24 = .ok (.iload_n 2, 1) := by decide +kernel
theorem dO_ofSizes_25 : decode bO_ofSizes 25 = .ok (.isub, 1) := by decide +kernel
theorem dO_ofSizes_26 : decode bO_ofSizes 26 = .ok (.istore 4, 2) := by decide +kernel
theorem dO_ofSizes_28 : decode bO_ofSizes 28 = .ok (.aload_n 1, 1) := by decide +kernel
theorem dO_ofSizes_29 : decode bO_ofSizes 29 = .ok (.getfield 55, 3) := by decide +kernel
theorem dO_ofSizes_32 : decode bO_ofSizes 32 = .ok (.iload_n 3, 1) := by decide +kernel
theorem dO_ofSizes_33 : decode bO_ofSizes 33 = .ok (.isub, 1) := by decide +kernel
theorem dO_ofSizes_34 : decode bO_ofSizes 34 = .ok (.istore 5, 2) := by decide +kernel
theorem dO_ofSizes_36 : decode bO_ofSizes 36 = .ok (.iload 4, 2) := by decide +kernel
theorem dO_ofSizes_38 : decode bO_ofSizes 38 = .ok (.iload 5, 2) := by decide +kernel
theorem dO_ofSizes_40 : decode bO_ofSizes 40 = .ok (.if_icmp .eq 11, 3) := by decide +kernel
theorem dO_ofSizes_43 : decode bO_ofSizes 43 = .ok (.iload 4, 2) := by decide +kernel
theorem dO_ofSizes_45 : decode bO_ofSizes 45 = .ok (.iload 5, 2) := by decide +kernel
theorem dO_ofSizes_47 : decode bO_ofSizes 47 = .ok (.invokestatic 29, 3) := by decide +kernel
theorem dO_ofSizes_50 : decode bO_ofSizes 50 = .ok (.ireturn, 1) := by decide +kernel
theorem dO_ofSizes_51 : decode bO_ofSizes 51 = .ok (.aload_n 0, 1) := by decide +kernel
theorem dO_ofSizes_52 : decode bO_ofSizes 52 = .ok (.invokevirtual 68, 3) := by decide +kernel
theorem dO_ofSizes_55 : decode bO_ofSizes 55 = .ok (.iload_n 2, 1) := by decide +kernel
theorem dO_ofSizes_56 : decode bO_ofSizes 56 = .ok (.lshl, 1) := by decide +kernel
theorem dO_ofSizes_57 : decode bO_ofSizes 57 = .ok (.aload_n 1, 1) := by decide +kernel
theorem dO_ofSizes_58 : decode bO_ofSizes 58 = .ok (.invokevirtual 68, 3) := by decide +kernel
theorem dO_ofSizes_61 : decode bO_ofSizes 61 = .ok (.iload_n 3, 1) := by decide +kernel
theorem dO_ofSizes_62 : decode bO_ofSizes 62 = .ok (.lshl, 1) := by decide +kernel
theorem dO_ofSizes_63 : decode bO_ofSizes 63 = .ok (.invokestatic 39, 3) := by decide +kernel
theorem dO_ofSizes_66 : decode bO_ofSizes 66 = .ok (.ireturn, 1) := by decide +kernel
theorem dJI_compare_0 : decode bJI_compare 0 = .ok (.iload_n 0, 1) := by decide +kernel
theorem dJI_compare_1 : decode bJI_compare 1 = .ok (.iload_n 1, 1) := by decide +kernel
theorem dJI_compare_2 : decode bJI_compare 2 = .ok (.if_icmp .ge 7, 3) := by decide +kernel
theorem dJI_compare_5 : decode bJI_compare 5 = .ok (.iconst (-1), 1) := by decide +kernel
theorem dJI_compare_6 : decode bJI_compare 6 = .ok (.goto 13, 3) := by decide +kernel
theorem dJI_compare_9 : decode bJI_compare 9 = .ok (.iload_n 0, 1) := by decide +kernel
theorem dJI_compare_10 : decode bJI_compare 10 = .ok (.iload_n 1, 1) := by decide +kernel
theorem dJI_compare_11 : decode bJI_compare 11 = .ok (.if_icmp .ne 7, 3) := by decide +kernel
theorem dJI_compare_14 : decode bJI_compare 14 = .ok (.iconst 0, 1) := by decide +kernel
theorem dJI_compare_15 : decode bJI_compare 15 = .ok (.goto 4, 3) := by decide +kernel
theorem dJI_compare_18 : decode bJI_compare 18 = .ok (.iconst 1, 1) := by decide +kernel
theorem dJI_compare_19 : decode bJI_compare 19 = .ok (.ireturn, 1) := by decide +kernel
theorem dJL_compare_0 : decode bJL_compare 0 = .ok (.lload_n 0, 1) := by decide +kernel
theorem dJL_compare_1 : decode bJL_compare 1 = .ok (.lload_n 2, 1) := by decide +kernel
theorem dJL_compare_2 : decode bJL_compare 2 = .ok (.lcmp, 1) := by decide +kernel
theorem dJL_compare_3 : decode bJL_compare 3 = .ok (.ifCond .ge 7, 3) := by decide +kernel
theorem dJL_compare_6 : decode bJL_compare 6 = .ok (.iconst (-1), 1) := by decide +kernel
theorem dJL_compare_7 : decode bJL_compare 7 = .ok (.goto 14, 3) := by decide +kernel
theorem dJL_compare_10 : decode bJL_compare 10 = .ok (.lload_n 0, 1) := by decide +kernel
theorem dJL_compare_11 : decode bJL_compare 11 = .ok (.lload_n 2, 1) := by decide +kernel
theorem dJL_compare_12 : decode bJL_compare 12 = .ok (.lcmp, 1) := by decide +kernel
theorem dJL_compare_13 : decode bJL_compare 13 = .ok (.ifCond .ne 7, 3) := by decide +kernel
theorem dJL_compare_16 : decode bJL_compare 16 = .ok (.iconst 0, 1) := by decide +kernel
theorem dJL_compare_17 : decode bJL_compare 17 = .ok (.goto 4, 3) := by decide +kernel
theorem dJL_compare_20 : decode bJL_compare 20 = .ok (.iconst 1, 1) := by decide +kernel
theorem dJL_compare_21 : decode bJL_compare 21 = .ok (.ireturn, 1) := by decide +kernel
theorem dR_addSmaller_0 : decode bR_addSmaller 0 = .ok (.aload_n 1, 1) := by decide +kernel
theorem dR_addSmaller_1 : decode bR_addSmaller 1 = .ok (.invokevirtual 47, 3) := by decide +kernel
theorem dR_addSmaller_4 : decode bR_addSmaller 4 = .ok (.invokestatic 51, 3) := by decide +kernel
theorem dR_addSmaller_7 : decode bR_addSmaller 7 = .ok (.iconst 2, 1) := by decide +kernel
theorem dR_addSmaller_8 : decode bR_addSmaller 8 = .ok (.isub, 1) := by decide +kernel
theorem dR_addSmaller_9 : decode bR_addSmaller 9 = .ok (.istore_n 3, 1) := by decide +kernel
theorem dR_addSmaller_10 : decode bR_addSmaller 10 = .ok (.aload_n 1, 1) := by decide +kernel
theorem dR_addSmaller_11 : decode bR_addSmaller 11 = .ok (.getfield 57, 3) := by decide +kernel
theorem dR_addSmaller_14 : decode bR_addSmaller 14 = .ok (.iload_n 3, 1) := by decide +kernel
theorem dR_addSmaller_15 : decode bR_addSmaller 15 = .ok (.isub, 1) := by decide +kernel
theorem dR_addSmaller_16 : decode bR_addSmaller 16 = .ok (.istore 4, 2) := by decide +kernel
theorem dR_addSmaller_18 : decode bR_addSmaller 18 = .ok (.aload_n 2, 1) := by decide +kernel
theorem dR_addSmaller_19 : decode bR_addSmaller 19 = .ok (.invokevirtual 47, 3) := by decide +kernel
theorem dR_addSmaller_22 : decode bR_addSmaller 22 = .ok (.invokestatic 51, 3) := by decide +kernel
theorem dR_addSmaller_25 : decode bR_addSmaller 25 = .ok (.iconst 2, 1) := by decide +kernel
theorem dR_addSmaller_26 : decode bR_addSmaller 26 = .ok (.isub, 1) := by decide +kernel
theorem dR_addSmaller_27 : decode bR_addSmaller 27 = .ok (.istore 5, 2) := by decide +kernel
theorem dR_addSmaller_29 : decode bR_addSmaller 29 = .ok (.iload 4, 2) := by decide +kernel
theorem dR_addSmaller_31 : decode bR_addSmaller 31 = .ok (.aload_n 2, 1) := by decide +kernel
theorem dR_addSmaller_32 : decode bR_addSmaller 32 = .ok (.getfield 57, 3) := by decide +kernel
theorem dR_addSmaller_35 : decode bR_addSmaller 35 = .ok (.iload 5, 2) := by decide +kernel
theorem dR_addSmaller_37 : decode bR_addSmaller 37 = .ok (.isub, 1) := by decide +kernel
theorem dR_addSmaller_38 : decode bR_addSmaller 38 = .ok (.isub, 1) := by decide +kernel
theorem dR_addSmaller_39 : decode bR_addSmaller 39 = .ok (.istore 6, 2) := by decide +kernel
theorem dR_addSmaller_41 : decode bR_addSmaller 41 = .ok (.aload_n 2, 1) := by decide +kernel
theorem dR_addSmaller_42 : decode bR_addSmaller 42 = .ok (.invokevirtual 47, 3) := by decide +kernel
theorem dR_addSmaller_45 : decode bR_addSmaller 45 = .ok (.iload 5, 2) := by decide +kernel
theorem dR_addSmaller_47 : decode bR_addSmaller 47 = .ok (.lshl, 1) := by decide +kernel
theorem dR_addSmaller_48 : decode bR_addSmaller 48 = .ok (.lstore 7, 2) := by decide +kernel
theorem dR_addSmaller_50 : decode bR_addSmaller 50 = .ok (.iload 6, 2) := by decide +kernel
theorem dR_addSmaller_52 : decode bR_addSmaller 52 = .ok (.bipush 63, 2) := by decide +kernel
theorem dR_addSmaller_54 : decode bR_addSmaller 54 = .ok (.if_icmp .le 7, 3) := by decide +kernel
theorem dR_addSmaller_57 : decode bR_addSmaller 57 = .ok (.lconst 0, 1) := by decide +kernel
theorem dR_addSmaller_58 : decode bR_addSmaller 58 = .ok (.goto 8, 3) := by decide +kernel
theorem dR_addSmaller_61 : decode bR_addSmaller 61 = .ok (.lload 7, 2) := by decide +kernel
theorem dR_addSmaller_63 : decode bR_addSmaller 63 = .ok (.iload 6, 2) := by decide +kernel
theorem dR_addSmaller_65 : decode bR_addSmaller 65 = .ok (.lushr, 1) := by decide +kernel
theorem dR_addSmaller_66 : decode bR_addSmaller 66 = .ok (.lstore 9, 2) := by decide +kernel
theorem dR_addSmaller_68 : decode bR_addSmaller 68 = .ok (.iload 6, 2) := by decide +kernel
theorem dR_addSmaller_70 : decode bR_addSmaller 70 = .ok (.bipush 63, 2) := by decide +kernel
theorem dR_addSmaller_72 : decode bR_addSmaller 72 = .ok (.if_icmp .gt 14, 3) := by decide +kernel
theorem dR_addSmaller_75 : decode bR_addSmaller 75 = .ok (.lload 9, 2) := by decide +kernel
theorem dR_addSmaller_77 : decode bR_addSmaller 77 = .ok (.iload 6, 2) := by decide +kernel
theorem dR_addSmaller_79 : decode bR_addSmaller 79 = .ok (.lshl, 1) := by decide +kernel
theorem dR_addSmaller_80 : decode bR_addSmaller 80 = .ok (.lload 7, 2) := by decide +kernel
theorem dR_addSmaller_82 : decode bR_addSmaller 82 = .ok (.lcmp, 1) := by decide +kernel
theorem dR_addSmaller_83 : decode bR_addSmaller 83 = .ok (.ifCond .eq 7, 3) := by decide +kernel
theorem dR_addSmaller_86 : decode bR_addSmaller 86 = .ok (.iconst 1, 1) := by decide +kernel
theorem dR_addSmaller_87 : decode bR_addSmaller 87 = .ok (.goto 4, 3) := by decide +kernel
theorem dR_addSmaller_90 : decode bR_addSmaller 90 = .ok (.iconst 0, 1) := by decide +kernel
theorem dR_addSmaller_91 : decode bR_addSmaller 91 = .ok (.istore 11, 2) := by decide +kernel
theorem dR_addSmaller_93 : decode bR_addSmaller 93 = .ok (.aload_n 1, 1) := by decide +kernel
theorem dR_addSmaller_94 : decode bR_addSmaller 94 = .ok (.invokevirtual 47, 3) := by decide +kernel
theorem dR_addSmaller_97 : decode bR_addSmaller 97 = .ok (.iload_n 3, 1) := by decide +kernel
theorem dR_addSmaller_98 : decode bR_addSmaller 98 = .ok (.lshl, 1) := by decide +kernel
theorem dR_addSmaller_99 : decode bR_addSmaller 99 = .ok (.lstore 12, 2) := by decide +kernel
theorem dR_addSmaller_101 : decode bR_addSmaller 101 = .ok (.aload_n 1, 1) := by decide +kernel
theorem dR_addSmaller_102 : decode bR_addSmaller 102 = .ok (.invokevirtual 60, 3) := by decide +kernel
theorem dR_addSmaller_105 : decode bR_addSmaller 105 = .ok (.aload_n 2, 1) := by decide +kernel
theorem dR_addSmaller_106 : decode bR_addSmaller 106 = .ok (.invokevirtual 60, 3) := by decide +kernel
theorem dR_addSmaller_109 : decode bR_addSmaller 109 = .ok (.if_icmp .ne 13, 3) := by decide +kernel
theorem dR_addSmaller_112 : decode bR_addSmaller 112 = .ok (.lload 12, 2) := by decide +kernel
theorem dR_addSmaller_114 : decode bR_addSmaller 114 = .ok (.lload 9, 2) := by decide +kernel
theorem dR_addSmaller_116 : decode bR_addSmaller 116 = .ok (.ladd, 1) := by decide +kernel
theorem dR_addSmaller_117 : decode bR_addSmaller 117 = .ok (.lstore 12, 2) := by decide +kernel
theorem dR_addSmaller_119 : decode bR_addSmaller 119 = .ok (.goto 22, 3) := by decide +kernel
theorem dR_addSmaller_122 : decode bR_addSmaller 122 = .ok (.lload 12, 2) := by decide +kernel
theorem dR_addSmaller_124 : decode bR_addSmaller 124 = .ok (.iload 11, 2) := by decide +kernel
theorem dR_addSmaller_126 : decode bR_addSmaller 126 = .ok (.ifCond .eq 10, 3) := by decide +kernel
theorem dR_addSmaller_129 : decode bR_addSmaller 129 = .ok (.lload 9, 2) := by decide +kernel
theorem dR_addSmaller_131 : decode bR_addSmaller 131 = .ok (.lconst 1, 1) := by decide +kernel
theorem dR_addSmaller_132 : decode bR_addSmaller 132 = .ok (.ladd, 1) := by decide +kernel
theorem dR_addSmaller_133 : decode bR_addSmaller 133 = .ok (.goto 5, 3) := by decide +kernel
theorem dR_addSmaller_136 : decode bR_addSmaller 136 = .ok (.lload 9, 2) := by decide +kernel
theorem dR_addSmaller_138 : decode bR_addSmaller 138 = .ok (.lsub, 1) := by decide +kernel
theorem dR_addSmaller_139 : decode bR_addSmaller 139 = .ok (.lstore 12, 2) := by decide +kernel
theorem dR_addSmaller_141 : decode bR_addSmaller 141 = .ok (.aload_n 0, 1) := by decide +kernel
theorem dR_addSmaller_142 : decode bR_addSmaller 142 = .ok (.aload_n 1, 1) := by decide +kernel
theorem dR_addSmaller_143 : decode bR_addSmaller 143 = .ok (.getfield 29, 3) := by decide +kernel
theorem dR_addSmaller_146 : decode bR_addSmaller 146 = .ok (.lconst 0, 1) := by decide +kernel
theorem dR_addSmaller_147 : decode bR_addSmaller 147 = .ok (.lcmp, 1) := by decide +kernel
theorem dR_addSmaller_148 : decode bR_addSmaller 148 = .ok (.ifCond .ge 7, 3) := by decide +kernel
theorem dR_addSmaller_151 : decode bR_addSmaller 151 = .ok (.iconst 1, 1) := by decide +kernel
theorem dR_addSmaller_152 : decode bR_addSmaller 152 = .ok (.goto 4, 3) := by decide +kernel
theorem dR_addSmaller_155 : decode bR_addSmaller 155 = .ok (.iconst 0, 1) := by decide +kernel
theorem dR_addSmaller_156 : decode bR_addSmaller 156 = .ok (.lload 12, 2) := by decide +kernel
theorem dR_addSmaller_158 : decode bR_addSmaller 158 = .ok (.iload 11, 2) := by decide +kernel
theorem dR_addSmaller_160 : decode bR_addSmaller 160 = .ok (.iload 4, 2) := by decide +kernel
theorem dR_addSmaller_162 : decode bR_addSmaller 162 = .ok (.invokevirtual 64, 3) := by decide +kernel
theorem dR_addSmaller_165 : decode bR_addSmaller 165 = .ok (.return_, 1) := by decide +kernel
theorem dN_divideOrRemain_0 : decode bN_divideOrRemain 0 = .ok (.iload_n 1, 1) := by decide +kernel
theorem dN_divideOrRemain_1 : decode bN_divideOrRemain 1 = .ok (.iconst 3, 1) := by decide +kernel
theorem dN_divideOrRemain_2 : decode bN_divideOrRemain 2 = .ok (.if_icmp .eq 10, 3) := by decide +kernel
theorem dN_divideOrRemain_5 : decode bN_divideOrRemain 5 = .ok (.aload_n 0, 1) := by decide +kernel
theorem dN_divideOrRemain_6 : decode bN_divideOrRemain 6 = .ok (.invokevirtual 95, 3) := by decide +kernel
theorem dN_divideOrRemain_9 : decode bN_divideOrRemain 9 = .ok (.ifCond .ne 14, 3) := by decide +kernel
theorem dN_divideOrRemain_12 : decode bN_divideOrRemain 12 = .ok (.aload_n 0, 1) := by decide +kernel
theorem dN_divideOrRemain_13 : decode bN_divideOrRemain 13 = .ok (.invokevirtual 99, 3) := by decide +kernel
theorem dN_divideOrRemain_16 : decode bN_divideOrRemain 16 = .ok (.aload_n 0, 1) := by decide +kernel
theorem dN_divideOrRemain_17 : decode bN_divideOrRemain 17 = .ok (.iload_n 1, 1) := by decide +kernel
theorem dN_divideOrRemain_18 : decode bN_divideOrRemain 18 = .ok (.invokevirtual 114, 3) := by decide +kernel
theorem dN_divideOrRemain_21 : decode bN_divideOrRemain 21 = .ok (.iconst 0, 1) := by decide +kernel
theorem dN_divideOrRemain_22 : decode bN_divideOrRemain 22 = .ok (.ireturn, 1) := by decide +kernel
theorem dN_divideOrRemain_23 : decode bN_divideOrRemain 23 = .ok (.aload_n 0, 1) := by decide +kernel
theorem dN_divideOrRemain_24 : decode bN_divideOrRemain 24 = .ok (.getfield 20, 3) := by decide +kernel
theorem dN_divideOrRemain_27 : decode bN_divideOrRemain 27 = .ok (.getfield 38, 3) := by decide +kernel
theorem dN_divideOrRemain_30 : decode bN_divideOrRemain 30 = .ok (.lconst 0, 1) := by decide +kernel
theorem dN_divideOrRemain_31 : decode bN_divideOrRemain 31 = .ok (.lcmp, 1) := by decide +kernel
theorem dN_divideOrRemain_32 : decode bN_divideOrRemain 32 = .ok (.ifCond .ne 5, 3) := by decide +kernel
theorem dN_divideOrRemain_35 : decode bN_divideOrRemain 35 = .ok (.iconst 1, 1) := by decide +kernel
theorem dN_divideOrRemain_36 : decode bN_divideOrRemain 36 = .ok (.ireturn, 1) := by decide +kernel
theorem dN_divideOrRemain_37 : decode bN_divideOrRemain 37 = .ok (.aload_n 0, 1) := by decide +kernel
theorem dN_divideOrRemain_38 : decode bN_divideOrRemain 38 = .ok (.getfield 16, 3) := by decide +kernel
theorem dN_divideOrRemain_41 : decode bN_divideOrRemain 41 = .ok (.iload_n 1, 1) := by decide +kernel
theorem dN_divideOrRemain_42 : decode bN_divideOrRemain 42 = .ok (.iconst 4, 1) := by decide +kernel
theorem dN_divideOrRemain_43 : decode bN_divideOrRemain 43 = .ok (.if_icmp .ne 23, 3) := by decide +kernel
theorem dN_divideOrRemain_46 : decode bN_divideOrRemain 46 = .ok (.aload_n 0, 1) := by decide +kernel
theorem dN_divideOrRemain_47 : decode bN_divideOrRemain 47 = .ok (.getfield 16, 3) := by decide +kernel
theorem dN_divideOrRemain_50 : decode bN_divideOrRemain 50 = .ok (.getfield 38, 3) := by decide +kernel
theorem dN_divideOrRemain_53 : decode bN_divideOrRemain 53 = .ok (.aload_n 0, 1) := by decide +kernel
theorem dN_divideOrRemain_54 : decode bN_divideOrRemain 54 = .ok (.getfield 20, 3) := by decide +kernel
theorem dN_divideOrRemain_57 : decode bN_divideOrRemain 57 = .ok (.getfield 38, 3) := by decide +kernel
theorem dN_divideOrRemain_60 : decode bN_divideOrRemain 60 = .ok (.invokestatic 117, 3) := by decide +kernel
theorem dN_divideOrRemain_63 : decode bN_divideOrRemain 63 = .ok (.goto 20, 3) := by decide +kernel
theorem dN_divideOrRemain_66 : decode bN_divideOrRemain 66 = .ok (.aload_n 0, 1) := by decide +kernel
theorem dN_divideOrRemain_67 : decode bN_divideOrRemain 67 = .ok (.getfield 16, 3) := by decide +kernel
theorem dN_divideOrRemain_70 : decode bN_divideOrRemain 70 = .ok (.getfield 38, 3) := by decide +kernel
theorem dN_divideOrRemain_73 : decode bN_divideOrRemain 73 = .ok (.aload_n 0, 1) := by decide +kernel
theorem dN_divideOrRemain_74 : decode bN_divideOrRemain 74 = .ok (.getfield 20, 3) := by decide +kernel
theorem dN_divideOrRemain_77 : decode bN_divideOrRemain 77 = .ok (.getfield 38, 3) := by decide +kernel
theorem dN_divideOrRemain_80 : decode bN_divideOrRemain 80 = .ok (.invokestatic 123, 3) := by decide +kernel
theorem dN_divideOrRemain_83 : decode bN_divideOrRemain 83 = .ok (.invokevirtual 30, 3) := by decide +kernel
theorem dN_divideOrRemain_86 : decode bN_divideOrRemain 86 = .ok (.iconst 0, 1) := by decide +kernel
theorem dN_divideOrRemain_87 : decode bN_divideOrRemain 87 = .ok (.ireturn, 1) := by decide +kernel
theorem dN_divideOrRemainReal_0 : decode bN_divideOrRemainReal 0 = .ok (.iload_n 1, 1) := by decide +kernel
theorem dN_divideOrRemainReal_1 : decode bN_divideOrRemainReal 1 = .ok (.iconst 5, 1) := by decide +kernel
theorem dN_divideOrRemainReal_2 : decode bN_divideOrRemainReal 2 = .ok (.if_icmp .ne 15, 3) := by decide +kernel
theorem dN_divideOrRemainReal_5 : decode bN_divideOrRemainReal 5 = .ok (.aload_n 0, 1) := by decide +kernel
theorem dN_divideOrRemainReal_6 : decode bN_divideOrRemainReal 6 = .ok (.getfield 16, 3) := by decide +kernel
theorem dN_divideOrRemainReal_9 : decode bN_divideOrRemainReal 9 = .ok (.aload_n 0, 1) := by decide +kernel
theorem dN_divideOrRemainReal_10 : decode bN_divideOrRemainReal 10 = .ok (.getfield 20, 3) := by decide +kernel
theorem dN_divideOrRemainReal_13 : decode bN_divideOrRemainReal 13 = .ok (.invokestatic 126, 3) := by decide +kernel
theorem dN_divideOrRemainReal_16 : decode bN_divideOrRemainReal 16 = .ok (.return_, 1) := by decide +kernel
theorem dN_divideOrRemainReal_17 : decode bN_divideOrRemainReal 17 = .ok (.aload_n 0, 1) := by decide +kernel
theorem dN_divideOrRemainReal_18 : decode bN_divideOrRemainReal 18 = .ok (.getfield 16, 3) := by decide +kernel
theorem dN_divideOrRemainReal_21 : decode bN_divideOrRemainReal 21 = .ok (.aload_n 0, 1) := by decide +kernel
theorem dN_divideOrRemainReal_22 : decode bN_divideOrRemainReal 22 = .ok (.getfield 20, 3) := by decide +kernel
theorem dN_divideOrRemainReal_25 : decode bN_divideOrRemainReal 25 = .ok (.invokestatic 129, 3) := by decide +kernel
theorem dN_divideOrRemainReal_28 : decode bN_divideOrRemainReal 28 = .ok (.iload_n 1, 1) := by decide +kernel
theorem dN_divideOrRemainReal_29 : decode bN_divideOrRemainReal 29 = .ok (.iconst 4, 1) := by decide +kernel
theorem dN_divideOrRemainReal_30 : decode bN_divideOrRemainReal 30 = .ok (.if_icmp .ne 10, 3) := by decide +kernel
theorem dN_divideOrRemainReal_33 : decode bN_divideOrRemainReal 33 = .ok (.aload_n 0, 1) := by decide +kernel
theorem dN_divideOrRemainReal_34 : decode bN_divideOrRemainReal 34 = .ok (.getfield 16, 3) := by decide +kernel
theorem dN_divideOrRemainReal_37 : decode bN_divideOrRemainReal 37 = .ok (.invokevirtual 132, 3) := by decide +kernel
theorem dN_divideOrRemainReal_40 : decode bN_divideOrRemainReal 40 = .ok (.return_, 1) := by decide +kernel
theorem dR_remainder_0 : decode bR_remainder 0 = .ok (.aload_n 0, 1) := by decide +kernel
theorem dR_remainder_1 : decode bR_remainder 1 = .ok (.aload_n 1, 1) := by decide +kernel
theorem dR_remainder_2 : decode bR_remainder 2 = .ok (.invokestatic 17, 3) := by decide +kernel
theorem dR_remainder_5 : decode bR_remainder 5 = .ok (.ifCond .ne 17, 3) := by decide +kernel
theorem dR_remainder_8 : decode bR_remainder 8 = .ok (.aload_n 0, 1) := by decide +kernel
theorem dR_remainder_9 : decode bR_remainder 9 = .ok (.invokevirtual 25, 3) := by decide +kernel
theorem dR_remainder_12 : decode bR_remainder 12 = .ok (.ifCond .ne 10, 3) := by decide +kernel
theorem dR_remainder_15 : decode bR_remainder 15 = .ok (.aload_n 1, 1) := by decide +kernel
theorem dR_remainder_16 : decode bR_remainder 16 = .ok (.invokevirtual 60, 3) := by decide +kernel
theorem dR_remainder_19 : decode bR_remainder 19 = .ok (.ifCond .ne 11, 3) := by decide +kernel
theorem dR_remainder_22 : decode bR_remainder 22 = .ok (.aload_n 0, 1) := by decide +kernel
theorem dR_remainder_23 : decode bR_remainder 23 = .ok (.iconst 5, 1) := by decide +kernel
theorem dR_remainder_24 : decode bR_remainder 24 = .ok (.invokevirtual 21, 3) := by decide +kernel
theorem dR_remainder_27 : decode bR_remainder 27 = .ok (.goto 61, 3) := by decide +kernel
theorem dR_remainder_30 : decode bR_remainder 30 = .ok (.aload_n 1, 1) := by decide +kernel
theorem dR_remainder_31 : decode bR_remainder 31 = .ok (.invokevirtual 25, 3) := by decide +kernel
theorem dR_remainder_34 : decode bR_remainder 34 = .ok (.ifCond .eq 23, 3) := by decide +kernel
theorem dR_remainder_37 : decode bR_remainder 37 = .ok (.aload_n 0, 1) := by decide +kernel
theorem dR_remainder_38 : decode bR_remainder 38 = .ok (.invokevirtual 60, 3) := by decide +kernel
theorem dR_remainder_41 : decode bR_remainder 41 = .ok (.aload_n 1, 1) := by decide +kernel
theorem dR_remainder_42 : decode bR_remainder 42 = .ok (.invokevirtual 60, 3) := by decide +kernel
theorem dR_remainder_45 : decode bR_remainder 45 = .ok (.ineg, 1) := by decide +kernel
theorem dR_remainder_46 : decode bR_remainder 46 = .ok (.if_icmp .ne 42, 3) := by decide +kernel
theorem dR_remainder_49 : decode bR_remainder 49 = .ok (.aload_n 0, 1) := by decide +kernel
theorem dR_remainder_50 : decode bR_remainder 50 = .ok (.aload_n 1, 1) := by decide +kernel
theorem dR_remainder_51 : decode bR_remainder 51 = .ok (.invokevirtual 33, 3) := by decide +kernel
theorem dR_remainder_54 : decode bR_remainder 54 = .ok (.goto 34, 3) := by decide +kernel
theorem dR_remainder_57 : decode bR_remainder 57 = .ok (.aload_n 0, 1) := by decide +kernel
theorem dR_remainder_58 : decode bR_remainder 58 = .ok (.aload_n 1, 1) := by decide +kernel
theorem dR_remainder_59 : decode bR_remainder 59 = .ok (.invokestatic 96, 3) := by decide +kernel
theorem dR_remainder_62 : decode bR_remainder 62 = .ok (.aload_n 0, 1) := by decide +kernel
theorem dR_remainder_63 : decode bR_remainder 63 = .ok (.getfield 29, 3) := by decide +kernel
theorem dR_remainder_66 : decode bR_remainder 66 = .ok (.lconst 0, 1) := by decide +kernel
theorem dR_remainder_67 : decode bR_remainder 67 = .ok (.lcmp, 1) := by decide +kernel
theorem dR_remainder_68 : decode bR_remainder 68 = .ok (.ifCond .eq 20, 3) := by decide +kernel
theorem dR_remainder_71 : decode bR_remainder 71 = .ok (.aload_n 0, 1) := by decide +kernel
theorem dR_remainder_72 : decode bR_remainder 72 = .ok (.invokevirtual 60, 3) := by decide +kernel
theorem dR_remainder_75 : decode bR_remainder 75 = .ok (.aload_n 1, 1) := by decide +kernel
theorem dR_remainder_76 : decode bR_remainder 76 = .ok (.invokevirtual 60, 3) := by decide +kernel
theorem dR_remainder_79 : decode bR_remainder 79 = .ok (.if_icmp .eq 9, 3) := by decide +kernel
theorem dR_remainder_82 : decode bR_remainder 82 = .ok (.aload_n 0, 1) := by decide +kernel
theorem dR_remainder_83 : decode bR_remainder 83 = .ok (.aload_n 1, 1) := by decide +kernel
theorem dR_remainder_84 : decode bR_remainder 84 = .ok (.aload_n 0, 1) := by decide +kernel
theorem dR_remainder_85 : decode bR_remainder 85 = .ok (.invokestatic 43, 3) := by decide +kernel
theorem dR_remainder_88 : decode bR_remainder 88 = .ok (.return_, 1) := by decide +kernel
theorem dR_remainderOfSizes_0 : decode bR_remainderOfSizes 0 = .ok (.aload_n 0, 1) := by decide +kernel
theorem dR_remainderOfSizes_1 : decode bR_remainderOfSizes 1 = .ok (.getfield 57, 3) := by decide +kernel
theorem dR_remainderOfSizes_4 : decode bR_remainderOfSizes 4 = .ok (.aload_n 1, 1) := by decide +kernel
theorem dR_remainderOfSizes_5 : decode bR_remainderOfSizes 5 = .ok (.getfield 57, 3) := by decide +kernel
theorem dR_remainderOfSizes_8 : decode bR_remainderOfSizes 8 = .ok (.isub, 1) := by decide +kernel
theorem dR_remainderOfSizes_9 : decode bR_remainderOfSizes 9 = .ok (.istore_n 2, 1) := by decide +kernel
theorem dR_remainderOfSizes_10 : decode bR_remainderOfSizes 10 = .ok (.iload_n 2, 1) := by decide +kernel
theorem dR_remainderOfSizes_11 : decode bR_remainderOfSizes 11 = .ok (.ifCond .lt 43, 3) := by decide +kernel
theorem dR_remainderOfSizes_14 : decode bR_remainderOfSizes 14 = .ok (.aload_n 0, 1) := by decide +kernel
theorem dR_remainderOfSizes_15 : decode bR_remainderOfSizes 15 = .ok (.invokevirtual 47, 3) := by decide +kernel
theorem dR_remainderOfSizes_18 : decode bR_remainderOfSizes 18 = .ok (.iload_n 2, 1) := by decide +kernel
theorem dR_remainderOfSizes_19 : decode bR_remainderOfSizes 19 = .ok (.aload_n 1, 1) := by decide +kernel
theorem dR_remainderOfSizes_20 : decode bR_remainderOfSizes 20 = .ok (.invokevirtual 47, 3) := by decide +kernel
theorem dR_remainderOfSizes_23 : decode bR_remainderOfSizes 23 = .ok (.invokestatic 99, 3) := by decide +kernel
theorem dR_remainderOfSizes_26 : decode bR_remainderOfSizes 26 = .ok (.lstore_n 3, 1) := by decide +kernel
theorem dR_remainderOfSizes_27 : decode bR_remainderOfSizes 27 = .ok (.aload_n 0, 1) := by decide +kernel
theorem dR_remainderOfSizes_28 : decode bR_remainderOfSizes 28 = .ok (.aload_n 0, 1) := by decide +kernel
theorem dR_remainderOfSizes_29 : decode bR_remainderOfSizes 29 = .ok (.getfield 29, 3) := by decide +kernel
theorem dR_remainderOfSizes_32 : decode bR_remainderOfSizes 32 = .ok (.lconst 0, 1) := by decide +kernel
theorem dR_remainderOfSizes_33 : decode bR_remainderOfSizes 33 = .ok (.lcmp, 1) := by decide +kernel
theorem dR_remainderOfSizes_34 : decode bR_remainderOfSizes 34 = .ok (.ifCond .ge 7, 3) := by decide +kernel
theorem dR_remainderOfSizes_37 : decode bR_remainderOfSizes 37 = .ok (.iconst 1, 1) := by decide +kernel
theorem dR_remainderOfSizes_38 : decode bR_remainderOfSizes 38 = .ok (.goto 4, 3) := by decide +kernel
theorem dR_remainderOfSizes_41 : decode bR_remainderOfSizes 41 = .ok (.iconst 0, 1) := by decide +kernel
theorem dR_remainderOfSizes_42 : decode bR_remainderOfSizes 42 = .ok (.lload_n 3, 1) := by decide +kernel
theorem dR_remainderOfSizes_43 : decode bR_remainderOfSizes 43 = .ok (.iconst 0, 1) := by decide +kernel
theorem dR_remainderOfSizes_44 : decode bR_remainderOfSizes 44 = .ok (.aload_n 1, 1) := by decide +kernel
theorem dR_remainderOfSizes_45 : decode bR_remainderOfSizes 45 = .ok (.getfield 57, 3) := by decide +kernel
theorem dR_remainderOfSizes_48 : decode bR_remainderOfSizes 48 = .ok (.invokevirtual 64, 3) := by decide +kernel
theorem dR_remainderOfSizes_51 : decode bR_remainderOfSizes 51 = .ok (.goto 58, 3) := by decide +kernel
theorem dR_remainderOfSizes_54 : decode bR_remainderOfSizes 54 = .ok (.iload_n 2, 1) := by decide +kernel
theorem dR_remainderOfSizes_55 : decode bR_remainderOfSizes 55 = .ok (.ineg, 1) := by decide +kernel
theorem dR_remainderOfSizes_56 : decode bR_remainderOfSizes 56 = .ok (.aload_n 1, 1) := by decide +kernel
theorem dR_remainderOfSizes_57 : decode bR_remainderOfSizes 57 = .ok (.invokevirtual 47, 3) := by decide +kernel
theorem dR_remainderOfSizes_60 : decode bR_remainderOfSizes 60 = .ok (.invokestatic 51, 3) := by decide +kernel
theorem dR_remainderOfSizes_63 : decode bR_remainderOfSizes 63 = .ok (.if_icmp .ge 46, 3) := by decide +kernel
theorem dR_remainderOfSizes_66 : decode bR_remainderOfSizes 66 = .ok (.aload_n 1, 1) := by decide +kernel
theorem dR_remainderOfSizes_67 : decode bR_remainderOfSizes 67 = .ok (.invokevirtual 47, 3) := by decide +kernel
theorem dR_remainderOfSizes_70 : decode bR_remainderOfSizes 70 = .ok (.iload_n 2, 1) := by decide +kernel
theorem dR_remainderOfSizes_71 : decode bR_remainderOfSizes 71 = .ok (.ineg, 1) := by decide +kernel
theorem dR_remainderOfSizes_72 : decode bR_remainderOfSizes 72 = .ok (.lshl, 1) := by decide +kernel
theorem dR_remainderOfSizes_73 : decode bR_remainderOfSizes 73 = .ok (.lstore_n 3, 1) := by decide +kernel
theorem dR_remainderOfSizes_74 : decode bR_remainderOfSizes 74 = .ok (.lload_n 3, 1) := by decide +kernel
theorem dR_remainderOfSizes_75 : decode bR_remainderOfSizes 75 = .ok (.lconst 0, 1) := by decide +kernel
theorem dR_remainderOfSizes_76 : decode bR_remainderOfSizes 76 = .ok (.lcmp, 1) := by decide +kernel
theorem dR_remainderOfSizes_77 : decode bR_remainderOfSizes 77 = .ok (.ifCond .eq 32, 3) := by decide +kernel
theorem dR_remainderOfSizes_80 : decode bR_remainderOfSizes 80 = .ok (.aload_n 0, 1) := by decide +kernel
theorem dR_remainderOfSizes_81 : decode bR_remainderOfSizes 81 = .ok (.aload_n 0, 1) := by decide +kernel
theorem dR_remainderOfSizes_82 : decode bR_remainderOfSizes 82 = .ok (.getfield 29, 3) := by decide +kernel
theorem dR_remainderOfSizes_85 : decode bR_remainderOfSizes 85 = .ok (.lconst 0, 1) := by decide +kernel
theorem dR_remainderOfSizes_86 : decode bR_remainderOfSizes 86 = .ok (.lcmp, 1) := by decide +kernel
theorem dR_remainderOfSizes_87 : decode bR_remainderOfSizes 87 = .ok (.ifCond .ge 7, 3) := by decide +kernel
theorem dR_remainderOfSizes_90 : decode bR_remainderOfSizes 90 = .ok (.iconst 1, 1) := by decide +kernel
theorem dR_remainderOfSizes_91 : decode bR_remainderOfSizes 91 = .ok (.goto 4, 3) := by decide +kernel
theorem dR_remainderOfSizes_94 : decode bR_remainderOfSizes 94 = .ok (.iconst 0, 1) := by decide +kernel
theorem dR_remainderOfSizes_95 : decode bR_remainderOfSizes 95 = .ok (.aload_n 0, 1) := by decide +kernel
theorem dR_remainderOfSizes_96 : decode bR_remainderOfSizes 96 = .ok (.invokevirtual 47, 3) := by decide +kernel
theorem dR_remainderOfSizes_99 : decode bR_remainderOfSizes 99 = .ok (.lload_n 3, 1) := by decide +kernel
theorem dR_remainderOfSizes_100 : decode bR_remainderOfSizes 100 = .ok (.lrem, 1) := by decide +kernel
theorem dR_remainderOfSizes_101 : decode bR_remainderOfSizes 101 = .ok (.iconst 0, 1) := by decide +kernel
theorem dR_remainderOfSizes_102 : decode bR_remainderOfSizes 102 = .ok (.aload_n 0, 1) := by decide +kernel
theorem dR_remainderOfSizes_103 : decode bR_remainderOfSizes 103 = .ok (.getfield 57, 3) := by decide +kernel
theorem dR_remainderOfSizes_106 : decode bR_remainderOfSizes 106 = .ok (.invokevirtual 64, 3) := by decide +kernel
theorem dR_remainderOfSizes_109 : decode bR_remainderOfSizes 109 = .ok (.return_, 1) := by decide +kernel
theorem dR_remainderAbove_0 : decode bR_remainderAbove 0 = .ok (.lload_n 3, 1) := by decide +kernel
theorem dR_remainderAbove_1 : decode bR_remainderAbove 1 = .ok (.lconst 0, 1) := by decide +kernel
theorem dR_remainderAbove_2 : decode bR_remainderAbove 2 = .ok (.lcmp, 1) := by decide +kernel
theorem dR_remainderAbove_3 : decode bR_remainderAbove 3 = .ok (.ifCond .ne 5, 3) := by decide +kernel
theorem dR_remainderAbove_6 : decode bR_remainderAbove 6 = .ok (.lconst 0, 1) := by decide +kernel
theorem dR_remainderAbove_7 : decode bR_remainderAbove 7 = .ok (.lreturn, 1) := by decide +kernel
theorem dR_remainderAbove_8 : decode bR_remainderAbove 8 = .ok (.lload_n 0, 1) := by decide +kernel
theorem dR_remainderAbove_9 : decode bR_remainderAbove 9 = .ok (.lload_n 3, 1) := by decide +kernel
theorem dR_remainderAbove_10 : decode bR_remainderAbove 10 = .ok (.lrem, 1) := by decide +kernel
theorem dR_remainderAbove_11 : decode bR_remainderAbove 11 = .ok (.lstore 5, 2) := by decide +kernel
theorem dR_remainderAbove_13 : decode bR_remainderAbove 13 = .ok (.iload_n 2, 1) := by decide +kernel
theorem dR_remainderAbove_14 : decode bR_remainderAbove 14 = .ok (.istore 7, 2) := by decide +kernel
theorem dR_remainderAbove_16 : decode bR_remainderAbove 16 = .ok (.iload 7, 2) := by decide +kernel
theorem dR_remainderAbove_18 : decode bR_remainderAbove 18 = .ok (.ifCond .le 23, 3) := by decide +kernel
theorem dR_remainderAbove_21 : decode bR_remainderAbove 21 = .ok (.lload 5, 2) := by decide +kernel
theorem dR_remainderAbove_23 : decode bR_remainderAbove 23 = .ok (.iload 7, 2) := by decide +kernel
theorem dR_remainderAbove_25 : decode bR_remainderAbove 25 = .ok (.bipush 10, 2) := by decide +kernel
theorem dR_remainderAbove_27 : decode bR_remainderAbove 27 = .ok (.invokestatic 80, 3) := by decide +kernel
theorem dR_remainderAbove_30 : decode bR_remainderAbove 30 = .ok (.lshl, 1) := by decide +kernel
theorem dR_remainderAbove_31 : decode bR_remainderAbove 31 = .ok (.lload_n 3, 1) := by decide +kernel
theorem dR_remainderAbove_32 : decode bR_remainderAbove 32 = .ok (.lrem, 1) := by decide +kernel
theorem dR_remainderAbove_33 : decode bR_remainderAbove 33 = .ok (.lstore 5, 2) := by decide +kernel
theorem dR_remainderAbove_35 : decode bR_remainderAbove 35 = .ok (.iinc 7 (-10), 3) := by decide +kernel
theorem dR_remainderAbove_38 : decode bR_remainderAbove 38 = .ok (.goto (-22), 3) := by decide +kernel
theorem dR_remainderAbove_41 : decode bR_remainderAbove 41 = .ok (.lload 5, 2) := by decide +kernel
theorem dR_remainderAbove_43 : decode bR_remainderAbove 43 = .ok (.lreturn, 1) := by decide +kernel
theorem dR_divide_0 : decode bR_divide 0 = .ok (.aload_n 0, 1) := by decide +kernel
theorem dR_divide_1 : decode bR_divide 1 = .ok (.aload_n 1, 1) := by decide +kernel
theorem dR_divide_2 : decode bR_divide 2 = .ok (.invokestatic 17, 3) := by decide +kernel
theorem dR_divide_5 : decode bR_divide 5 = .ok (.ifCond .ne 17, 3) := by decide +kernel
theorem dR_divide_8 : decode bR_divide 8 = .ok (.aload_n 0, 1) := by decide +kernel
theorem dR_divide_9 : decode bR_divide 9 = .ok (.invokevirtual 25, 3) := by decide +kernel
theorem dR_divide_12 : decode bR_divide 12 = .ok (.ifCond .eq 18, 3) := by decide +kernel
theorem dR_divide_15 : decode bR_divide 15 = .ok (.aload_n 1, 1) := by decide +kernel
theorem dR_divide_16 : decode bR_divide 16 = .ok (.invokevirtual 25, 3) := by decide +kernel
theorem dR_divide_19 : decode bR_divide 19 = .ok (.ifCond .eq 11, 3) := by decide +kernel
theorem dR_divide_22 : decode bR_divide 22 = .ok (.aload_n 0, 1) := by decide +kernel
theorem dR_divide_23 : decode bR_divide 23 = .ok (.iconst 5, 1) := by decide +kernel
theorem dR_divide_24 : decode bR_divide 24 = .ok (.invokevirtual 21, 3) := by decide +kernel
theorem dR_divide_27 : decode bR_divide 27 = .ok (.goto 77, 3) := by decide +kernel
theorem dR_divide_30 : decode bR_divide 30 = .ok (.aload_n 1, 1) := by decide +kernel
theorem dR_divide_31 : decode bR_divide 31 = .ok (.invokevirtual 25, 3) := by decide +kernel
theorem dR_divide_34 : decode bR_divide 34 = .ok (.ifCond .eq 10, 3) := by decide +kernel
theorem dR_divide_37 : decode bR_divide 37 = .ok (.aload_n 0, 1) := by decide +kernel
theorem dR_divide_38 : decode bR_divide 38 = .ok (.invokevirtual 86, 3) := by decide +kernel
theorem dR_divide_41 : decode bR_divide 41 = .ok (.goto 63, 3) := by decide +kernel
theorem dR_divide_44 : decode bR_divide 44 = .ok (.aload_n 1, 1) := by decide +kernel
theorem dR_divide_45 : decode bR_divide 45 = .ok (.getfield 29, 3) := by decide +kernel
theorem dR_divide_48 : decode bR_divide 48 = .ok (.lconst 0, 1) := by decide +kernel
theorem dR_divide_49 : decode bR_divide 49 = .ok (.lcmp, 1) := by decide +kernel
theorem dR_divide_50 : decode bR_divide 50 = .ok (.ifCond .ne 10, 3) := by decide +kernel
theorem dR_divide_53 : decode bR_divide 53 = .ok (.aload_n 0, 1) := by decide +kernel
theorem dR_divide_54 : decode bR_divide 54 = .ok (.invokestatic 89, 3) := by decide +kernel
theorem dR_divide_57 : decode bR_divide 57 = .ok (.goto 47, 3) := by decide +kernel
theorem dR_divide_60 : decode bR_divide 60 = .ok (.aload_n 0, 1) := by decide +kernel
theorem dR_divide_61 : decode bR_divide 61 = .ok (.invokevirtual 25, 3) := by decide +kernel
theorem dR_divide_64 : decode bR_divide 64 = .ok (.ifCond .eq 26, 3) := by decide +kernel
theorem dR_divide_67 : decode bR_divide 67 = .ok (.aload_n 0, 1) := by decide +kernel
theorem dR_divide_68 : decode bR_divide 68 = .ok (.aload_n 0, 1) := by decide +kernel
theorem dR_divide_69 : decode bR_divide 69 = .ok (.invokevirtual 60, 3) := by decide +kernel
theorem dR_divide_72 : decode bR_divide 72 = .ok (.aload_n 1, 1) := by decide +kernel
theorem dR_divide_73 : decode bR_divide 73 = .ok (.invokevirtual 60, 3) := by decide +kernel
theorem dR_divide_76 : decode bR_divide 76 = .ok (.if_icmp .eq 7, 3) := by decide +kernel
theorem dR_divide_79 : decode bR_divide 79 = .ok (.iconst 1, 1) := by decide +kernel
theorem dR_divide_80 : decode bR_divide 80 = .ok (.goto 4, 3) := by decide +kernel
theorem dR_divide_83 : decode bR_divide 83 = .ok (.iconst 0, 1) := by decide +kernel
theorem dR_divide_84 : decode bR_divide 84 = .ok (.invokevirtual 72, 3) := by decide +kernel
theorem dR_divide_87 : decode bR_divide 87 = .ok (.goto 17, 3) := by decide +kernel
theorem dR_divide_90 : decode bR_divide 90 = .ok (.aload_n 0, 1) := by decide +kernel
theorem dR_divide_91 : decode bR_divide 91 = .ok (.getfield 29, 3) := by decide +kernel
theorem dR_divide_94 : decode bR_divide 94 = .ok (.lconst 0, 1) := by decide +kernel
theorem dR_divide_95 : decode bR_divide 95 = .ok (.lcmp, 1) := by decide +kernel
theorem dR_divide_96 : decode bR_divide 96 = .ok (.ifCond .eq 8, 3) := by decide +kernel
theorem dR_divide_99 : decode bR_divide 99 = .ok (.aload_n 0, 1) := by decide +kernel
theorem dR_divide_100 : decode bR_divide 100 = .ok (.aload_n 1, 1) := by decide +kernel
theorem dR_divide_101 : decode bR_divide 101 = .ok (.invokestatic 92, 3) := by decide +kernel
theorem dR_divide_104 : decode bR_divide 104 = .ok (.return_, 1) := by decide +kernel
theorem dR_divideByZero_0 : decode bR_divideByZero 0 = .ok (.aload_n 0, 1) := by decide +kernel
theorem dR_divideByZero_1 : decode bR_divideByZero 1 = .ok (.invokevirtual 60, 3) := by decide +kernel
theorem dR_divideByZero_4 : decode bR_divideByZero 4 = .ok (.ifCond .ne 11, 3) := by decide +kernel
theorem dR_divideByZero_7 : decode bR_divideByZero 7 = .ok (.aload_n 0, 1) := by decide +kernel
theorem dR_divideByZero_8 : decode bR_divideByZero 8 = .ok (.iconst 5, 1) := by decide +kernel
theorem dR_divideByZero_9 : decode bR_divideByZero 9 = .ok (.invokevirtual 21, 3) := by decide +kernel
theorem dR_divideByZero_12 : decode bR_divideByZero 12 = .ok (.goto 19, 3) := by decide +kernel
theorem dR_divideByZero_15 : decode bR_divideByZero 15 = .ok (.aload_n 0, 1) := by decide +kernel
theorem dR_divideByZero_16 : decode bR_divideByZero 16 = .ok (.aload_n 0, 1) := by decide +kernel
theorem dR_divideByZero_17 : decode bR_divideByZero 17 = .ok (.invokevirtual 60, 3) := by decide +kernel
theorem dR_divideByZero_20 : decode bR_divideByZero 20 = .ok (.ifCond .ge 7, 3) := by decide +kernel
theorem dR_divideByZero_23 : decode bR_divideByZero 23 = .ok (.iconst 1, 1) := by decide +kernel
theorem dR_divideByZero_24 : decode bR_divideByZero 24 = .ok (.goto 4, 3) := by decide +kernel
theorem dR_divideByZero_27 : decode bR_divideByZero 27 = .ok (.iconst 0, 1) := by decide +kernel
theorem dR_divideByZero_28 : decode bR_divideByZero 28 = .ok (.invokevirtual 72, 3) := by decide +kernel
theorem dR_divideByZero_31 : decode bR_divideByZero 31 = .ok (.return_, 1) := by decide +kernel
theorem dR_divideFinite_0 : decode bR_divideFinite 0 = .ok (.aload_n 0, 1) := by decide +kernel
theorem dR_divideFinite_1 : decode bR_divideFinite 1 = .ok (.invokevirtual 47, 3) := by decide +kernel
theorem dR_divideFinite_4 : decode bR_divideFinite 4 = .ok (.invokestatic 51, 3) := by decide +kernel
theorem dR_divideFinite_7 : decode bR_divideFinite 7 = .ok (.bipush 11, 2) := by decide +kernel
theorem dR_divideFinite_9 : decode bR_divideFinite 9 = .ok (.isub, 1) := by decide +kernel
theorem dR_divideFinite_10 : decode bR_divideFinite 10 = .ok (.istore_n 2, 1) := by decide +kernel
theorem dR_divideFinite_11 : decode bR_divideFinite 11 = .ok (.aload_n 1, 1) := by decide +kernel
theorem dR_divideFinite_12 : decode bR_divideFinite 12 = .ok (.invokevirtual 47, 3) := by decide +kernel
theorem dR_divideFinite_15 : decode bR_divideFinite 15 = .ok (.invokestatic 51, 3) := by decide +kernel
theorem dR_divideFinite_18 : decode bR_divideFinite 18 = .ok (.bipush 11, 2) := by decide +kernel
theorem dR_divideFinite_20 : decode bR_divideFinite 20 = .ok (.isub, 1) := by decide +kernel
theorem dR_divideFinite_21 : decode bR_divideFinite 21 = .ok (.istore_n 3, 1) := by decide +kernel
theorem dR_divideFinite_22 : decode bR_divideFinite 22 = .ok (.aload_n 1, 1) := by decide +kernel
theorem dR_divideFinite_23 : decode bR_divideFinite 23 = .ok (.invokevirtual 47, 3) := by decide +kernel
theorem dR_divideFinite_26 : decode bR_divideFinite 26 = .ok (.iload_n 3, 1) := by decide +kernel
theorem dR_divideFinite_27 : decode bR_divideFinite 27 = .ok (.lshl, 1) := by decide +kernel
theorem dR_divideFinite_28 : decode bR_divideFinite 28 = .ok (.lstore 4, 2) := by decide +kernel
theorem dR_divideFinite_30 : decode bR_divideFinite 30 = .ok (.lload 4, 2) := by decide +kernel
theorem dR_divideFinite_32 : decode bR_divideFinite 32 = .ok (.lconst 0, 1) := by decide +kernel
theorem dR_divideFinite_33 : decode bR_divideFinite 33 = .ok (.lcmp, 1) := by decide +kernel
theorem dR_divideFinite_34 : decode bR_divideFinite 34 = .ok (.ifCond .ne 4, 3) := by decide +kernel
theorem dR_divideFinite_37 : decode bR_divideFinite 37 = .ok (.return_, 1) := by decide +kernel
theorem dR_divideFinite_38 : decode bR_divideFinite 38 = .ok (.aload_n 0, 1) := by decide +kernel
theorem dR_divideFinite_39 : decode bR_divideFinite 39 = .ok (.invokevirtual 60, 3) := by decide +kernel
theorem dR_divideFinite_42 : decode bR_divideFinite 42 = .ok (.aload_n 1, 1) := by decide +kernel
theorem dR_divideFinite_43 : decode bR_divideFinite 43 = .ok (.invokevirtual 60, 3) := by decide +kernel
theorem dR_divideFinite_46 : decode bR_divideFinite 46 = .ok (.if_icmp .eq 7, 3) := by decide +kernel
theorem dR_divideFinite_49 : decode bR_divideFinite 49 = .ok (.iconst 1, 1) := by decide +kernel
theorem dR_divideFinite_50 : decode bR_divideFinite 50 = .ok (.goto 4, 3) := by decide +kernel
theorem dR_divideFinite_53 : decode bR_divideFinite 53 = .ok (.iconst 0, 1) := by decide +kernel
theorem dR_divideFinite_54 : decode bR_divideFinite 54 = .ok (.istore 6, 2) := by decide +kernel
theorem dR_divideFinite_56 : decode bR_divideFinite 56 = .ok (.aload_n 0, 1) := by decide +kernel
theorem dR_divideFinite_57 : decode bR_divideFinite 57 = .ok (.getfield 57, 3) := by decide +kernel
theorem dR_divideFinite_60 : decode bR_divideFinite 60 = .ok (.iload_n 2, 1) := by decide +kernel
theorem dR_divideFinite_61 : decode bR_divideFinite 61 = .ok (.isub, 1) := by decide +kernel
theorem dR_divideFinite_62 : decode bR_divideFinite 62 = .ok (.aload_n 1, 1) := by decide +kernel
theorem dR_divideFinite_63 : decode bR_divideFinite 63 = .ok (.getfield 57, 3) := by decide +kernel
theorem dR_divideFinite_66 : decode bR_divideFinite 66 = .ok (.iload_n 3, 1) := by decide +kernel
theorem dR_divideFinite_67 : decode bR_divideFinite 67 = .ok (.isub, 1) := by decide +kernel
theorem dR_divideFinite_68 : decode bR_divideFinite 68 = .ok (.isub, 1) := by decide +kernel
theorem dR_divideFinite_69 : decode bR_divideFinite 69 = .ok (.bipush 60, 2) := by decide +kernel
theorem dR_divideFinite_71 : decode bR_divideFinite 71 = .ok (.isub, 1) := by decide +kernel
theorem dR_divideFinite_72 : decode bR_divideFinite 72 = .ok (.istore 7, 2) := by decide +kernel
theorem dR_divideFinite_74 : decode bR_divideFinite 74 = .ok (.aload_n 0, 1) := by decide +kernel
theorem dR_divideFinite_75 : decode bR_divideFinite 75 = .ok (.invokevirtual 47, 3) := by decide +kernel
theorem dR_divideFinite_78 : decode bR_divideFinite 78 = .ok (.iload_n 2, 1) := by decide +kernel
theorem dR_divideFinite_79 : decode bR_divideFinite 79 = .ok (.lshl, 1) := by decide +kernel
theorem dR_divideFinite_80 : decode bR_divideFinite 80 = .ok (.lstore 8, 2) := by decide +kernel
theorem dR_divideFinite_82 : decode bR_divideFinite 82 = .ok (.lload 8, 2) := by decide +kernel
theorem dR_divideFinite_84 : decode bR_divideFinite 84 = .ok (.lload 4, 2) := by decide +kernel
theorem dR_divideFinite_86 : decode bR_divideFinite 86 = .ok (.ldiv, 1) := by decide +kernel
theorem dR_divideFinite_87 : decode bR_divideFinite 87 = .ok (.lstore 10, 2) := by decide +kernel
theorem dR_divideFinite_89 : decode bR_divideFinite 89 = .ok (.lload 8, 2) := by decide +kernel
theorem dR_divideFinite_91 : decode bR_divideFinite 91 = .ok (.lload 4, 2) := by decide +kernel
theorem dR_divideFinite_93 : decode bR_divideFinite 93 = .ok (.lrem, 1) := by decide +kernel
theorem dR_divideFinite_94 : decode bR_divideFinite 94 = .ok (.lstore 8, 2) := by decide +kernel
theorem dR_divideFinite_96 : decode bR_divideFinite 96 = .ok (.iconst 0, 1) := by decide +kernel
theorem dR_divideFinite_97 : decode bR_divideFinite 97 = .ok (.istore 12, 2) := by decide +kernel
theorem dR_divideFinite_99 : decode bR_divideFinite 99 = .ok (.iload 12, 2) := by decide +kernel
theorem dR_divideFinite_101 : decode bR_divideFinite 101 = .ok (.bipush 6, 2) := by decide +kernel
theorem dR_divideFinite_103 : decode bR_divideFinite 103 = .ok (.if_icmp .ge 36, 3) := by decide +kernel
theorem dR_divideFinite_106 : decode bR_divideFinite 106 = .ok (.lload 8, 2) := by decide +kernel
theorem dR_divideFinite_108 : decode bR_divideFinite 108 = .ok (.bipush 10, 2) := by decide +kernel
theorem dR_divideFinite_110 : decode bR_divideFinite 110 = .ok (.lshl, 1) := by decide +kernel
theorem dR_divideFinite_111 : decode bR_divideFinite 111 = .ok (.lstore 8, 2) := by decide +kernel
theorem dR_divideFinite_113 : decode bR_divideFinite 113 = .ok (.lload 10, 2) := by decide +kernel
theorem dR_divideFinite_115 : decode bR_divideFinite 115 = .ok (.bipush 10, 2) := by decide +kernel
theorem dR_divideFinite_117 : decode bR_divideFinite 117 = .ok (.lshl, 1) := by decide +kernel
theorem dR_divideFinite_118 : decode bR_divideFinite 118 = .ok (.lload 8, 2) := by decide +kernel
theorem dR_divideFinite_120 : decode bR_divideFinite 120 = .ok (.lload 4, 2) := by decide +kernel
theorem dR_divideFinite_122 : decode bR_divideFinite 122 = .ok (.ldiv, 1) := by decide +kernel
theorem dR_divideFinite_123 : decode bR_divideFinite 123 = .ok (.ladd, 1) := by decide +kernel
theorem dR_divideFinite_124 : decode bR_divideFinite 124 = .ok (.lstore 10, 2) := by decide +kernel
theorem dR_divideFinite_126 : decode bR_divideFinite 126 = .ok (.lload 8, 2) := by decide +kernel
theorem dR_divideFinite_128 : decode bR_divideFinite 128 = .ok (.lload 4, 2) := by decide +kernel
theorem dR_divideFinite_130 : decode bR_divideFinite 130 = .ok (.lrem, 1) := by decide +kernel
theorem dR_divideFinite_131 : decode bR_divideFinite 131 = .ok (.lstore 8, 2) := by decide +kernel
theorem dR_divideFinite_133 : decode bR_divideFinite 133 = .ok (.iinc 12 1, 3) := by decide +kernel
theorem dR_divideFinite_136 : decode bR_divideFinite 136 = .ok (.goto (-37), 3) := by decide +kernel
theorem dR_divideFinite_139 : decode bR_divideFinite 139 = .ok (.aload_n 0, 1) := by decide +kernel
theorem dR_divideFinite_140 : decode bR_divideFinite 140 = .ok (.iload 6, 2) := by decide +kernel
theorem dR_divideFinite_142 : decode bR_divideFinite 142 = .ok (.lload 10, 2) := by decide +kernel
theorem dR_divideFinite_144 : decode bR_divideFinite 144 = .ok (.lload 8, 2) := by decide +kernel
theorem dR_divideFinite_146 : decode bR_divideFinite 146 = .ok (.lconst 0, 1) := by decide +kernel
theorem dR_divideFinite_147 : decode bR_divideFinite 147 = .ok (.lcmp, 1) := by decide +kernel
theorem dR_divideFinite_148 : decode bR_divideFinite 148 = .ok (.ifCond .eq 7, 3) := by decide +kernel
theorem dR_divideFinite_151 : decode bR_divideFinite 151 = .ok (.iconst 1, 1) := by decide +kernel
theorem dR_divideFinite_152 : decode bR_divideFinite 152 = .ok (.goto 4, 3) := by decide +kernel
theorem dR_divideFinite_155 : decode bR_divideFinite 155 = .ok (.iconst 0, 1) := by decide +kernel
theorem dR_divideFinite_156 : decode bR_divideFinite 156 = .ok (.iload 7, 2) := by decide +kernel
theorem dR_divideFinite_158 : decode bR_divideFinite 158 = .ok (.invokevirtual 64, 3) := by decide +kernel
theorem dR_divideFinite_161 : decode bR_divideFinite 161 = .ok (.return_, 1) := by decide +kernel
theorem dV_roundDown_0 : decode bV_roundDown 0 = .ok (.aload_n 0, 1) := by decide +kernel
theorem dV_roundDown_1 : decode bV_roundDown 1 = .ok (.getfield 9, 3) := by decide +kernel
theorem dV_roundDown_4 : decode bV_roundDown 4 = .ok (.iconst 2, 1) := by decide +kernel
theorem dV_roundDown_5 : decode bV_roundDown 5 = .ok (.if_icmp .ne 19, 3) := by decide +kernel
theorem dV_roundDown_8 : decode bV_roundDown 8 = .ok (.aload_n 0, 1) := by decide +kernel
theorem dV_roundDown_9 : decode bV_roundDown 9 = .ok (.getfield 19, 3) := by decide +kernel
theorem dV_roundDown_12 : decode bV_roundDown 12 = .ok (.ifCond .ge 12, 3) := by decide +kernel
theorem dV_roundDown_15 : decode bV_roundDown 15 = .ok (.aload_n 0, 1) := by decide +kernel
theorem dV_roundDown_16 : decode bV_roundDown 16 = .ok (.aload_n 0, 1) := by decide +kernel
theorem dV_roundDown_17 : decode bV_roundDown 17 = .ok (.invokevirtual 67, 3) := by decide +kernel
theorem dV_roundDown_20 : decode bV_roundDown 20 = .ok (.iconst 0, 1) := by decide +kernel
theorem dV_roundDown_21 : decode bV_roundDown 21 = .ok (.invokevirtual 70, 3) := by decide +kernel
theorem dV_roundDown_24 : decode bV_roundDown 24 = .ok (.return_, 1) := by decide +kernel
theorem dV_floor_0 : decode bV_floor 0 = .ok (.aload_n 0, 1) := by decide +kernel
theorem dV_floor_1 : decode bV_floor 1 = .ok (.getfield 19, 3) := by decide +kernel
theorem dV_floor_4 : decode bV_floor 4 = .ok (.ifCond .ge 21, 3) := by decide +kernel
theorem dV_floor_7 : decode bV_floor 7 = .ok (.aload_n 0, 1) := by decide +kernel
theorem dV_floor_8 : decode bV_floor 8 = .ok (.getfield 15, 3) := by decide +kernel
theorem dV_floor_11 : decode bV_floor 11 = .ok (.aload_n 0, 1) := by decide +kernel
theorem dV_floor_12 : decode bV_floor 12 = .ok (.getfield 19, 3) := by decide +kernel
theorem dV_floor_15 : decode bV_floor 15 = .ok (.ineg, 1) := by decide +kernel
theorem dV_floor_16 : decode bV_floor 16 = .ok (.bipush 63, 2) := by decide +kernel
theorem dV_floor_18 : decode bV_floor 18 = .ok (.invokestatic 56, 3) := by decide +kernel
theorem dV_floor_21 : decode bV_floor 21 = .ok (.lshr, 1) := by decide +kernel
theorem dV_floor_22 : decode bV_floor 22 = .ok (.goto 12, 3) := by decide +kernel
theorem dV_floor_25 : decode bV_floor 25 = .ok (.aload_n 0, 1) := by decide +kernel
theorem dV_floor_26 : decode bV_floor 26 = .ok (.getfield 15, 3) := by decide +kernel
theorem dV_floor_29 : decode bV_floor 29 = .ok (.aload_n 0, 1) := by decide +kernel
theorem dV_floor_30 : decode bV_floor 30 = .ok (.getfield 19, 3) := by decide +kernel
theorem dV_floor_33 : decode bV_floor 33 = .ok (.lshl, 1) := by decide +kernel
theorem dV_floor_34 : decode bV_floor 34 = .ok (.lreturn, 1) := by decide +kernel
theorem dJM_floorDiv_0 : decode bJM_floorDiv 0 = .ok (.lload_n 0, 1) := by decide +kernel
theorem dJM_floorDiv_1 : decode bJM_floorDiv 1 = .ok (.lload_n 2, 1) := by decide +kernel
theorem dJM_floorDiv_2 : decode bJM_floorDiv 2 = .ok (.ldiv, 1) := by decide +kernel
theorem dJM_floorDiv_3 : decode bJM_floorDiv 3 = .ok (.lstore 4, 2) := by decide +kernel
theorem dJM_floorDiv_5 : decode bJM_floorDiv 5 = .ok (.lload_n 0, 1) := by decide +kernel
theorem dJM_floorDiv_6 : decode bJM_floorDiv 6 = .ok (.lload_n 2, 1) := by decide +kernel
theorem dJM_floorDiv_7 : decode bJM_floorDiv 7 = .ok (.lxor, 1) := by decide +kernel
theorem dJM_floorDiv_8 : decode bJM_floorDiv 8 = .ok (.lconst 0, 1) := by decide +kernel
theorem dJM_floorDiv_9 : decode bJM_floorDiv 9 = .ok (.lcmp, 1) := by decide +kernel
theorem dJM_floorDiv_10 : decode bJM_floorDiv 10 = .ok (.ifCond .ge 17, 3) := by decide +kernel
theorem dJM_floorDiv_13 : decode bJM_floorDiv 13 = .ok (.lload 4, 2) := by decide +kernel
theorem dJM_floorDiv_15 : decode bJM_floorDiv 15 = .ok (.lload_n 2, 1) := by decide +kernel
theorem dJM_floorDiv_16 : decode bJM_floorDiv 16 = .ok (.lmul, 1) := by decide +kernel
theorem dJM_floorDiv_17 : decode bJM_floorDiv 17 = .ok (.lload_n 0, 1) := by decide +kernel
theorem dJM_floorDiv_18 : decode bJM_floorDiv 18 = .ok (.lcmp, 1) := by decide +kernel
theorem dJM_floorDiv_19 : decode bJM_floorDiv 19 = .ok (.ifCond .eq 8, 3) := by decide +kernel
theorem dJM_floorDiv_22 : decode bJM_floorDiv 22 = .ok (.lload 4, 2) := by decide +kernel
theorem dJM_floorDiv_24 : decode bJM_floorDiv 24 = .ok (.lconst 1, 1) := by decide +kernel
theorem dJM_floorDiv_25 : decode bJM_floorDiv 25 = .ok (.lsub, 1) := by decide +kernel
theorem dJM_floorDiv_26 : decode bJM_floorDiv 26 = .ok (.lreturn, 1) := by decide +kernel
theorem dJM_floorDiv_27 : decode bJM_floorDiv 27 = .ok (.lload 4, 2) := by decide +kernel
theorem dJM_floorDiv_29 : decode bJM_floorDiv 29 = .ok (.lreturn, 1) := by decide +kernel
theorem dJM_floorMod_0 : decode bJM_floorMod 0 = .ok (.lload_n 0, 1) := by decide +kernel
theorem dJM_floorMod_1 : decode bJM_floorMod 1 = .ok (.lload_n 2, 1) := by decide +kernel
theorem dJM_floorMod_2 : decode bJM_floorMod 2 = .ok (.lrem, 1) := by decide +kernel
theorem dJM_floorMod_3 : decode bJM_floorMod 3 = .ok (.lstore 4, 2) := by decide +kernel
theorem dJM_floorMod_5 : decode bJM_floorMod 5 = .ok (.lload_n 0, 1) := by decide +kernel
theorem dJM_floorMod_6 : decode bJM_floorMod 6 = .ok (.lload_n 2, 1) := by decide +kernel
theorem dJM_floorMod_7 : decode bJM_floorMod 7 = .ok (.lxor, 1) := by decide +kernel
theorem dJM_floorMod_8 : decode bJM_floorMod 8 = .ok (.lconst 0, 1) := by decide +kernel
theorem dJM_floorMod_9 : decode bJM_floorMod 9 = .ok (.lcmp, 1) := by decide +kernel
theorem dJM_floorMod_10 : decode bJM_floorMod 10 = .ok (.ifCond .ge 15, 3) := by decide +kernel
theorem dJM_floorMod_13 : decode bJM_floorMod 13 = .ok (.lload 4, 2) := by decide +kernel
theorem dJM_floorMod_15 : decode bJM_floorMod 15 = .ok (.lconst 0, 1) := by decide +kernel
theorem dJM_floorMod_16 : decode bJM_floorMod 16 = .ok (.lcmp, 1) := by decide +kernel
theorem dJM_floorMod_17 : decode bJM_floorMod 17 = .ok (.ifCond .eq 8, 3) := by decide +kernel
theorem dJM_floorMod_20 : decode bJM_floorMod 20 = .ok (.lload 4, 2) := by decide +kernel
theorem dJM_floorMod_22 : decode bJM_floorMod 22 = .ok (.lload_n 2, 1) := by decide +kernel
theorem dJM_floorMod_23 : decode bJM_floorMod 23 = .ok (.ladd, 1) := by decide +kernel
theorem dJM_floorMod_24 : decode bJM_floorMod 24 = .ok (.lreturn, 1) := by decide +kernel
theorem dJM_floorMod_25 : decode bJM_floorMod 25 = .ok (.lload 4, 2) := by decide +kernel
theorem dJM_floorMod_27 : decode bJM_floorMod 27 = .ok (.lreturn, 1) := by decide +kernel
theorem dN_power_0 : decode bN_power 0 = .ok (.aload_n 0, 1) := by decide +kernel
theorem dN_power_1 : decode bN_power 1 = .ok (.getfield 20, 3) := by decide +kernel
theorem dN_power_4 : decode bN_power 4 = .ok (.invokevirtual 135, 3) := by decide +kernel
theorem dN_power_7 : decode bN_power 7 = .ok (.ifCond .eq 13, 3) := by decide +kernel
theorem dN_power_10 : decode bN_power 10 = .ok (.aload_n 0, 1) := by decide +kernel
theorem dN_power_11 : decode bN_power 11 = .ok (.getfield 20, 3) := by decide +kernel
theorem dN_power_14 : decode bN_power 14 = .ok (.invokevirtual 138, 3) := by decide +kernel
theorem dN_power_17 : decode bN_power 17 = .ok (.goto 6, 3) := by decide +kernel
theorem dN_power_20 : decode bN_power 20 = .ok (.ldc2_w 142, 3) := by decide +kernel
theorem dN_power_23 : decode bN_power 23 = .ok (.lstore_n 1, 1) := by decide +kernel
theorem dN_power_24 : decode bN_power 24 = .ok (.lload_n 1, 1) := by decide +kernel
theorem dN_power_25 : decode bN_power 25 = .ok (.ldc2_w 144, 3) := by decide +kernel
theorem dN_power_28 : decode bN_power 28 = .ok (.lcmp, 1) := by decide +kernel
theorem dN_power_29 : decode bN_power 29 = .ok (.ifCond .lt 11, 3) := by decide +kernel
theorem dN_power_32 : decode bN_power 32 = .ok (.lload_n 1, 1) := by decide +kernel
theorem dN_power_33 : decode bN_power 33 = .ok (.ldc2_w 146, 3) := by decide +kernel
theorem dN_power_36 : decode bN_power 36 = .ok (.lcmp, 1) := by decide +kernel
theorem dN_power_37 : decode bN_power 37 = .ok (.ifCond .le 5, 3) := by decide +kernel
theorem dN_power_40 : decode bN_power 40 = .ok (.iconst 3, 1) := by decide +kernel
theorem dN_power_41 : decode bN_power 41 = .ok (.ireturn, 1) := by decide +kernel
theorem dN_power_42 : decode bN_power 42 = .ok (.aload_n 0, 1) := by decide +kernel
theorem dN_power_43 : decode bN_power 43 = .ok (.lload_n 1, 1) := by decide +kernel
theorem dN_power_44 : decode bN_power 44 = .ok (.lconst 0, 1) := by decide +kernel
theorem dN_power_45 : decode bN_power 45 = .ok (.lcmp, 1) := by decide +kernel
theorem dN_power_46 : decode bN_power 46 = .ok (.ifCond .ge 8, 3) := by decide +kernel
theorem dN_power_49 : decode bN_power 49 = .ok (.lload_n 1, 1) := by decide +kernel
theorem dN_power_50 : decode bN_power 50 = .ok (.lneg, 1) := by decide +kernel
theorem dN_power_51 : decode bN_power 51 = .ok (.goto 4, 3) := by decide +kernel
theorem dN_power_54 : decode bN_power 54 = .ok (.lload_n 1, 1) := by decide +kernel
theorem dN_power_55 : decode bN_power 55 = .ok (.l2i, 1) := by decide +kernel
theorem dN_power_56 : decode bN_power 56 = .ok (.invokevirtual 148, 3) := by decide +kernel
theorem dN_power_59 : decode bN_power 59 = .ok (.lload_n 1, 1) := by decide +kernel
theorem dN_power_60 : decode bN_power 60 = .ok (.lconst 0, 1) := by decide +kernel
theorem dN_power_61 : decode bN_power 61 = .ok (.lcmp, 1) := by decide +kernel
theorem dN_power_62 : decode bN_power 62 = .ok (.ifCond .ge 34, 3) := by decide +kernel
theorem dN_power_65 : decode bN_power 65 = .ok (.aload_n 0, 1) := by decide +kernel
theorem dN_power_66 : decode bN_power 66 = .ok (.getfield 23, 3) := by decide +kernel
theorem dN_power_69 : decode bN_power 69 = .ok (.lconst 1, 1) := by decide +kernel
theorem dN_power_70 : decode bN_power 70 = .ok (.iconst 0, 1) := by decide +kernel
theorem dN_power_71 : decode bN_power 71 = .ok (.invokevirtual 34, 3) := by decide +kernel
theorem dN_power_74 : decode bN_power 74 = .ok (.aload_n 0, 1) := by decide +kernel
theorem dN_power_75 : decode bN_power 75 = .ok (.getfield 23, 3) := by decide +kernel
theorem dN_power_78 : decode bN_power 78 = .ok (.aload_n 0, 1) := by decide +kernel
theorem dN_power_79 : decode bN_power 79 = .ok (.getfield 16, 3) := by decide +kernel
theorem dN_power_82 : decode bN_power 82 = .ok (.invokestatic 129, 3) := by decide +kernel
theorem dN_power_85 : decode bN_power 85 = .ok (.aload_n 0, 1) := by decide +kernel
theorem dN_power_86 : decode bN_power 86 = .ok (.getfield 16, 3) := by decide +kernel
theorem dN_power_89 : decode bN_power 89 = .ok (.aload_n 0, 1) := by decide +kernel
theorem dN_power_90 : decode bN_power 90 = .ok (.getfield 23, 3) := by decide +kernel
theorem dN_power_93 : decode bN_power 93 = .ok (.invokevirtual 46, 3) := by decide +kernel
theorem dN_power_96 : decode bN_power 96 = .ok (.iconst 0, 1) := by decide +kernel
theorem dN_power_97 : decode bN_power 97 = .ok (.ireturn, 1) := by decide +kernel
theorem dV_countsAsWhole_0 : decode bV_countsAsWhole 0 = .ok (.aload_n 0, 1) := by decide +kernel
theorem dV_countsAsWhole_1 : decode bV_countsAsWhole 1 = .ok (.getfield 9, 3) := by decide +kernel
theorem dV_countsAsWhole_4 : decode bV_countsAsWhole 4 = .ok (.iconst 2, 1) := by decide +kernel
theorem dV_countsAsWhole_5 : decode bV_countsAsWhole 5 = .ok (.if_icmp .eq 17, 3) := by decide +kernel
theorem dV_countsAsWhole_8 : decode bV_countsAsWhole 8 = .ok (.aload_n 0, 1) := by decide +kernel
theorem dV_countsAsWhole_9 : decode bV_countsAsWhole 9 = .ok (.getfield 9, 3) := by decide +kernel
theorem dV_countsAsWhole_12 : decode bV_countsAsWhole 12 = .ok (.iconst 1, 1) := by decide +kernel
theorem dV_countsAsWhole_13 : decode bV_countsAsWhole 13 = .ok (.if_icmp .ne 7, 3) := by decide +kernel
theorem dV_countsAsWhole_16 : decode bV_countsAsWhole 16 = .ok (.iconst 1, 1) := by decide +kernel
theorem dV_countsAsWhole_17 : decode bV_countsAsWhole 17 = .ok (.goto 4, 3) := by decide +kernel
theorem dV_countsAsWhole_20 : decode bV_countsAsWhole 20 = .ok (.iconst 0, 1) := by decide +kernel
theorem dV_countsAsWhole_21 : decode bV_countsAsWhole 21 = .ok (.ireturn, 1) := by decide +kernel
theorem dV_countsAsWhole_22 : decode bV_countsAsWhole 22 = .ok (.aload_n 0, 1) := by decide +kernel
theorem dV_countsAsWhole_23 : decode bV_countsAsWhole 23 = .ok (.getfield 19, 3) := by decide +kernel
theorem dV_countsAsWhole_26 : decode bV_countsAsWhole 26 = .ok (.ifCond .lt 38, 3) := by decide +kernel
theorem dV_countsAsWhole_29 : decode bV_countsAsWhole 29 = .ok (.aload_n 0, 1) := by decide +kernel
theorem dV_countsAsWhole_30 : decode bV_countsAsWhole 30 = .ok (.getfield 19, 3) := by decide +kernel
theorem dV_countsAsWhole_33 : decode bV_countsAsWhole 33 = .ok (.bipush 63, 2) := by decide +kernel
theorem dV_countsAsWhole_35 : decode bV_countsAsWhole 35 = .ok (.if_icmp .gt 29, 3) := by decide +kernel
theorem dV_countsAsWhole_38 : decode bV_countsAsWhole 38 = .ok (.aload_n 0, 1) := by decide +kernel
theorem dV_countsAsWhole_39 : decode bV_countsAsWhole 39 = .ok (.getfield 15, 3) := by decide +kernel
theorem dV_countsAsWhole_42 : decode bV_countsAsWhole 42 = .ok (.aload_n 0, 1) := by decide +kernel
theorem dV_countsAsWhole_43 : decode bV_countsAsWhole 43 = .ok (.getfield 19, 3) := by decide +kernel
theorem dV_countsAsWhole_46 : decode bV_countsAsWhole 46 = .ok (.lshl, 1) := by decide +kernel
theorem dV_countsAsWhole_47 : decode bV_countsAsWhole 47 = .ok (.aload_n 0, 1) := by decide +kernel
theorem dV_countsAsWhole_48 : decode bV_countsAsWhole 48 = .ok (.getfield 19, 3) := by decide +kernel
theorem dV_countsAsWhole_51 : decode bV_countsAsWhole 51 = .ok (.lshr, 1) := by decide +kernel
theorem dV_countsAsWhole_52 : decode bV_countsAsWhole 52 = .ok (.aload_n 0, 1) := by decide +kernel
theorem dV_countsAsWhole_53 : decode bV_countsAsWhole 53 = .ok (.getfield 15, 3) := by decide +kernel
theorem dV_countsAsWhole_56 : decode bV_countsAsWhole 56 = .ok (.lcmp, 1) := by decide +kernel
theorem dV_countsAsWhole_57 : decode bV_countsAsWhole 57 = .ok (.ifCond .ne 7, 3) := by decide +kernel
theorem dV_countsAsWhole_60 : decode bV_countsAsWhole 60 = .ok (.iconst 1, 1) := by decide +kernel
theorem dV_countsAsWhole_61 : decode bV_countsAsWhole 61 = .ok (.goto 4, 3) := by decide +kernel
theorem dV_countsAsWhole_64 : decode bV_countsAsWhole 64 = .ok (.iconst 0, 1) := by decide +kernel
theorem dV_countsAsWhole_65 : decode bV_countsAsWhole 65 = .ok (.ireturn, 1) := by decide +kernel
theorem dV_asWhole_0 : decode bV_asWhole 0 = .ok (.aload_n 0, 1) := by decide +kernel
theorem dV_asWhole_1 : decode bV_asWhole 1 = .ok (.getfield 15, 3) := by decide +kernel
theorem dV_asWhole_4 : decode bV_asWhole 4 = .ok (.aload_n 0, 1) := by decide +kernel
theorem dV_asWhole_5 : decode bV_asWhole 5 = .ok (.getfield 19, 3) := by decide +kernel
theorem dV_asWhole_8 : decode bV_asWhole 8 = .ok (.lshl, 1) := by decide +kernel
theorem dV_asWhole_9 : decode bV_asWhole 9 = .ok (.lreturn, 1) := by decide +kernel
theorem dN_raise_0 : decode bN_raise 0 = .ok (.bipush 32, 2) := by decide +kernel
theorem dN_raise_2 : decode bN_raise 2 = .ok (.iload_n 1, 1) := by decide +kernel
theorem dN_raise_3 : decode bN_raise 3 = .ok (.invokestatic 151, 3) := by decide +kernel
theorem dN_raise_6 : decode bN_raise 6 = .ok (.isub, 1) := by decide +kernel
theorem dN_raise_7 : decode bN_raise 7 = .ok (.istore_n 2, 1) := by decide +kernel
theorem dN_raise_8 : decode bN_raise 8 = .ok (.aload_n 0, 1) := by decide +kernel
theorem dN_raise_9 : decode bN_raise 9 = .ok (.getfield 23, 3) := by decide +kernel
theorem dN_raise_12 : decode bN_raise 12 = .ok (.aload_n 0, 1) := by decide +kernel
theorem dN_raise_13 : decode bN_raise 13 = .ok (.getfield 16, 3) := by decide +kernel
theorem dN_raise_16 : decode bN_raise 16 = .ok (.invokevirtual 46, 3) := by decide +kernel
theorem dN_raise_19 : decode bN_raise 19 = .ok (.aload_n 0, 1) := by decide +kernel
theorem dN_raise_20 : decode bN_raise 20 = .ok (.getfield 23, 3) := by decide +kernel
theorem dN_raise_23 : decode bN_raise 23 = .ok (.invokevirtual 92, 3) := by decide +kernel
theorem dN_raise_26 : decode bN_raise 26 = .ok (.aload_n 0, 1) := by decide +kernel
theorem dN_raise_27 : decode bN_raise 27 = .ok (.getfield 16, 3) := by decide +kernel
theorem dN_raise_30 : decode bN_raise 30 = .ok (.lconst 1, 1) := by decide +kernel
theorem dN_raise_31 : decode bN_raise 31 = .ok (.iconst 0, 1) := by decide +kernel
theorem dN_raise_32 : decode bN_raise 32 = .ok (.invokevirtual 34, 3) := by decide +kernel
theorem dN_raise_35 : decode bN_raise 35 = .ok (.iconst 0, 1) := by decide +kernel
theorem dN_raise_36 : decode bN_raise 36 = .ok (.istore_n 3, 1) := by decide +kernel
theorem dN_raise_37 : decode bN_raise 37 = .ok (.iload_n 3, 1) := by decide +kernel
theorem dN_raise_38 : decode bN_raise 38 = .ok (.iload_n 2, 1) := by decide +kernel
theorem dN_raise_39 : decode bN_raise 39 = .ok (.if_icmp .ge 47, 3) := by decide +kernel
theorem dN_raise_42 : decode bN_raise 42 = .ok (.iload_n 1, 1) := by decide +kernel
theorem dN_raise_43 : decode bN_raise 43 = .ok (.iload_n 3, 1) := by decide +kernel
theorem dN_raise_44 : decode bN_raise 44 = .ok (.ishr, 1) := by decide +kernel
theorem dN_raise_45 : decode bN_raise 45 = .ok (.iconst 1, 1) := by decide +kernel
theorem dN_raise_46 : decode bN_raise 46 = .ok (.iand, 1) := by decide +kernel
theorem dN_raise_47 : decode bN_raise 47 = .ok (.iconst 1, 1) := by decide +kernel
theorem dN_raise_48 : decode bN_raise 48 = .ok (.if_icmp .ne 14, 3) := by decide +kernel
theorem dN_raise_51 : decode bN_raise 51 = .ok (.aload_n 0, 1) := by decide +kernel
theorem dN_raise_52 : decode bN_raise 52 = .ok (.getfield 16, 3) := by decide +kernel
theorem dN_raise_55 : decode bN_raise 55 = .ok (.aload_n 0, 1) := by decide +kernel
theorem dN_raise_56 : decode bN_raise 56 = .ok (.getfield 23, 3) := by decide +kernel
theorem dN_raise_59 : decode bN_raise 59 = .ok (.invokestatic 102, 3) := by decide +kernel
theorem dN_raise_62 : decode bN_raise 62 = .ok (.iload_n 3, 1) := by decide +kernel
theorem dN_raise_63 : decode bN_raise 63 = .ok (.iconst 1, 1) := by decide +kernel
theorem dN_raise_64 : decode bN_raise 64 = .ok (.iadd, 1) := by decide +kernel
theorem dN_raise_65 : decode bN_raise 65 = .ok (.iload_n 2, 1) := by decide +kernel
theorem dN_raise_66 : decode bN_raise 66 = .ok (.if_icmp .ge 14, 3) := by decide +kernel
theorem dN_raise_69 : decode bN_raise 69 = .ok (.aload_n 0, 1) := by decide +kernel
theorem dN_raise_70 : decode bN_raise 70 = .ok (.getfield 23, 3) := by decide +kernel
theorem dN_raise_73 : decode bN_raise 73 = .ok (.aload_n 0, 1) := by decide +kernel
theorem dN_raise_74 : decode bN_raise 74 = .ok (.getfield 23, 3) := by decide +kernel
theorem dN_raise_77 : decode bN_raise 77 = .ok (.invokestatic 102, 3) := by decide +kernel
theorem dN_raise_80 : decode bN_raise 80 = .ok (.iinc 3 1, 3) := by decide +kernel
theorem dN_raise_83 : decode bN_raise 83 = .ok (.goto (-46), 3) := by decide +kernel
theorem dN_raise_86 : decode bN_raise 86 = .ok (.return_, 1) := by decide +kernel
theorem dN_combineBits_0 : decode bN_combineBits 0 = .ok (.aload_n 0, 1) := by decide +kernel
theorem dN_combineBits_1 : decode bN_combineBits 1 = .ok (.getfield 16, 3) := by decide +kernel
theorem dN_combineBits_4 : decode bN_combineBits 4 = .ok (.invokevirtual 135, 3) := by decide +kernel
theorem dN_combineBits_7 : decode bN_combineBits 7 = .ok (.ifCond .eq 13, 3) := by decide +kernel
theorem dN_combineBits_10 : decode bN_combineBits 10 = .ok (.aload_n 0, 1) := by decide +kernel
theorem dN_combineBits_11 : decode bN_combineBits 11 = .ok (.getfield 20, 3) := by decide +kernel
theorem dN_combineBits_14 : decode bN_combineBits 14 = .ok (.invokevirtual 135, 3) := by decide +kernel
theorem dN_combineBits_17 : decode bN_combineBits 17 = .ok (.ifCond .ne 5, 3) := by decide +kernel
theorem dN_combineBits_20 : decode bN_combineBits 20 = .ok (.iconst 2, 1) := by decide +kernel
theorem dN_combineBits_21 : decode bN_combineBits 21 = .ok (.ireturn, 1) := by decide +kernel
theorem dN_combineBits_22 : decode bN_combineBits 22 = .ok (.aload_n 0, 1) := by decide +kernel
theorem dN_combineBits_23 : decode bN_combineBits 23 = .ok (.getfield 16, 3) := by decide +kernel
theorem dN_combineBits_26 : decode bN_combineBits 26 = .ok (.invokevirtual 138, 3) := by decide +kernel
theorem dN_combineBits_29 : decode bN_combineBits 29 = .ok (.lstore_n 2, 1) := by decide +kernel
theorem dN_combineBits_30 : decode bN_combineBits 30 = .ok (.aload_n 0, 1) := by decide +kernel
theorem dN_combineBits_31 : decode bN_combineBits 31 = .ok (.getfield 20, 3) := by decide +kernel
theorem dN_combineBits_34 : decode bN_combineBits 34 = .ok (.invokevirtual 138, 3) := by decide +kernel
theorem dN_combineBits_37 : decode bN_combineBits 37 = .ok (.lstore 4, 2) := by decide +kernel
theorem dN_combineBits_39 : decode bN_combineBits 39 = .ok (.iload_n 1, 1) := by decide +kernel
theorem dN_combineBits_40 : decode bN_combineBits 40 = .ok (.tableswitch 90 7 10 #[32, 46, 60, 74], 32) := by decide +kernel
theorem dN_combineBits_72 : decode bN_combineBits 72 = .ok (.aload_n 0, 1) := by decide +kernel
theorem dN_combineBits_73 : decode bN_combineBits 73 = .ok (.getfield 16, 3) := by decide +kernel
theorem dN_combineBits_76 : decode bN_combineBits 76 = .ok (.lload_n 2, 1) := by decide +kernel
theorem dN_combineBits_77 : decode bN_combineBits 77 = .ok (.lload 4, 2) := by decide +kernel
theorem dN_combineBits_79 : decode bN_combineBits 79 = .ok (.land, 1) := by decide +kernel
theorem dN_combineBits_80 : decode bN_combineBits 80 = .ok (.invokevirtual 30, 3) := by decide +kernel
theorem dN_combineBits_83 : decode bN_combineBits 83 = .ok (.goto 61, 3) := by decide +kernel
theorem dN_combineBits_86 : decode bN_combineBits 86 = .ok (.aload_n 0, 1) := by decide +kernel
theorem dN_combineBits_87 : decode bN_combineBits 87 = .ok (.getfield 16, 3) := by decide +kernel
theorem dN_combineBits_90 : decode bN_combineBits 90 = .ok (.lload_n 2, 1) := by decide +kernel
theorem dN_combineBits_91 : decode bN_combineBits 91 = .ok (.lload 4, 2) := by decide +kernel
theorem dN_combineBits_93 : decode bN_combineBits 93 = .ok (.lor, 1) := by decide +kernel
theorem dN_combineBits_94 : decode bN_combineBits 94 = .ok (.invokevirtual 30, 3) := by decide +kernel
theorem dN_combineBits_97 : decode bN_combineBits 97 = .ok (.goto 47, 3) := by decide +kernel
theorem dN_combineBits_100 : decode bN_combineBits 100 = .ok (.aload_n 0, 1) := by decide +kernel
theorem dN_combineBits_101 : decode bN_combineBits 101 = .ok (.getfield 16, 3) := by decide +kernel
theorem dN_combineBits_104 : decode bN_combineBits 104 = .ok (.lload_n 2, 1) := by decide +kernel
theorem dN_combineBits_105 : decode bN_combineBits 105 = .ok (.lload 4, 2) := by decide +kernel
theorem dN_combineBits_107 : decode bN_combineBits 107 = .ok (.lxor, 1) := by decide +kernel
theorem dN_combineBits_108 : decode bN_combineBits 108 = .ok (.invokevirtual 30, 3) := by decide +kernel
theorem dN_combineBits_111 : decode bN_combineBits 111 = .ok (.goto 33, 3) := by decide +kernel
theorem dN_combineBits_114 : decode bN_combineBits 114 = .ok (.aload_n 0, 1) := by decide +kernel
theorem dN_combineBits_115 : decode bN_combineBits 115 = .ok (.getfield 16, 3) := by decide +kernel
theorem dN_combineBits_118 : decode bN_combineBits 118 = .ok (.lload_n 2, 1) := by decide +kernel
theorem dN_combineBits_119 : decode bN_combineBits 119 = .ok (.lload 4, 2) := by decide +kernel
theorem dN_combineBits_121 : decode bN_combineBits 121 = .ok (.invokestatic 156, 3) := by decide +kernel
theorem dN_combineBits_124 : decode bN_combineBits 124 = .ok (.invokevirtual 30, 3) := by decide +kernel
theorem dN_combineBits_127 : decode bN_combineBits 127 = .ok (.goto 17, 3) := by decide +kernel
theorem dN_combineBits_130 : decode bN_combineBits 130 = .ok (.aload_n 0, 1) := by decide +kernel
theorem dN_combineBits_131 : decode bN_combineBits 131 = .ok (.getfield 16, 3) := by decide +kernel
theorem dN_combineBits_134 : decode bN_combineBits 134 = .ok (.lload_n 2, 1) := by decide +kernel
theorem dN_combineBits_135 : decode bN_combineBits 135 = .ok (.lload 4, 2) := by decide +kernel
theorem dN_combineBits_137 : decode bN_combineBits 137 = .ok (.lneg, 1) := by decide +kernel
theorem dN_combineBits_138 : decode bN_combineBits 138 = .ok (.invokestatic 156, 3) := by decide +kernel
theorem dN_combineBits_141 : decode bN_combineBits 141 = .ok (.invokevirtual 30, 3) := by decide +kernel
theorem dN_combineBits_144 : decode bN_combineBits 144 = .ok (.iconst 0, 1) := by decide +kernel
theorem dN_combineBits_145 : decode bN_combineBits 145 = .ok (.ireturn, 1) := by decide +kernel
theorem dN_shiftLeft_0 : decode bN_shiftLeft 0 = .ok (.lload_n 2, 1) := by decide +kernel
theorem dN_shiftLeft_1 : decode bN_shiftLeft 1 = .ok (.ldc2_w 159, 3) := by decide +kernel
theorem dN_shiftLeft_4 : decode bN_shiftLeft 4 = .ok (.lcmp, 1) := by decide +kernel
theorem dN_shiftLeft_5 : decode bN_shiftLeft 5 = .ok (.ifCond .le 11, 3) := by decide +kernel
theorem dN_shiftLeft_8 : decode bN_shiftLeft 8 = .ok (.lload_n 2, 1) := by decide +kernel
theorem dN_shiftLeft_9 : decode bN_shiftLeft 9 = .ok (.ldc2_w 161, 3) := by decide +kernel
theorem dN_shiftLeft_12 : decode bN_shiftLeft 12 = .ok (.lcmp, 1) := by decide +kernel
theorem dN_shiftLeft_13 : decode bN_shiftLeft 13 = .ok (.ifCond .lt 5, 3) := by decide +kernel
theorem dN_shiftLeft_16 : decode bN_shiftLeft 16 = .ok (.lconst 0, 1) := by decide +kernel
theorem dN_shiftLeft_17 : decode bN_shiftLeft 17 = .ok (.lreturn, 1) := by decide +kernel
theorem dN_shiftLeft_18 : decode bN_shiftLeft 18 = .ok (.lload_n 2, 1) := by decide +kernel
theorem dN_shiftLeft_19 : decode bN_shiftLeft 19 = .ok (.lconst 0, 1) := by decide +kernel
theorem dN_shiftLeft_20 : decode bN_shiftLeft 20 = .ok (.lcmp, 1) := by decide +kernel
theorem dN_shiftLeft_21 : decode bN_shiftLeft 21 = .ok (.ifCond .lt 10, 3) := by decide +kernel
theorem dN_shiftLeft_24 : decode bN_shiftLeft 24 = .ok (.lload_n 0, 1) := by decide +kernel
theorem dN_shiftLeft_25 : decode bN_shiftLeft 25 = .ok (.lload_n 2, 1) := by decide +kernel
theorem dN_shiftLeft_26 : decode bN_shiftLeft 26 = .ok (.l2i, 1) := by decide +kernel
theorem dN_shiftLeft_27 : decode bN_shiftLeft 27 = .ok (.lshl, 1) := by decide +kernel
theorem dN_shiftLeft_28 : decode bN_shiftLeft 28 = .ok (.goto 8, 3) := by decide +kernel
theorem dN_shiftLeft_31 : decode bN_shiftLeft 31 = .ok (.lload_n 0, 1) := by decide +kernel
theorem dN_shiftLeft_32 : decode bN_shiftLeft 32 = .ok (.lload_n 2, 1) := by decide +kernel
theorem dN_shiftLeft_33 : decode bN_shiftLeft 33 = .ok (.lneg, 1) := by decide +kernel
theorem dN_shiftLeft_34 : decode bN_shiftLeft 34 = .ok (.l2i, 1) := by decide +kernel
theorem dN_shiftLeft_35 : decode bN_shiftLeft 35 = .ok (.lushr, 1) := by decide +kernel
theorem dN_shiftLeft_36 : decode bN_shiftLeft 36 = .ok (.lreturn, 1) := by decide +kernel
theorem dN_applyToOne_0 : decode bN_applyToOne 0 = .ok (.iload_n 1, 1) := by decide +kernel
theorem dN_applyToOne_1 : decode bN_applyToOne 1 = .ok (.bipush 13, 2) := by decide +kernel
theorem dN_applyToOne_3 : decode bN_applyToOne 3 = .ok (.if_icmp .eq 9, 3) := by decide +kernel
theorem dN_applyToOne_6 : decode bN_applyToOne 6 = .ok (.iload_n 1, 1) := by decide +kernel
theorem dN_applyToOne_7 : decode bN_applyToOne 7 = .ok (.bipush 16, 2) := by decide +kernel
theorem dN_applyToOne_9 : decode bN_applyToOne 9 = .ok (.if_icmp .ne 15, 3) := by decide +kernel
theorem dN_applyToOne_12 : decode bN_applyToOne 12 = .ok (.aload_n 0, 1) := by decide +kernel
theorem dN_applyToOne_13 : decode bN_applyToOne 13 = .ok (.getfield 16, 3) := by decide +kernel
theorem dN_applyToOne_16 : decode bN_applyToOne 16 = .ok (.invokevirtual 135, 3) := by decide +kernel
theorem dN_applyToOne_19 : decode bN_applyToOne 19 = .ok (.ifCond .ne 5, 3) := by decide +kernel
theorem dN_applyToOne_22 : decode bN_applyToOne 22 = .ok (.iconst 2, 1) := by decide +kernel
theorem dN_applyToOne_23 : decode bN_applyToOne 23 = .ok (.ireturn, 1) := by decide +kernel
theorem dN_applyToOne_24 : decode bN_applyToOne 24 = .ok (.iload_n 1, 1) := by decide +kernel
theorem dN_applyToOne_25 : decode bN_applyToOne 25 = .ok (.tableswitch 127 12 16 #[35, 45, 66, 100, 110], 35) := by decide +kernel
theorem dN_applyToOne_60 : decode bN_applyToOne 60 = .ok (.aload_n 0, 1) := by decide +kernel
theorem dN_applyToOne_61 : decode bN_applyToOne 61 = .ok (.getfield 16, 3) := by decide +kernel
theorem dN_applyToOne_64 : decode bN_applyToOne 64 = .ok (.invokevirtual 108, 3) := by decide +kernel
theorem dN_applyToOne_67 : decode bN_applyToOne 67 = .ok (.goto 102, 3) := by decide +kernel
theorem dN_applyToOne_70 : decode bN_applyToOne 70 = .ok (.aload_n 0, 1) := by decide +kernel
theorem dN_applyToOne_71 : decode bN_applyToOne 71 = .ok (.getfield 16, 3) := by decide +kernel
theorem dN_applyToOne_74 : decode bN_applyToOne 74 = .ok (.aload_n 0, 1) := by decide +kernel
theorem dN_applyToOne_75 : decode bN_applyToOne 75 = .ok (.getfield 16, 3) := by decide +kernel
theorem dN_applyToOne_78 : decode bN_applyToOne 78 = .ok (.invokevirtual 138, 3) := by decide +kernel
theorem dN_applyToOne_81 : decode bN_applyToOne 81 = .ok (.ldc2_w 163, 3) := by decide +kernel
theorem dN_applyToOne_84 : decode bN_applyToOne 84 = .ok (.lxor, 1) := by decide +kernel
theorem dN_applyToOne_85 : decode bN_applyToOne 85 = .ok (.invokevirtual 30, 3) := by decide +kernel
theorem dN_applyToOne_88 : decode bN_applyToOne 88 = .ok (.goto 81, 3) := by decide +kernel
theorem dN_applyToOne_91 : decode bN_applyToOne 91 = .ok (.aload_n 0, 1) := by decide +kernel
theorem dN_applyToOne_92 : decode bN_applyToOne 92 = .ok (.getfield 16, 3) := by decide +kernel
theorem dN_applyToOne_95 : decode bN_applyToOne 95 = .ok (.invokevirtual 132, 3) := by decide +kernel
theorem dN_applyToOne_98 : decode bN_applyToOne 98 = .ok (.aload_n 0, 1) := by decide +kernel
theorem dN_applyToOne_99 : decode bN_applyToOne 99 = .ok (.getfield 16, 3) := by decide +kernel
theorem dN_applyToOne_102 : decode bN_applyToOne 102 = .ok (.invokevirtual 135, 3) := by decide +kernel
theorem dN_applyToOne_105 : decode bN_applyToOne 105 = .ok (.ifCond .eq 64, 3) := by decide +kernel
theorem dN_applyToOne_108 : decode bN_applyToOne 108 = .ok (.aload_n 0, 1) := by decide +kernel
theorem dN_applyToOne_109 : decode bN_applyToOne 109 = .ok (.getfield 16, 3) := by decide +kernel
theorem dN_applyToOne_112 : decode bN_applyToOne 112 = .ok (.aload_n 0, 1) := by decide +kernel
theorem dN_applyToOne_113 : decode bN_applyToOne 113 = .ok (.getfield 16, 3) := by decide +kernel
theorem dN_applyToOne_116 : decode bN_applyToOne 116 = .ok (.invokevirtual 138, 3) := by decide +kernel
theorem dN_applyToOne_119 : decode bN_applyToOne 119 = .ok (.invokevirtual 30, 3) := by decide +kernel
theorem dN_applyToOne_122 : decode bN_applyToOne 122 = .ok (.goto 47, 3) := by decide +kernel
theorem dN_applyToOne_125 : decode bN_applyToOne 125 = .ok (.aload_n 0, 1) := by decide +kernel
theorem dN_applyToOne_126 : decode bN_applyToOne 126 = .ok (.getfield 16, 3) := by decide +kernel
theorem dN_applyToOne_129 : decode bN_applyToOne 129 = .ok (.invokevirtual 92, 3) := by decide +kernel
theorem dN_applyToOne_132 : decode bN_applyToOne 132 = .ok (.goto 37, 3) := by decide +kernel
theorem dN_applyToOne_135 : decode bN_applyToOne 135 = .ok (.aload_n 0, 1) := by decide +kernel
theorem dN_applyToOne_136 : decode bN_applyToOne 136 = .ok (.getfield 16, 3) := by decide +kernel
theorem dN_applyToOne_139 : decode bN_applyToOne 139 = .ok (.aload_n 0, 1) := by decide +kernel
theorem dN_applyToOne_140 : decode bN_applyToOne 140 = .ok (.getfield 16, 3) := by decide +kernel
theorem dN_applyToOne_143 : decode bN_applyToOne 143 = .ok (.invokevirtual 138, 3) := by decide +kernel
theorem dN_applyToOne_146 : decode bN_applyToOne 146 = .ok (.invokevirtual 30, 3) := by decide +kernel
theorem dN_applyToOne_149 : decode bN_applyToOne 149 = .ok (.goto 20, 3) := by decide +kernel
theorem dN_applyToOne_152 : decode bN_applyToOne 152 = .ok (.aload_n 0, 1) := by decide +kernel
theorem dN_applyToOne_153 : decode bN_applyToOne 153 = .ok (.getfield 16, 3) := by decide +kernel
theorem dN_applyToOne_156 : decode bN_applyToOne 156 = .ok (.invokevirtual 165, 3) := by decide +kernel
theorem dN_applyToOne_159 : decode bN_applyToOne 159 = .ok (.ifCond .ge 10, 3) := by decide +kernel
theorem dN_applyToOne_162 : decode bN_applyToOne 162 = .ok (.aload_n 0, 1) := by decide +kernel
theorem dN_applyToOne_163 : decode bN_applyToOne 163 = .ok (.getfield 16, 3) := by decide +kernel
theorem dN_applyToOne_166 : decode bN_applyToOne 166 = .ok (.invokevirtual 108, 3) := by decide +kernel
theorem dN_applyToOne_169 : decode bN_applyToOne 169 = .ok (.iconst 0, 1) := by decide +kernel
theorem dN_applyToOne_170 : decode bN_applyToOne 170 = .ok (.ireturn, 1) := by decide +kernel
theorem dN_compare_0 : decode bN_compare 0 = .ok (.iload_n 2, 1) := by decide +kernel
theorem dN_compare_1 : decode bN_compare 1 = .ok (.invokestatic 26, 3) := by decide +kernel
theorem dN_compare_4 : decode bN_compare 4 = .ok (.ifCond .eq 19, 3) := by decide +kernel
theorem dN_compare_7 : decode bN_compare 7 = .ok (.iload_n 3, 1) := by decide +kernel
theorem dN_compare_8 : decode bN_compare 8 = .ok (.invokestatic 26, 3) := by decide +kernel
theorem dN_compare_11 : decode bN_compare 11 = .ok (.ifCond .eq 12, 3) := by decide +kernel
theorem dN_compare_14 : decode bN_compare 14 = .ok (.iload_n 1, 1) := by decide +kernel
theorem dN_compare_15 : decode bN_compare 15 = .ok (.ifCond .lt 8, 3) := by decide +kernel
theorem dN_compare_18 : decode bN_compare 18 = .ok (.iload_n 1, 1) := by decide +kernel
theorem dN_compare_19 : decode bN_compare 19 = .ok (.iconst 2, 1) := by decide +kernel
theorem dN_compare_20 : decode bN_compare 20 = .ok (.if_icmp .le 5, 3) := by decide +kernel
theorem dN_compare_23 : decode bN_compare 23 = .ok (.iconst (-1), 1) := by decide +kernel
theorem dN_compare_24 : decode bN_compare 24 = .ok (.ireturn, 1) := by decide +kernel
theorem dN_compare_25 : decode bN_compare 25 = .ok (.aload_n 0, 1) := by decide +kernel
theorem dN_compare_26 : decode bN_compare 26 = .ok (.getfield 11, 3) := by decide +kernel
theorem dN_compare_29 : decode bN_compare 29 = .ok (.iload_n 2, 1) := by decide +kernel
theorem dN_compare_30 : decode bN_compare 30 = .ok (.aaload, 1) := by decide +kernel
theorem dN_compare_31 : decode bN_compare 31 = .ok (.astore 4, 2) := by decide +kernel
theorem dN_compare_33 : decode bN_compare 33 = .ok (.aload_n 0, 1) := by decide +kernel
theorem dN_compare_34 : decode bN_compare 34 = .ok (.getfield 11, 3) := by decide +kernel
theorem dN_compare_37 : decode bN_compare 37 = .ok (.iload_n 3, 1) := by decide +kernel
theorem dN_compare_38 : decode bN_compare 38 = .ok (.aaload, 1) := by decide +kernel
theorem dN_compare_39 : decode bN_compare 39 = .ok (.astore 5, 2) := by decide +kernel
theorem dN_compare_41 : decode bN_compare 41 = .ok (.aload 4, 2) := by decide +kernel
theorem dN_compare_43 : decode bN_compare 43 = .ok (.getfield 71, 3) := by decide +kernel
theorem dN_compare_46 : decode bN_compare 46 = .ok (.iconst 5, 1) := by decide +kernel
theorem dN_compare_47 : decode bN_compare 47 = .ok (.if_icmp .eq 12, 3) := by decide +kernel
theorem dN_compare_50 : decode bN_compare 50 = .ok (.aload 5, 2) := by decide +kernel
theorem dN_compare_52 : decode bN_compare 52 = .ok (.getfield 71, 3) := by decide +kernel
theorem dN_compare_55 : decode bN_compare 55 = .ok (.iconst 5, 1) := by decide +kernel
theorem dN_compare_56 : decode bN_compare 56 = .ok (.if_icmp .ne 5, 3) := by decide +kernel
theorem dN_compare_59 : decode bN_compare 59 = .ok (.iconst 0, 1) := by decide +kernel
theorem dN_compare_60 : decode bN_compare 60 = .ok (.ireturn, 1) := by decide +kernel
theorem dN_compare_61 : decode bN_compare 61 = .ok (.aload 4, 2) := by decide +kernel
theorem dN_compare_63 : decode bN_compare 63 = .ok (.aload 5, 2) := by decide +kernel
theorem dN_compare_65 : decode bN_compare 65 = .ok (.invokestatic 74, 3) := by decide +kernel
theorem dN_compare_68 : decode bN_compare 68 = .ok (.istore 6, 2) := by decide +kernel
theorem dN_compare_70 : decode bN_compare 70 = .ok (.iload 6, 2) := by decide +kernel
theorem dN_compare_72 : decode bN_compare 72 = .ok (.ifCond .ne 16, 3) := by decide +kernel
theorem dN_compare_75 : decode bN_compare 75 = .ok (.iload_n 1, 1) := by decide +kernel
theorem dN_compare_76 : decode bN_compare 76 = .ok (.iconst 1, 1) := by decide +kernel
theorem dN_compare_77 : decode bN_compare 77 = .ok (.if_icmp .eq 7, 3) := by decide +kernel
theorem dN_compare_80 : decode bN_compare 80 = .ok (.iconst 1, 1) := by decide +kernel
theorem dN_compare_81 : decode bN_compare 81 = .ok (.goto 21, 3) := by decide +kernel
theorem dN_compare_84 : decode bN_compare 84 = .ok (.iconst 0, 1) := by decide +kernel
theorem dN_compare_85 : decode bN_compare 85 = .ok (.goto 17, 3) := by decide +kernel
theorem dN_compare_88 : decode bN_compare 88 = .ok (.iload 6, 2) := by decide +kernel
theorem dN_compare_90 : decode bN_compare 90 = .ok (.ifCond .ge 11, 3) := by decide +kernel
theorem dN_compare_93 : decode bN_compare 93 = .ok (.iload_n 1, 1) := by decide +kernel
theorem dN_compare_94 : decode bN_compare 94 = .ok (.ifCond .eq 7, 3) := by decide +kernel
theorem dN_compare_97 : decode bN_compare 97 = .ok (.iconst 1, 1) := by decide +kernel
theorem dN_compare_98 : decode bN_compare 98 = .ok (.goto 4, 3) := by decide +kernel
theorem dN_compare_101 : decode bN_compare 101 = .ok (.iconst 0, 1) := by decide +kernel
theorem dN_compare_102 : decode bN_compare 102 = .ok (.istore 7, 2) := by decide +kernel
theorem dN_compare_104 : decode bN_compare 104 = .ok (.iload 7, 2) := by decide +kernel
theorem dN_compare_106 : decode bN_compare 106 = .ok (.ifCond .eq 7, 3) := by decide +kernel
theorem dN_compare_109 : decode bN_compare 109 = .ok (.iconst 1, 1) := by decide +kernel
theorem dN_compare_110 : decode bN_compare 110 = .ok (.goto 4, 3) := by decide +kernel
theorem dN_compare_113 : decode bN_compare 113 = .ok (.iconst 0, 1) := by decide +kernel
theorem dN_compare_114 : decode bN_compare 114 = .ok (.ireturn, 1) := by decide +kernel
theorem dO_of_0 : decode bO_of 0 = .ok (.aload_n 0, 1) := by decide +kernel
theorem dO_of_1 : decode bO_of 1 = .ok (.invokevirtual 21, 3) := by decide +kernel
theorem dO_of_4 : decode bO_of 4 = .ok (.ifCond .ne 10, 3) := by decide +kernel
theorem dO_of_7 : decode bO_of 7 = .ok (.aload_n 1, 1) := by decide +kernel
theorem dO_of_8 : decode bO_of 8 = .ok (.invokevirtual 21, 3) := by decide +kernel
theorem dO_of_11 : decode bO_of 11 = .ok (.ifCond .eq 15, 3) := by decide +kernel
theorem dO_of_14 : decode bO_of 14 = .ok (.aload_n 0, 1) := by decide +kernel
theorem dO_of_15 : decode bO_of 15 = .ok (.invokestatic 25, 3) := by decide +kernel
theorem dO_of_18 : decode bO_of 18 = .ok (.aload_n 1, 1) := by decide +kernel
theorem dO_of_19 : decode bO_of 19 = .ok (.invokestatic 25, 3) := by decide +kernel
theorem dO_of_22 : decode bO_of 22 = .ok (.invokestatic 29, 3) := by decide +kernel
theorem dO_of_25 : decode bO_of 25 = .ok (.ireturn, 1) := by decide +kernel
theorem dO_of_26 : decode bO_of 26 = .ok (.aload_n 0, 1) := by decide +kernel
theorem dO_of_27 : decode bO_of 27 = .ok (.getfield 9, 3) := by decide +kernel
theorem dO_of_30 : decode bO_of 30 = .ok (.iconst 1, 1) := by decide +kernel
theorem dO_of_31 : decode bO_of 31 = .ok (.if_icmp .ne 34, 3) := by decide +kernel
theorem dO_of_34 : decode bO_of 34 = .ok (.aload_n 1, 1) := by decide +kernel
theorem dO_of_35 : decode bO_of 35 = .ok (.getfield 9, 3) := by decide +kernel
theorem dO_of_38 : decode bO_of 38 = .ok (.iconst 1, 1) := by decide +kernel
theorem dO_of_39 : decode bO_of 39 = .ok (.if_icmp .ne 17, 3) := by decide +kernel
theorem dO_of_42 : decode bO_of 42 = .ok (.aload_n 0, 1) := by decide +kernel
theorem dO_of_43 : decode bO_of 43 = .ok (.getfield 35, 3) := by decide +kernel
theorem dO_of_46 : decode bO_of 46 = .ok (.aload_n 1, 1) := by decide +kernel
theorem dO_of_47 : decode bO_of 47 = .ok (.getfield 35, 3) := by decide +kernel
theorem dO_of_50 : decode bO_of 50 = .ok (.invokestatic 39, 3) := by decide +kernel
theorem dO_of_53 : decode bO_of 53 = .ok (.goto 11, 3) := by decide +kernel
theorem dO_of_56 : decode bO_of 56 = .ok (.aload_n 0, 1) := by decide +kernel
theorem dO_of_57 : decode bO_of 57 = .ok (.getfield 35, 3) := by decide +kernel
theorem dO_of_60 : decode bO_of 60 = .ok (.aload_n 1, 1) := by decide +kernel
theorem dO_of_61 : decode bO_of 61 = .ok (.invokestatic 44, 3) := by decide +kernel
theorem dO_of_64 : decode bO_of 64 = .ok (.ireturn, 1) := by decide +kernel
theorem dO_of_65 : decode bO_of 65 = .ok (.aload_n 1, 1) := by decide +kernel
theorem dO_of_66 : decode bO_of 66 = .ok (.getfield 9, 3) := by decide +kernel
theorem dO_of_69 : decode bO_of 69 = .ok (.iconst 1, 1) := by decide +kernel
theorem dO_of_70 : decode bO_of 70 = .ok (.if_icmp .ne 15, 3) := by decide +kernel
theorem dO_of_73 : decode bO_of 73 = .ok (.aload_n 1, 1) := by decide +kernel
theorem dO_of_74 : decode bO_of 74 = .ok (.getfield 35, 3) := by decide +kernel
theorem dO_of_77 : decode bO_of 77 = .ok (.aload_n 0, 1) := by decide +kernel
theorem dO_of_78 : decode bO_of 78 = .ok (.invokestatic 44, 3) := by decide +kernel
theorem dO_of_81 : decode bO_of 81 = .ok (.ineg, 1) := by decide +kernel
theorem dO_of_82 : decode bO_of 82 = .ok (.goto 8, 3) := by decide +kernel
theorem dO_of_85 : decode bO_of 85 = .ok (.aload_n 0, 1) := by decide +kernel
theorem dO_of_86 : decode bO_of 86 = .ok (.aload_n 1, 1) := by decide +kernel
theorem dO_of_87 : decode bO_of 87 = .ok (.invokestatic 48, 3) := by decide +kernel
theorem dO_of_90 : decode bO_of 90 = .ok (.ireturn, 1) := by decide +kernel
theorem dO_infinityOf_0 : decode bO_infinityOf 0 = .ok (.aload_n 0, 1) := by decide +kernel
theorem dO_infinityOf_1 : decode bO_infinityOf 1 = .ok (.invokevirtual 21, 3) := by decide +kernel
theorem dO_infinityOf_4 : decode bO_infinityOf 4 = .ok (.ifCond .eq 10, 3) := by decide +kernel
theorem dO_infinityOf_7 : decode bO_infinityOf 7 = .ok (.aload_n 0, 1) := by decide +kernel
theorem dO_infinityOf_8 : decode bO_infinityOf 8 = .ok (.invokevirtual 51, 3) := by decide +kernel
theorem dO_infinityOf_11 : decode bO_infinityOf 11 = .ok (.goto 4, 3) := by decide +kernel
theorem dO_infinityOf_14 : decode bO_infinityOf 14 = .ok (.iconst 0, 1) := by decide +kernel
theorem dO_infinityOf_15 : decode bO_infinityOf 15 = .ok (.ireturn, 1) := by decide +kernel
theorem dO_ofWhole_0 : decode bO_ofWhole 0 = .ok (.aload_n 2, 1) := by decide +kernel
theorem dO_ofWhole_1 : decode bO_ofWhole 1 = .ok (.getfield 55, 3) := by decide +kernel
theorem dO_ofWhole_4 : decode bO_ofWhole 4 = .ok (.ifCond .lt 16, 3) := by decide +kernel
theorem dO_ofWhole_7 : decode bO_ofWhole 7 = .ok (.aload_n 2, 1) := by decide +kernel
theorem dO_ofWhole_8 : decode bO_ofWhole 8 = .ok (.invokevirtual 58, 3) := by decide +kernel
theorem dO_ofWhole_11 : decode bO_ofWhole 11 = .ok (.ifCond .ne 9, 3) := by decide +kernel
theorem dO_ofWhole_14 : decode bO_ofWhole 14 = .ok (.aload_n 2, 1) := by decide +kernel
theorem dO_ofWhole_15 : decode bO_ofWhole 15 = .ok (.invokevirtual 51, 3) := by decide +kernel
theorem dO_ofWhole_18 : decode bO_ofWhole 18 = .ok (.ineg, 1) := by decide +kernel
theorem dO_ofWhole_19 : decode bO_ofWhole 19 = .ok (.ireturn, 1) := by decide +kernel
theorem dO_ofWhole_20 : decode bO_ofWhole 20 = .ok (.aload_n 2, 1) := by decide +kernel
theorem dO_ofWhole_21 : decode bO_ofWhole 21 = .ok (.invokevirtual 61, 3) := by decide +kernel
theorem dO_ofWhole_24 : decode bO_ofWhole 24 = .ok (.lstore_n 3, 1) := by decide +kernel
theorem dO_ofWhole_25 : decode bO_ofWhole 25 = .ok (.lload_n 0, 1) := by decide +kernel
theorem dO_ofWhole_26 : decode bO_ofWhole 26 = .ok (.lload_n 3, 1) := by decide +kernel
theorem dO_ofWhole_27 : decode bO_ofWhole 27 = .ok (.lcmp, 1) := by decide +kernel
theorem dO_ofWhole_28 : decode bO_ofWhole 28 = .ok (.ifCond .eq 9, 3) := by decide +kernel
theorem dO_ofWhole_31 : decode bO_ofWhole 31 = .ok (.lload_n 0, 1) := by decide +kernel
theorem dO_ofWhole_32 : decode bO_ofWhole 32 = .ok (.lload_n 3, 1) := by decide +kernel
theorem dO_ofWhole_33 : decode bO_ofWhole 33 = .ok (.invokestatic 39, 3) := by decide +kernel
theorem dO_ofWhole_36 : decode bO_ofWhole 36 = .ok (.ireturn, 1) := by decide +kernel
theorem dO_ofWhole_37 : decode bO_ofWhole 37 = .ok (.aload_n 2, 1) := by decide +kernel
theorem dO_ofWhole_38 : decode bO_ofWhole 38 = .ok (.getfield 55, 3) := by decide +kernel
theorem dO_ofWhole_41 : decode bO_ofWhole 41 = .ok (.ifCond .ge 7, 3) := by decide +kernel
theorem dO_ofWhole_44 : decode bO_ofWhole 44 = .ok (.iconst (-1), 1) := by decide +kernel
theorem dO_ofWhole_45 : decode bO_ofWhole 45 = .ok (.goto 4, 3) := by decide +kernel
theorem dO_ofWhole_48 : decode bO_ofWhole 48 = .ok (.iconst 0, 1) := by decide +kernel
theorem dO_ofWhole_49 : decode bO_ofWhole 49 = .ok (.ireturn, 1) := by decide +kernel
theorem dO_ofReals_0 : decode bO_ofReals 0 = .ok (.aload_n 0, 1) := by decide +kernel
theorem dO_ofReals_1 : decode bO_ofReals 1 = .ok (.invokevirtual 51, 3) := by decide +kernel
theorem dO_ofReals_4 : decode bO_ofReals 4 = .ok (.aload_n 1, 1) := by decide +kernel
theorem dO_ofReals_5 : decode bO_ofReals 5 = .ok (.invokevirtual 51, 3) := by decide +kernel
theorem dO_ofReals_8 : decode bO_ofReals 8 = .ok (.if_icmp .eq 15, 3) := by decide +kernel
theorem dO_ofReals_11 : decode bO_ofReals 11 = .ok (.aload_n 0, 1) := by decide +kernel
theorem dO_ofReals_12 : decode bO_ofReals 12 = .ok (.invokevirtual 51, 3) := by decide +kernel
theorem dO_ofReals_15 : decode bO_ofReals 15 = .ok (.aload_n 1, 1) := by decide +kernel
theorem dO_ofReals_16 : decode bO_ofReals 16 = .ok (.invokevirtual 51, 3) := by decide +kernel
theorem dO_ofReals_19 : decode bO_ofReals 19 = .ok (.invokestatic 29, 3) := by decide +kernel
theorem dO_ofReals_22 : decode bO_ofReals 22 = .ok (.ireturn, 1) := by decide +kernel
theorem dO_ofReals_23 : decode bO_ofReals 23 = .ok (.aload_n 0, 1) := by decide +kernel
theorem dO_ofReals_24 : decode bO_ofReals 24 = .ok (.invokevirtual 51, 3) := by decide +kernel
theorem dO_ofReals_27 : decode bO_ofReals 27 = .ok (.ifCond .ne 7, 3) := by decide +kernel
theorem dO_ofReals_30 : decode bO_ofReals 30 = .ok (.iconst 0, 1) := by decide +kernel
theorem dO_ofReals_31 : decode bO_ofReals 31 = .ok (.goto 13, 3) := by decide +kernel
theorem dO_ofReals_34 : decode bO_ofReals 34 = .ok (.aload_n 0, 1) := by decide +kernel
theorem dO_ofReals_35 : decode bO_ofReals 35 = .ok (.invokevirtual 51, 3) := by decide +kernel
theorem dO_ofReals_38 : decode bO_ofReals 38 = .ok (.aload_n 0, 1) := by decide +kernel
theorem dO_ofReals_39 : decode bO_ofReals 39 = .ok (.aload_n 1, 1) := by decide +kernel
theorem dO_ofReals_40 : decode bO_ofReals 40 = .ok (.invokestatic 65, 3) := by decide +kernel
theorem dO_ofReals_43 : decode bO_ofReals 43 = .ok (.imul, 1) := by decide +kernel
theorem dO_ofReals_44 : decode bO_ofReals 44 = .ok (.ireturn, 1) := by decide +kernel
theorem dN_kind_0 : decode bN_kind 0 = .ok (.iload_n 1, 1) := by decide +kernel
theorem dN_kind_1 : decode bN_kind 1 = .ok (.invokestatic 26, 3) := by decide +kernel
theorem dN_kind_4 : decode bN_kind 4 = .ok (.ifCond .eq 15, 3) := by decide +kernel
theorem dN_kind_7 : decode bN_kind 7 = .ok (.aload_n 0, 1) := by decide +kernel
theorem dN_kind_8 : decode bN_kind 8 = .ok (.getfield 11, 3) := by decide +kernel
theorem dN_kind_11 : decode bN_kind 11 = .ok (.iload_n 1, 1) := by decide +kernel
theorem dN_kind_12 : decode bN_kind 12 = .ok (.aaload, 1) := by decide +kernel
theorem dN_kind_13 : decode bN_kind 13 = .ok (.getfield 71, 3) := by decide +kernel
theorem dN_kind_16 : decode bN_kind 16 = .ok (.goto 4, 3) := by decide +kernel
theorem dN_kind_19 : decode bN_kind 19 = .ok (.iconst (-1), 1) := by decide +kernel
theorem dN_kind_20 : decode bN_kind 20 = .ok (.ireturn, 1) := by decide +kernel
theorem dN_number_0 : decode bN_number 0 = .ok (.iload_n 1, 1) := by decide +kernel
theorem dN_number_1 : decode bN_number 1 = .ok (.invokestatic 26, 3) := by decide +kernel
theorem dN_number_4 : decode bN_number 4 = .ok (.ifCond .eq 15, 3) := by decide +kernel
theorem dN_number_7 : decode bN_number 7 = .ok (.aload_n 0, 1) := by decide +kernel
theorem dN_number_8 : decode bN_number 8 = .ok (.getfield 11, 3) := by decide +kernel
theorem dN_number_11 : decode bN_number 11 = .ok (.iload_n 1, 1) := by decide +kernel
theorem dN_number_12 : decode bN_number 12 = .ok (.aaload, 1) := by decide +kernel
theorem dN_number_13 : decode bN_number 13 = .ok (.getfield 38, 3) := by decide +kernel
theorem dN_number_16 : decode bN_number 16 = .ok (.goto 4, 3) := by decide +kernel
theorem dN_number_19 : decode bN_number 19 = .ok (.lconst 0, 1) := by decide +kernel
theorem dN_number_20 : decode bN_number 20 = .ok (.lreturn, 1) := by decide +kernel
theorem dN_exponent_0 : decode bN_exponent 0 = .ok (.iload_n 1, 1) := by decide +kernel
theorem dN_exponent_1 : decode bN_exponent 1 = .ok (.invokestatic 26, 3) := by decide +kernel
theorem dN_exponent_4 : decode bN_exponent 4 = .ok (.ifCond .eq 15, 3) := by decide +kernel
theorem dN_exponent_7 : decode bN_exponent 7 = .ok (.aload_n 0, 1) := by decide +kernel
theorem dN_exponent_8 : decode bN_exponent 8 = .ok (.getfield 11, 3) := by decide +kernel
theorem dN_exponent_11 : decode bN_exponent 11 = .ok (.iload_n 1, 1) := by decide +kernel
theorem dN_exponent_12 : decode bN_exponent 12 = .ok (.aaload, 1) := by decide +kernel
theorem dN_exponent_13 : decode bN_exponent 13 = .ok (.getfield 42, 3) := by decide +kernel
theorem dN_exponent_16 : decode bN_exponent 16 = .ok (.goto 4, 3) := by decide +kernel
theorem dN_exponent_19 : decode bN_exponent 19 = .ok (.iconst 0, 1) := by decide +kernel
theorem dN_exponent_20 : decode bN_exponent 20 = .ok (.ireturn, 1) := by decide +kernel
theorem dN_sum_0 : decode bN_sum 0 = .ok (.iload_n 1, 1) := by decide +kernel
theorem dN_sum_1 : decode bN_sum 1 = .ok (.invokestatic 26, 3) := by decide +kernel
theorem dN_sum_4 : decode bN_sum 4 = .ok (.ifCond .eq 11, 3) := by decide +kernel
theorem dN_sum_7 : decode bN_sum 7 = .ok (.iload_n 2, 1) := by decide +kernel
theorem dN_sum_8 : decode bN_sum 8 = .ok (.iload_n 3, 1) := by decide +kernel
theorem dN_sum_9 : decode bN_sum 9 = .ok (.invokestatic 80, 3) := by decide +kernel
theorem dN_sum_12 : decode bN_sum 12 = .ok (.ifCond .ne 5, 3) := by decide +kernel
theorem dN_sum_15 : decode bN_sum 15 = .ok (.iconst 0, 1) := by decide +kernel
theorem dN_sum_16 : decode bN_sum 16 = .ok (.ireturn, 1) := by decide +kernel
theorem dN_sum_17 : decode bN_sum 17 = .ok (.aload_n 0, 1) := by decide +kernel
theorem dN_sum_18 : decode bN_sum 18 = .ok (.getfield 16, 3) := by decide +kernel
theorem dN_sum_21 : decode bN_sum 21 = .ok (.lconst 0, 1) := by decide +kernel
theorem dN_sum_22 : decode bN_sum 22 = .ok (.invokevirtual 30, 3) := by decide +kernel
theorem dN_sum_25 : decode bN_sum 25 = .ok (.iconst 0, 1) := by decide +kernel
theorem dN_sum_26 : decode bN_sum 26 = .ok (.istore 4, 2) := by decide +kernel
theorem dN_sum_28 : decode bN_sum 28 = .ok (.iload 4, 2) := by decide +kernel
theorem dN_sum_30 : decode bN_sum 30 = .ok (.iload_n 3, 1) := by decide +kernel
theorem dN_sum_31 : decode bN_sum 31 = .ok (.if_icmp .ge 31, 3) := by decide +kernel
theorem dN_sum_34 : decode bN_sum 34 = .ok (.aload_n 0, 1) := by decide +kernel
theorem dN_sum_35 : decode bN_sum 35 = .ok (.getfield 20, 3) := by decide +kernel
theorem dN_sum_38 : decode bN_sum 38 = .ok (.aload_n 0, 1) := by decide +kernel
theorem dN_sum_39 : decode bN_sum 39 = .ok (.getfield 11, 3) := by decide +kernel
theorem dN_sum_42 : decode bN_sum 42 = .ok (.iload_n 2, 1) := by decide +kernel
theorem dN_sum_43 : decode bN_sum 43 = .ok (.iload 4, 2) := by decide +kernel
theorem dN_sum_45 : decode bN_sum 45 = .ok (.iadd, 1) := by decide +kernel
theorem dN_sum_46 : decode bN_sum 46 = .ok (.aaload, 1) := by decide +kernel
theorem dN_sum_47 : decode bN_sum 47 = .ok (.invokevirtual 46, 3) := by decide +kernel
theorem dN_sum_50 : decode bN_sum 50 = .ok (.aload_n 0, 1) := by decide +kernel
theorem dN_sum_51 : decode bN_sum 51 = .ok (.iconst 0, 1) := by decide +kernel
theorem dN_sum_52 : decode bN_sum 52 = .ok (.invokevirtual 54, 3) := by decide +kernel
theorem dN_sum_55 : decode bN_sum 55 = .ok (.pop, 1) := by decide +kernel
theorem dN_sum_56 : decode bN_sum 56 = .ok (.iinc 4 1, 3) := by decide +kernel
theorem dN_sum_59 : decode bN_sum 59 = .ok (.goto (-31), 3) := by decide +kernel
theorem dN_sum_62 : decode bN_sum 62 = .ok (.aload_n 0, 1) := by decide +kernel
theorem dN_sum_63 : decode bN_sum 63 = .ok (.getfield 11, 3) := by decide +kernel
theorem dN_sum_66 : decode bN_sum 66 = .ok (.iload_n 1, 1) := by decide +kernel
theorem dN_sum_67 : decode bN_sum 67 = .ok (.aaload, 1) := by decide +kernel
theorem dN_sum_68 : decode bN_sum 68 = .ok (.aload_n 0, 1) := by decide +kernel
theorem dN_sum_69 : decode bN_sum 69 = .ok (.getfield 16, 3) := by decide +kernel
theorem dN_sum_72 : decode bN_sum 72 = .ok (.invokevirtual 46, 3) := by decide +kernel
theorem dN_sum_75 : decode bN_sum 75 = .ok (.iconst 1, 1) := by decide +kernel
theorem dN_sum_76 : decode bN_sum 76 = .ok (.ireturn, 1) := by decide +kernel
theorem dN_isRow_0 : decode bN_isRow 0 = .ok (.iload_n 0, 1) := by decide +kernel
theorem dN_isRow_1 : decode bN_isRow 1 = .ok (.ifCond .lt 25, 3) := by decide +kernel
theorem dN_isRow_4 : decode bN_isRow 4 = .ok (.iload_n 0, 1) := by decide +kernel
theorem dN_isRow_5 : decode bN_isRow 5 = .ok (.bipush 32, 2) := by decide +kernel
theorem dN_isRow_7 : decode bN_isRow 7 = .ok (.if_icmp .gt 19, 3) := by decide +kernel
theorem dN_isRow_10 : decode bN_isRow 10 = .ok (.iload_n 1, 1) := by decide +kernel
theorem dN_isRow_11 : decode bN_isRow 11 = .ok (.ifCond .lt 15, 3) := by decide +kernel
theorem dN_isRow_14 : decode bN_isRow 14 = .ok (.iload_n 1, 1) := by decide +kernel
theorem dN_isRow_15 : decode bN_isRow 15 = .ok (.bipush 32, 2) := by decide +kernel
theorem dN_isRow_17 : decode bN_isRow 17 = .ok (.iload_n 0, 1) := by decide +kernel
theorem dN_isRow_18 : decode bN_isRow 18 = .ok (.isub, 1) := by decide +kernel
theorem dN_isRow_19 : decode bN_isRow 19 = .ok (.if_icmp .gt 7, 3) := by decide +kernel
theorem dN_isRow_22 : decode bN_isRow 22 = .ok (.iconst 1, 1) := by decide +kernel
theorem dN_isRow_23 : decode bN_isRow 23 = .ok (.goto 4, 3) := by decide +kernel
theorem dN_isRow_26 : decode bN_isRow 26 = .ok (.iconst 0, 1) := by decide +kernel
theorem dN_isRow_27 : decode bN_isRow 27 = .ok (.ireturn, 1) := by decide +kernel
theorem dN_polynomial_0 : decode bN_polynomial 0 = .ok (.iload_n 1, 1) := by decide +kernel
theorem dN_polynomial_1 : decode bN_polynomial 1 = .ok (.invokestatic 26, 3) := by decide +kernel
theorem dN_polynomial_4 : decode bN_polynomial 4 = .ok (.ifCond .eq 19, 3) := by decide +kernel
theorem dN_polynomial_7 : decode bN_polynomial 7 = .ok (.iload_n 2, 1) := by decide +kernel
theorem dN_polynomial_8 : decode bN_polynomial 8 = .ok (.invokestatic 26, 3) := by decide +kernel
theorem dN_polynomial_11 : decode bN_polynomial 11 = .ok (.ifCond .eq 12, 3) := by decide +kernel
theorem dN_polynomial_14 : decode bN_polynomial 14 = .ok (.iload_n 3, 1) := by decide +kernel
theorem dN_polynomial_15 : decode bN_polynomial 15 = .ok (.iload 4, 2) := by decide +kernel
theorem dN_polynomial_17 : decode bN_polynomial 17 = .ok (.invokestatic 80, 3) := by decide +kernel
theorem dN_polynomial_20 : decode bN_polynomial 20 = .ok (.ifCond .ne 5, 3) := by decide +kernel
theorem dN_polynomial_23 : decode bN_polynomial 23 = .ok (.iconst 0, 1) := by decide +kernel
theorem dN_polynomial_24 : decode bN_polynomial 24 = .ok (.ireturn, 1) := by decide +kernel
theorem dN_polynomial_25 : decode bN_polynomial 25 = .ok (.aload_n 0, 1) := by decide +kernel
theorem dN_polynomial_26 : decode bN_polynomial 26 = .ok (.getfield 16, 3) := by decide +kernel
theorem dN_polynomial_29 : decode bN_polynomial 29 = .ok (.lconst 0, 1) := by decide +kernel
theorem dN_polynomial_30 : decode bN_polynomial 30 = .ok (.invokevirtual 30, 3) := by decide +kernel
theorem dN_polynomial_33 : decode bN_polynomial 33 = .ok (.iload 4, 2) := by decide +kernel
theorem dN_polynomial_35 : decode bN_polynomial 35 = .ok (.iconst 1, 1) := by decide +kernel
theorem dN_polynomial_36 : decode bN_polynomial 36 = .ok (.isub, 1) := by decide +kernel
theorem dN_polynomial_37 : decode bN_polynomial 37 = .ok (.istore 5, 2) := by decide +kernel
theorem dN_polynomial_39 : decode bN_polynomial 39 = .ok (.iload 5, 2) := by decide +kernel
theorem dN_polynomial_41 : decode bN_polynomial 41 = .ok (.ifCond .lt 50, 3) := by decide +kernel
theorem dN_polynomial_44 : decode bN_polynomial 44 = .ok (.aload_n 0, 1) := by decide +kernel
theorem dN_polynomial_45 : decode bN_polynomial 45 = .ok (.getfield 20, 3) := by decide +kernel
theorem dN_polynomial_48 : decode bN_polynomial 48 = .ok (.aload_n 0, 1) := by decide +kernel
theorem dN_polynomial_49 : decode bN_polynomial 49 = .ok (.getfield 11, 3) := by decide +kernel
theorem dN_polynomial_52 : decode bN_polynomial 52 = .ok (.iload_n 2, 1) := by decide +kernel
theorem dN_polynomial_53 : decode bN_polynomial 53 = .ok (.aaload, 1) := by decide +kernel
theorem dN_polynomial_54 : decode bN_polynomial 54 = .ok (.invokevirtual 46, 3) := by decide +kernel
theorem dN_polynomial_57 : decode bN_polynomial 57 = .ok (.aload_n 0, 1) := by decide +kernel
theorem dN_polynomial_58 : decode bN_polynomial 58 = .ok (.iconst 2, 1) := by decide +kernel
theorem dN_polynomial_59 : decode bN_polynomial 59 = .ok (.invokevirtual 54, 3) := by decide +kernel
theorem dN_polynomial_62 : decode bN_polynomial 62 = .ok (.pop, 1) := by decide +kernel
theorem dN_polynomial_63 : decode bN_polynomial 63 = .ok (.aload_n 0, 1) := by decide +kernel
theorem dN_polynomial_64 : decode bN_polynomial 64 = .ok (.getfield 20, 3) := by decide +kernel
theorem dN_polynomial_67 : decode bN_polynomial 67 = .ok (.aload_n 0, 1) := by decide +kernel
theorem dN_polynomial_68 : decode bN_polynomial 68 = .ok (.getfield 11, 3) := by decide +kernel
theorem dN_polynomial_71 : decode bN_polynomial 71 = .ok (.iload_n 3, 1) := by decide +kernel
theorem dN_polynomial_72 : decode bN_polynomial 72 = .ok (.iload 5, 2) := by decide +kernel
theorem dN_polynomial_74 : decode bN_polynomial 74 = .ok (.iadd, 1) := by decide +kernel
theorem dN_polynomial_75 : decode bN_polynomial 75 = .ok (.aaload, 1) := by decide +kernel
theorem dN_polynomial_76 : decode bN_polynomial 76 = .ok (.invokevirtual 46, 3) := by decide +kernel
theorem dN_polynomial_79 : decode bN_polynomial 79 = .ok (.aload_n 0, 1) := by decide +kernel
theorem dN_polynomial_80 : decode bN_polynomial 80 = .ok (.iconst 0, 1) := by decide +kernel
theorem dN_polynomial_81 : decode bN_polynomial 81 = .ok (.invokevirtual 54, 3) := by decide +kernel
theorem dN_polynomial_84 : decode bN_polynomial 84 = .ok (.pop, 1) := by decide +kernel
theorem dN_polynomial_85 : decode bN_polynomial 85 = .ok (.iinc 5 (-1), 3) := by decide +kernel
theorem dN_polynomial_88 : decode bN_polynomial 88 = .ok (.goto (-49), 3) := by decide +kernel
theorem dN_polynomial_91 : decode bN_polynomial 91 = .ok (.aload_n 0, 1) := by decide +kernel
theorem dN_polynomial_92 : decode bN_polynomial 92 = .ok (.getfield 11, 3) := by decide +kernel
theorem dN_polynomial_95 : decode bN_polynomial 95 = .ok (.iload_n 1, 1) := by decide +kernel
theorem dN_polynomial_96 : decode bN_polynomial 96 = .ok (.aaload, 1) := by decide +kernel
theorem dN_polynomial_97 : decode bN_polynomial 97 = .ok (.aload_n 0, 1) := by decide +kernel
theorem dN_polynomial_98 : decode bN_polynomial 98 = .ok (.getfield 16, 3) := by decide +kernel
theorem dN_polynomial_101 : decode bN_polynomial 101 = .ok (.invokevirtual 46, 3) := by decide +kernel
theorem dN_polynomial_104 : decode bN_polynomial 104 = .ok (.iconst 1, 1) := by decide +kernel
theorem dN_polynomial_105 : decode bN_polynomial 105 = .ok (.ireturn, 1) := by decide +kernel
theorem dN_sort_0 : decode bN_sort 0 = .ok (.iload_n 1, 1) := by decide +kernel
theorem dN_sort_1 : decode bN_sort 1 = .ok (.iload_n 2, 1) := by decide +kernel
theorem dN_sort_2 : decode bN_sort 2 = .ok (.invokestatic 80, 3) := by decide +kernel
theorem dN_sort_5 : decode bN_sort 5 = .ok (.ifCond .ne 5, 3) := by decide +kernel
theorem dN_sort_8 : decode bN_sort 8 = .ok (.iconst 0, 1) := by decide +kernel
theorem dN_sort_9 : decode bN_sort 9 = .ok (.ireturn, 1) := by decide +kernel
theorem dN_sort_10 : decode bN_sort 10 = .ok (.iload_n 1, 1) := by decide +kernel
theorem dN_sort_11 : decode bN_sort 11 = .ok (.iconst 1, 1) := by decide +kernel
theorem dN_sort_12 : decode bN_sort 12 = .ok (.iadd, 1) := by decide +kernel
theorem dN_sort_13 : decode bN_sort 13 = .ok (.istore_n 3, 1) := by decide +kernel
theorem dN_sort_14 : decode bN_sort 14 = .ok (.iload_n 3, 1) := by decide +kernel
theorem dN_sort_15 : decode bN_sort 15 = .ok (.iload_n 1, 1) := by decide +kernel
theorem dN_sort_16 : decode bN_sort 16 = .ok (.iload_n 2, 1) := by decide +kernel
theorem dN_sort_17 : decode bN_sort 17 = .ok (.iadd, 1) := by decide +kernel
theorem dN_sort_18 : decode bN_sort 18 = .ok (.if_icmp .ge 15, 3) := by decide +kernel
theorem dN_sort_21 : decode bN_sort 21 = .ok (.aload_n 0, 1) := by decide +kernel
theorem dN_sort_22 : decode bN_sort 22 = .ok (.iload_n 1, 1) := by decide +kernel
theorem dN_sort_23 : decode bN_sort 23 = .ok (.iload_n 3, 1) := by decide +kernel
theorem dN_sort_24 : decode bN_sort 24 = .ok (.invokevirtual 84, 3) := by decide +kernel
theorem dN_sort_27 : decode bN_sort 27 = .ok (.iinc 3 1, 3) := by decide +kernel
theorem dN_sort_30 : decode bN_sort 30 = .ok (.goto (-16), 3) := by decide +kernel
theorem dN_sort_33 : decode bN_sort 33 = .ok (.iconst 1, 1) := by decide +kernel
theorem dN_sort_34 : decode bN_sort 34 = .ok (.ireturn, 1) := by decide +kernel
theorem dN_insert_0 : decode bN_insert 0 = .ok (.aload_n 0, 1) := by decide +kernel
theorem dN_insert_1 : decode bN_insert 1 = .ok (.getfield 11, 3) := by decide +kernel
theorem dN_insert_4 : decode bN_insert 4 = .ok (.iload_n 2, 1) := by decide +kernel
theorem dN_insert_5 : decode bN_insert 5 = .ok (.aaload, 1) := by decide +kernel
theorem dN_insert_6 : decode bN_insert 6 = .ok (.astore_n 3, 1) := by decide +kernel
theorem dN_insert_7 : decode bN_insert 7 = .ok (.iload_n 2, 1) := by decide +kernel
theorem dN_insert_8 : decode bN_insert 8 = .ok (.istore 4, 2) := by decide +kernel
theorem dN_insert_10 : decode bN_insert 10 = .ok (.iload 4, 2) := by decide +kernel
theorem dN_insert_12 : decode bN_insert 12 = .ok (.iload_n 1, 1) := by decide +kernel
theorem dN_insert_13 : decode bN_insert 13 = .ok (.if_icmp .le 41, 3) := by decide +kernel
theorem dN_insert_16 : decode bN_insert 16 = .ok (.aload_n 3, 1) := by decide +kernel
theorem dN_insert_17 : decode bN_insert 17 = .ok (.aload_n 0, 1) := by decide +kernel
theorem dN_insert_18 : decode bN_insert 18 = .ok (.getfield 11, 3) := by decide +kernel
theorem dN_insert_21 : decode bN_insert 21 = .ok (.iload 4, 2) := by decide +kernel
theorem dN_insert_23 : decode bN_insert 23 = .ok (.iconst 1, 1) := by decide +kernel
theorem dN_insert_24 : decode bN_insert 24 = .ok (.isub, 1) := by decide +kernel
theorem dN_insert_25 : decode bN_insert 25 = .ok (.aaload, 1) := by decide +kernel
theorem dN_insert_26 : decode bN_insert 26 = .ok (.invokestatic 88, 3) := by decide +kernel
theorem dN_insert_29 : decode bN_insert 29 = .ok (.ifCond .eq 25, 3) := by decide +kernel
theorem dN_insert_32 : decode bN_insert 32 = .ok (.aload_n 0, 1) := by decide +kernel
theorem dN_insert_33 : decode bN_insert 33 = .ok (.getfield 11, 3) := by decide +kernel
theorem dN_insert_36 : decode bN_insert 36 = .ok (.iload 4, 2) := by decide +kernel
theorem dN_insert_38 : decode bN_insert 38 = .ok (.aload_n 0, 1) := by decide +kernel
theorem dN_insert_39 : decode bN_insert 39 = .ok (.getfield 11, 3) := by decide +kernel
theorem dN_insert_42 : decode bN_insert 42 = .ok (.iload 4, 2) := by decide +kernel
theorem dN_insert_44 : decode bN_insert 44 = .ok (.iconst 1, 1) := by decide +kernel
theorem dN_insert_45 : decode bN_insert 45 = .ok (.isub, 1) := by decide +kernel
theorem dN_insert_46 : decode bN_insert 46 = .ok (.aaload, 1) := by decide +kernel
theorem dN_insert_47 : decode bN_insert 47 = .ok (.aastore, 1) := by decide +kernel
theorem dN_insert_48 : decode bN_insert 48 = .ok (.iinc 4 (-1), 3) := by decide +kernel
theorem dN_insert_51 : decode bN_insert 51 = .ok (.goto (-41), 3) := by decide +kernel
theorem dN_insert_54 : decode bN_insert 54 = .ok (.aload_n 0, 1) := by decide +kernel
theorem dN_insert_55 : decode bN_insert 55 = .ok (.getfield 11, 3) := by decide +kernel
theorem dN_insert_58 : decode bN_insert 58 = .ok (.iload 4, 2) := by decide +kernel
theorem dN_insert_60 : decode bN_insert 60 = .ok (.aload_n 3, 1) := by decide +kernel
theorem dN_insert_61 : decode bN_insert 61 = .ok (.aastore, 1) := by decide +kernel
theorem dN_insert_62 : decode bN_insert 62 = .ok (.return_, 1) := by decide +kernel
theorem dO_goesBefore_0 : decode bO_goesBefore 0 = .ok (.aload_n 0, 1) := by decide +kernel
theorem dO_goesBefore_1 : decode bO_goesBefore 1 = .ok (.getfield 9, 3) := by decide +kernel
theorem dO_goesBefore_4 : decode bO_goesBefore 4 = .ok (.iconst 5, 1) := by decide +kernel
theorem dO_goesBefore_5 : decode bO_goesBefore 5 = .ok (.if_icmp .eq 11, 3) := by decide +kernel
theorem dO_goesBefore_8 : decode bO_goesBefore 8 = .ok (.aload_n 1, 1) := by decide +kernel
theorem dO_goesBefore_9 : decode bO_goesBefore 9 = .ok (.getfield 9, 3) := by decide +kernel
theorem dO_goesBefore_12 : decode bO_goesBefore 12 = .ok (.iconst 5, 1) := by decide +kernel
theorem dO_goesBefore_13 : decode bO_goesBefore 13 = .ok (.if_icmp .ne 25, 3) := by decide +kernel
theorem dO_goesBefore_16 : decode bO_goesBefore 16 = .ok (.aload_n 0, 1) := by decide +kernel
theorem dO_goesBefore_17 : decode bO_goesBefore 17 = .ok (.getfield 9, 3) := by decide +kernel
theorem dO_goesBefore_20 : decode bO_goesBefore 20 = .ok (.iconst 5, 1) := by decide +kernel
theorem dO_goesBefore_21 : decode bO_goesBefore 21 = .ok (.if_icmp .eq 15, 3) := by decide +kernel
theorem dO_goesBefore_24 : decode bO_goesBefore 24 = .ok (.aload_n 1, 1) := by decide +kernel
theorem dO_goesBefore_25 : decode bO_goesBefore 25 = .ok (.getfield 9, 3) := by decide +kernel
theorem dO_goesBefore_28 : decode bO_goesBefore 28 = .ok (.iconst 5, 1) := by decide +kernel
theorem dO_goesBefore_29 : decode bO_goesBefore 29 = .ok (.if_icmp .ne 7, 3) := by decide +kernel
theorem dO_goesBefore_32 : decode bO_goesBefore 32 = .ok (.iconst 1, 1) := by decide +kernel
theorem dO_goesBefore_33 : decode bO_goesBefore 33 = .ok (.goto 4, 3) := by decide +kernel
theorem dO_goesBefore_36 : decode bO_goesBefore 36 = .ok (.iconst 0, 1) := by decide +kernel
theorem dO_goesBefore_37 : decode bO_goesBefore 37 = .ok (.ireturn, 1) := by decide +kernel
theorem dO_goesBefore_38 : decode bO_goesBefore 38 = .ok (.aload_n 0, 1) := by decide +kernel
theorem dO_goesBefore_39 : decode bO_goesBefore 39 = .ok (.aload_n 1, 1) := by decide +kernel
theorem dO_goesBefore_40 : decode bO_goesBefore 40 = .ok (.invokestatic 15, 3) := by decide +kernel
theorem dO_goesBefore_43 : decode bO_goesBefore 43 = .ok (.ifCond .ge 7, 3) := by decide +kernel
theorem dO_goesBefore_46 : decode bO_goesBefore 46 = .ok (.iconst 1, 1) := by decide +kernel
theorem dO_goesBefore_47 : decode bO_goesBefore 47 = .ok (.goto 4, 3) := by decide +kernel
theorem dO_goesBefore_50 : decode bO_goesBefore 50 = .ok (.iconst 0, 1) := by decide +kernel
theorem dO_goesBefore_51 : decode bO_goesBefore 51 = .ok (.ireturn, 1) := by decide +kernel
