set_option maxHeartbeats 4000000 in
set_option maxRecDepth 100000 in
theorem cR_hasNoNumber (l : Launch) (D : va_G) (tys : zT) (X : va_W) (LP : List Nat) (f : Nat → V3) (a0 : Nat) (h_a0 : a0 ∈ LP) (a1 : Nat) (h_a1 : a1 ∈ LP) : zM l D vwCl zNF zNM yR_hasNoNumber wsR_hasNoNumber { frames := 0, cells := 0, slots := 0, locals := 0 } [.ref a0, .ref a1] (X ++ PL LP f) tys (qI (fun r w' tys' => X ++ PL LP f = w' ∧ tys = tys' ∧ (True))) := by
  refine z_met (cc := bR_hasNoNumber) (maxL := 2) (ret := (some .boolean)) (isI := false) (own := RR) (by decide +kernel) rfl rfl (fun h => by cases h) (Nat.le_of_ble_eq_true rfl) (fun Z hZ => ?_)
  show Z 0 0 tys 0 [(0, .ref a0), (1, .ref a1)] [] (X ++ PL LP f)
  refine z_aload_n (pc := 0) hZ 0 dR_hasNoNumber_0 rfl rfl ?_
  refine z_pg0N (pc := 1) hZ h_a0 uc_V nf_R_11 dR_hasNoNumber_1 (fun v1_1 ev1_1 => ?_)
  refine z_iconst (pc := 4) hZ 5 dR_hasNoNumber_4 (by decide) ?_
  have J16 : Z 0 0 tys 16 [] [] (X ++ PL LP f) := by
    refine z_iconst (pc := 16) hZ 1 dR_hasNoNumber_16 (by decide) ?_
    refine z_goto (pc := 17) hZ 21 dR_hasNoNumber_17 (by decide) ?_
    exact z_reti (pc := 21) hZ dR_hasNoNumber_21 .boolean rfl rfl ⟨_, rfl, rfl, rfl, (by trivial)⟩
  refine z_icmp_eq (pc := 5) hZ 16 dR_hasNoNumber_5 (by decide) (fun c5_2 => ?_) (fun c5_2 => ?_)
  · exact z_sub (pc := 16) hZ [] rfl (J16 )
  · refine z_aload_n (pc := 8) hZ 1 dR_hasNoNumber_8 rfl rfl ?_
    refine z_pg0N (pc := 9) hZ h_a1 uc_V nf_R_11 dR_hasNoNumber_9 (fun v9_3 ev9_3 => ?_)
    refine z_iconst (pc := 12) hZ 5 dR_hasNoNumber_12 (by decide) ?_
    refine z_icmp_ne (pc := 13) hZ 20 dR_hasNoNumber_13 (by decide) (fun c13_4 => ?_) (fun c13_4 => ?_)
    · refine z_iconst (pc := 20) hZ 0 dR_hasNoNumber_20 (by decide) ?_
      exact z_reti (pc := 21) hZ dR_hasNoNumber_21 .boolean rfl rfl ⟨_, rfl, rfl, rfl, (by trivial)⟩
    · exact z_sub (pc := 16) hZ [] rfl (J16 )
set_option maxHeartbeats 4000000 in
set_option maxRecDepth 100000 in
theorem cR_addSmaller (l : Launch) (D : va_G) (tys : zT) (X : va_W) (LP : List Nat) (f : Nat → V3) (a0 : Nat) (h_a0 : a0 ∈ LP) (a1 : Nat) (h_a1 : a1 ∈ LP) (a2 : Nat) (h_a2 : a2 ∈ LP) : zM l D vwCl zNF zNM yR_addSmaller wsR_addSmaller { frames := 3, cells := 0, slots := 0, locals := 74 } [.ref a0, .ref a1, .ref a2] (X ++ PL LP f) tys (qV (fun w' tys' => ∃ f' : Nat → V3, X ++ PL LP f' = w' ∧ tys = tys' ∧ (True))) := by
  refine z_met (cc := bR_addSmaller) (maxL := 14) (ret := none) (isI := false) (own := RR) (by decide +kernel) rfl rfl (fun h => by cases h) (Nat.le_of_ble_eq_true rfl) (fun Z hZ => ?_)
  show Z 0 0 tys 0 [(0, .ref a0), (1, .ref a1), (2, .ref a2)] [] (X ++ PL LP f)
  refine z_aload_n (pc := 0) hZ 1 dR_addSmaller_0 rfl rfl ?_
  obtain ⟨q1_1, hq1_1⟩ := zp_at (X := X) (f := f) h_a1
  refine z_callVN (pc := 1) (As := []) (rest := []) hZ (cV_size l D tys X LP f a1 h_a1) zyV_size (z_good co_V_size) nl_R_47 (zb in_V) (zb im_V_size) (zb se_V_size) q1_1 hq1_1 rfl rfl rfl (by decide) rfl rfl (Nat.le_of_ble_eq_true rfl) ⟨Nat.zero_le _, Nat.zero_le _⟩ dR_addSmaller_1 (z_kl (fun r1_1 w1 tys1 hp => ?_))
  obtain ⟨rfl, rfl, p1_1⟩ := hp
  refine z_callS (pc := 4) (As := [.long r1_1]) (rest := []) hZ (cJL_numberOfLeadingZeros l D tys (X ++ PL LP f) r1_1) zyJL_numberOfLeadingZeros (z_goodS ml_R_51 st_JL_numberOfLeadingZeros in_JL co_JL_numberOfLeadingZeros) rfl rfl (by decide) rfl rfl (Nat.le_of_ble_eq_true rfl) ⟨Nat.zero_le _, Nat.zero_le _⟩ dR_addSmaller_4 (z_ki (fun r4_2 w1 tys1 hp => ?_))
  obtain ⟨rfl, rfl, p4_2⟩ := hp
  refine z_iconst (pc := 7) hZ 2 dR_addSmaller_7 (by decide) ?_
  refine z_isub (pc := 8) hZ dR_addSmaller_8 (fun v8_3 ev8_3 => ?_)
  refine z_istore_n (pc := 9) hZ [(3, .int v8_3), (0, .ref a0), (1, .ref a1), (2, .ref a2)] dR_addSmaller_9 rfl (by decide) rfl ?_
  refine z_aload_n (pc := 10) hZ 2 dR_addSmaller_10 rfl rfl ?_
  refine z_pg2N (pc := 11) hZ h_a1 uc_V nf_R_57 dR_addSmaller_11 (fun v11_4 ev11_4 => ?_)
  refine z_iload_n (pc := 14) hZ 0 dR_addSmaller_14 rfl rfl ?_
  refine z_isub (pc := 15) hZ dR_addSmaller_15 (fun v15_5 ev15_5 => ?_)
  refine z_istore (pc := 16) hZ [(4, .int v15_5), (3, .int v8_3), (0, .ref a0), (1, .ref a1), (2, .ref a2)] dR_addSmaller_16 (by decide) rfl ?_
  refine z_aload_n (pc := 18) hZ 4 dR_addSmaller_18 rfl rfl ?_
  obtain ⟨q19_6, hq19_6⟩ := zp_at (X := X) (f := f) h_a2
  refine z_callVN (pc := 19) (As := []) (rest := []) hZ (cV_size l D tys X LP f a2 h_a2) zyV_size (z_good co_V_size) nl_R_47 (zb in_V) (zb im_V_size) (zb se_V_size) q19_6 hq19_6 rfl rfl rfl (by decide) rfl rfl (Nat.le_of_ble_eq_true rfl) ⟨Nat.zero_le _, Nat.zero_le _⟩ dR_addSmaller_19 (z_kl (fun r19_6 w1 tys1 hp => ?_))
  obtain ⟨rfl, rfl, p19_6⟩ := hp
  refine z_callS (pc := 22) (As := [.long r19_6]) (rest := []) hZ (cJL_numberOfLeadingZeros l D tys (X ++ PL LP f) r19_6) zyJL_numberOfLeadingZeros (z_goodS ml_R_51 st_JL_numberOfLeadingZeros in_JL co_JL_numberOfLeadingZeros) rfl rfl (by decide) rfl rfl (Nat.le_of_ble_eq_true rfl) ⟨Nat.zero_le _, Nat.zero_le _⟩ dR_addSmaller_22 (z_ki (fun r22_7 w1 tys1 hp => ?_))
  obtain ⟨rfl, rfl, p22_7⟩ := hp
  refine z_iconst (pc := 25) hZ 2 dR_addSmaller_25 (by decide) ?_
  refine z_isub (pc := 26) hZ dR_addSmaller_26 (fun v26_8 ev26_8 => ?_)
  refine z_istore (pc := 27) hZ [(5, .int v26_8), (4, .int v15_5), (3, .int v8_3), (0, .ref a0), (1, .ref a1), (2, .ref a2)] dR_addSmaller_27 (by decide) rfl ?_
  refine z_iload (pc := 29) hZ 1 dR_addSmaller_29 rfl ?_
  refine z_aload_n (pc := 31) hZ 5 dR_addSmaller_31 rfl rfl ?_
  refine z_pg2N (pc := 32) hZ h_a2 uc_V nf_R_57 dR_addSmaller_32 (fun v32_9 ev32_9 => ?_)
  refine z_iload (pc := 35) hZ 0 dR_addSmaller_35 rfl ?_
  refine z_isub (pc := 37) hZ dR_addSmaller_37 (fun v37_10 ev37_10 => ?_)
  refine z_isub (pc := 38) hZ dR_addSmaller_38 (fun v38_11 ev38_11 => ?_)
  refine z_istore (pc := 39) hZ [(6, .int v38_11), (5, .int v26_8), (4, .int v15_5), (3, .int v8_3), (0, .ref a0), (1, .ref a1), (2, .ref a2)] dR_addSmaller_39 (by decide) rfl ?_
  refine z_aload_n (pc := 41) hZ 6 dR_addSmaller_41 rfl rfl ?_
  obtain ⟨q42_12, hq42_12⟩ := zp_at (X := X) (f := f) h_a2
  refine z_callVN (pc := 42) (As := []) (rest := []) hZ (cV_size l D tys X LP f a2 h_a2) zyV_size (z_good co_V_size) nl_R_47 (zb in_V) (zb im_V_size) (zb se_V_size) q42_12 hq42_12 rfl rfl rfl (by decide) rfl rfl (Nat.le_of_ble_eq_true rfl) ⟨Nat.zero_le _, Nat.zero_le _⟩ dR_addSmaller_42 (z_kl (fun r42_12 w1 tys1 hp => ?_))
  obtain ⟨rfl, rfl, p42_12⟩ := hp
  refine z_iload (pc := 45) hZ 1 dR_addSmaller_45 rfl ?_
  refine z_lshl (pc := 47) hZ dR_addSmaller_47 (fun v47_13 ev47_13 => ?_)
  refine z_lstore (pc := 48) hZ [(7, .long v47_13), (6, .int v38_11), (5, .int v26_8), (4, .int v15_5), (3, .int v8_3), (0, .ref a0), (1, .ref a1), (2, .ref a2)] dR_addSmaller_48 (by decide) rfl ?_
  refine z_iload (pc := 50) hZ 1 dR_addSmaller_50 rfl ?_
  refine z_bipush (pc := 52) hZ 63 dR_addSmaller_52 (by decide) ?_
  have J66 : ∀ (s0_66 : Int64), Z 0 0 tys 66 [(7, .long v47_13), (6, .int v38_11), (4, .int v15_5), (3, .int v8_3), (0, .ref a0), (1, .ref a1), (2, .ref a2)] [.long s0_66] (X ++ PL LP f) := by
    intro s0_66
    refine z_lstore (pc := 66) hZ [(9, .long s0_66), (7, .long v47_13), (6, .int v38_11), (4, .int v15_5), (3, .int v8_3), (0, .ref a0), (1, .ref a1), (2, .ref a2)] dR_addSmaller_66 (by decide) rfl ?_
    refine z_iload (pc := 68) hZ 2 dR_addSmaller_68 rfl ?_
    refine z_bipush (pc := 70) hZ 63 dR_addSmaller_70 (by decide) ?_
    have J91 : ∀ (s0_91 : Int32), Z 0 0 tys 91 [(9, .long s0_66), (4, .int v15_5), (3, .int v8_3), (0, .ref a0), (1, .ref a1), (2, .ref a2)] [.int s0_91] (X ++ PL LP f) := by
      intro s0_91
      refine z_istore (pc := 91) hZ [(11, .int s0_91), (9, .long s0_66), (4, .int v15_5), (3, .int v8_3), (0, .ref a0), (1, .ref a1), (2, .ref a2)] dR_addSmaller_91 (by decide) rfl ?_
      refine z_aload_n (pc := 93) hZ 5 dR_addSmaller_93 rfl rfl ?_
      obtain ⟨q94_14, hq94_14⟩ := zp_at (X := X) (f := f) h_a1
      refine z_callVN (pc := 94) (As := []) (rest := []) hZ (cV_size l D tys X LP f a1 h_a1) zyV_size (z_good co_V_size) nl_R_47 (zb in_V) (zb im_V_size) (zb se_V_size) q94_14 hq94_14 rfl rfl rfl (by decide) rfl rfl (Nat.le_of_ble_eq_true rfl) ⟨Nat.zero_le _, Nat.zero_le _⟩ dR_addSmaller_94 (z_kl (fun r94_14 w1 tys1 hp => ?_))
      obtain ⟨rfl, rfl, p94_14⟩ := hp
      refine z_iload_n (pc := 97) hZ 3 dR_addSmaller_97 rfl rfl ?_
      refine z_lshl (pc := 98) hZ dR_addSmaller_98 (fun v98_15 ev98_15 => ?_)
      refine z_lstore (pc := 99) hZ [(12, .long v98_15), (11, .int s0_91), (9, .long s0_66), (4, .int v15_5), (3, .int v8_3), (0, .ref a0), (1, .ref a1), (2, .ref a2)] dR_addSmaller_99 (by decide) rfl ?_
      refine z_aload_n (pc := 101) hZ 6 dR_addSmaller_101 rfl rfl ?_
      obtain ⟨q102_16, hq102_16⟩ := zp_at (X := X) (f := f) h_a1
      refine z_callVN (pc := 102) (As := []) (rest := []) hZ (cV_sign l D tys X LP f a1 h_a1) zyV_sign (z_good co_V_sign) nl_R_60 (zb in_V) (zb im_V_sign) (zb se_V_sign) q102_16 hq102_16 rfl rfl rfl (by decide) rfl rfl (Nat.le_of_ble_eq_true rfl) ⟨Nat.zero_le _, Nat.zero_le _⟩ dR_addSmaller_102 (z_ki (fun r102_16 w1 tys1 hp => ?_))
      obtain ⟨rfl, rfl, p102_16⟩ := hp
      refine z_aload_n (pc := 105) hZ 7 dR_addSmaller_105 rfl rfl ?_
      obtain ⟨q106_17, hq106_17⟩ := zp_at (X := X) (f := f) h_a2
      refine z_callVN (pc := 106) (As := []) (rest := [.int r102_16]) hZ (cV_sign l D tys X LP f a2 h_a2) zyV_sign (z_good co_V_sign) nl_R_60 (zb in_V) (zb im_V_sign) (zb se_V_sign) q106_17 hq106_17 rfl rfl rfl (by decide) rfl rfl (Nat.le_of_ble_eq_true rfl) ⟨Nat.zero_le _, Nat.zero_le _⟩ dR_addSmaller_106 (z_ki (fun r106_17 w1 tys1 hp => ?_))
      obtain ⟨rfl, rfl, p106_17⟩ := hp
      have J141 : ∀ (x12_141 : Int64), Z 0 0 tys 141 [(12, .long x12_141), (11, .int s0_91), (4, .int v15_5), (0, .ref a0), (1, .ref a1)] [] (X ++ PL LP f) := by
        intro x12_141
        refine z_aload_n (pc := 141) hZ 3 dR_addSmaller_141 rfl rfl ?_
        refine z_aload_n (pc := 142) hZ 4 dR_addSmaller_142 rfl rfl ?_
        refine z_pg1N (pc := 143) hZ h_a1 uc_V nf_R_29 dR_addSmaller_143 (fun v143_18 ev143_18 => ?_)
        refine z_lconst (pc := 146) hZ 0 dR_addSmaller_146 (by decide) ?_
        have J156 : ∀ (s0_156 : Int32), Z 0 0 tys 156 [(12, .long x12_141), (11, .int s0_91), (4, .int v15_5)] [.int s0_156, .ref a0] (X ++ PL LP f) := by
          intro s0_156
          refine z_lload (pc := 156) hZ 0 dR_addSmaller_156 rfl ?_
          refine z_iload (pc := 158) hZ 1 dR_addSmaller_158 rfl ?_
          refine z_iload (pc := 160) hZ 2 dR_addSmaller_160 rfl ?_
          obtain ⟨q162_19, hq162_19⟩ := zp_at (X := X) (f := f) h_a0
          refine z_callVN (pc := 162) (As := [.int s0_156, .long x12_141, .int s0_91, .int v15_5]) (rest := []) hZ (cV_setNearest l D tys X LP f a0 h_a0 s0_156 x12_141 s0_91 v15_5) zyV_setNearest (z_good co_V_setNearest) nl_R_64 (zb in_V) (zb im_V_setNearest) (zb se_V_setNearest) q162_19 hq162_19 rfl rfl rfl (by decide) rfl rfl (Nat.le_of_ble_eq_true rfl) ⟨Nat.zero_le _, Nat.zero_le _⟩ dR_addSmaller_162 (z_kv (fun w1 tys1 hp => ?_))
          obtain ⟨f162_19, rfl, rfl, p162_19⟩ := hp
          exact z_retv (pc := 165) hZ dR_addSmaller_165 rfl ⟨rfl, _, rfl, rfl, (by trivial)⟩
        refine z_lif_ge (pc := 147) hZ 155 dR_addSmaller_147 dR_addSmaller_148 (by decide) (fun c148_20 => ?_) (fun c148_20 => ?_)
        · refine z_iconst (pc := 155) hZ 0 dR_addSmaller_155 (by decide) ?_
          exact z_sub (pc := 156) hZ [0, 1, 2] rfl (J156 0)
        · refine z_iconst (pc := 151) hZ 1 dR_addSmaller_151 (by decide) ?_
          refine z_goto (pc := 152) hZ 156 dR_addSmaller_152 (by decide) ?_
          exact z_sub (pc := 156) hZ [0, 1, 2] rfl (J156 1)
      refine z_icmp_ne (pc := 109) hZ 122 dR_addSmaller_109 (by decide) (fun c109_21 => ?_) (fun c109_21 => ?_)
      · refine z_lload (pc := 122) hZ 0 dR_addSmaller_122 rfl ?_
        refine z_iload (pc := 124) hZ 1 dR_addSmaller_124 rfl ?_
        have J138 : ∀ (s0_138 : Int64), Z 0 0 tys 138 [(11, .int s0_91), (4, .int v15_5), (0, .ref a0), (1, .ref a1)] [.long s0_138, .long v98_15] (X ++ PL LP f) := by
          intro s0_138
          refine z_lsub (pc := 138) hZ dR_addSmaller_138 (fun v138_22 ev138_22 => ?_)
          refine z_lstore (pc := 139) hZ [(12, .long v138_22), (11, .int s0_91), (4, .int v15_5), (0, .ref a0), (1, .ref a1)] dR_addSmaller_139 (by decide) rfl ?_
          exact z_sub (pc := 141) hZ [0, 1, 2, 3, 4] rfl (J141 v138_22)
        refine z_if_eq (pc := 126) hZ 136 dR_addSmaller_126 (by decide) (fun c126_23 => ?_) (fun c126_23 => ?_)
        · refine z_lload (pc := 136) hZ 2 dR_addSmaller_136 rfl ?_
          exact z_sub (pc := 138) hZ [1, 3, 5, 6] rfl (J138 s0_66)
        · refine z_lload (pc := 129) hZ 2 dR_addSmaller_129 rfl ?_
          refine z_lconst (pc := 131) hZ 1 dR_addSmaller_131 (by decide) ?_
          refine z_ladd (pc := 132) hZ dR_addSmaller_132 (fun v132_24 ev132_24 => ?_)
          refine z_goto (pc := 133) hZ 138 dR_addSmaller_133 (by decide) ?_
          exact z_sub (pc := 138) hZ [1, 3, 5, 6] rfl (J138 v132_24)
      · refine z_lload (pc := 112) hZ 0 dR_addSmaller_112 rfl ?_
        refine z_lload (pc := 114) hZ 2 dR_addSmaller_114 rfl ?_
        refine z_ladd (pc := 116) hZ dR_addSmaller_116 (fun v116_25 ev116_25 => ?_)
        refine z_lstore (pc := 117) hZ [(12, .long v116_25), (11, .int s0_91), (9, .long s0_66), (4, .int v15_5), (3, .int v8_3), (0, .ref a0), (1, .ref a1), (2, .ref a2)] dR_addSmaller_117 (by decide) rfl ?_
        refine z_goto (pc := 119) hZ 141 dR_addSmaller_119 (by decide) ?_
        exact z_sub (pc := 141) hZ [0, 1, 3, 5, 6] rfl (J141 v116_25)
    have J86 : Z 0 0 tys 86 [(9, .long s0_66), (4, .int v15_5), (3, .int v8_3), (0, .ref a0), (1, .ref a1), (2, .ref a2)] [] (X ++ PL LP f) := by
      refine z_iconst (pc := 86) hZ 1 dR_addSmaller_86 (by decide) ?_
      refine z_goto (pc := 87) hZ 91 dR_addSmaller_87 (by decide) ?_
      exact z_sub (pc := 91) hZ [0, 1, 2, 3, 4, 5] rfl (J91 1)
    refine z_icmp_gt (pc := 72) hZ 86 dR_addSmaller_72 (by decide) (fun c72_26 => ?_) (fun c72_26 => ?_)
    · exact z_sub (pc := 86) hZ [0, 3, 4, 5, 6, 7] rfl (J86 )
    · refine z_lload (pc := 75) hZ 0 dR_addSmaller_75 rfl ?_
      refine z_iload (pc := 77) hZ 2 dR_addSmaller_77 rfl ?_
      refine z_lshl (pc := 79) hZ dR_addSmaller_79 (fun v79_27 ev79_27 => ?_)
      refine z_lload (pc := 80) hZ 1 dR_addSmaller_80 rfl ?_
      refine z_lif_eq (pc := 82) hZ 90 dR_addSmaller_82 dR_addSmaller_83 (by decide) (fun c83_28 => ?_) (fun c83_28 => ?_)
      · refine z_iconst (pc := 90) hZ 0 dR_addSmaller_90 (by decide) ?_
        exact z_sub (pc := 91) hZ [0, 3, 4, 5, 6, 7] rfl (J91 0)
      · exact z_sub (pc := 86) hZ [0, 3, 4, 5, 6, 7] rfl (J86 )
  refine z_icmp_le (pc := 54) hZ 61 dR_addSmaller_54 (by decide) (fun c54_29 => ?_) (fun c54_29 => ?_)
  · refine z_lload (pc := 61) hZ 0 dR_addSmaller_61 rfl ?_
    refine z_iload (pc := 63) hZ 1 dR_addSmaller_63 rfl ?_
    refine z_lushr (pc := 65) hZ dR_addSmaller_65 (fun v65_30 ev65_30 => ?_)
    exact z_sub (pc := 66) hZ [0, 1, 3, 4, 5, 6, 7] rfl (J66 v65_30)
  · refine z_lconst (pc := 57) hZ 0 dR_addSmaller_57 (by decide) ?_
    refine z_goto (pc := 58) hZ 66 dR_addSmaller_58 (by decide) ?_
    exact z_sub (pc := 66) hZ [0, 1, 3, 4, 5, 6, 7] rfl (J66 0)
set_option maxHeartbeats 4000000 in
set_option maxRecDepth 100000 in
theorem cR_add (l : Launch) (D : va_G) (tys : zT) (X : va_W) (LP : List Nat) (f : Nat → V3) (a0 : Nat) (h_a0 : a0 ∈ LP) (a1 : Nat) (h_a1 : a1 ∈ LP) : zM l D vwCl zNF zNM yR_add wsR_add { frames := 4, cells := 0, slots := 0, locals := 107 } [.ref a0, .ref a1] (X ++ PL LP f) tys (qV (fun w' tys' => ∃ f' : Nat → V3, X ++ PL LP f' = w' ∧ tys = tys' ∧ (True))) := by
  refine z_met (cc := bR_add) (maxL := 2) (ret := none) (isI := false) (own := RR) (by decide +kernel) rfl rfl (fun h => by cases h) (Nat.le_of_ble_eq_true rfl) (fun Z hZ => ?_)
  show Z 0 0 tys 0 [(0, .ref a0), (1, .ref a1)] [] (X ++ PL LP f)
  refine z_aload_n (pc := 0) hZ 0 dR_add_0 rfl rfl ?_
  refine z_aload_n (pc := 1) hZ 1 dR_add_1 rfl rfl ?_
  refine z_callS (pc := 2) (As := [.ref a0, .ref a1]) (rest := []) hZ (cR_hasNoNumber l D tys X LP f a0 h_a0 a1 h_a1) zyR_hasNoNumber (z_goodS ml_R_17 st_R_hasNoNumber in_R co_R_hasNoNumber) rfl rfl (by decide) rfl rfl (Nat.le_of_ble_eq_true rfl) ⟨Nat.zero_le _, Nat.zero_le _⟩ dR_add_2 (z_ki (fun r2_1 w1 tys1 hp => ?_))
  obtain ⟨rfl, rfl, p2_1⟩ := hp
  refine z_if_eq (pc := 5) hZ 16 dR_add_5 (by decide) (fun c5_2 => ?_) (fun c5_2 => ?_)
  · refine z_aload_n (pc := 16) hZ 0 dR_add_16 rfl rfl ?_
    obtain ⟨q17_3, hq17_3⟩ := zp_at (X := X) (f := f) h_a0
    refine z_callVN (pc := 17) (As := []) (rest := []) hZ (cV_isInfinite l D tys X LP f a0 h_a0) zyV_isInfinite (z_good co_V_isInfinite) nl_R_25 (zb in_V) (zb im_V_isInfinite) (zb se_V_isInfinite) q17_3 hq17_3 rfl rfl rfl (by decide) rfl rfl (Nat.le_of_ble_eq_true rfl) ⟨Nat.zero_le _, Nat.zero_le _⟩ dR_add_17 (z_ki (fun r17_3 w1 tys1 hp => ?_))
    obtain ⟨rfl, rfl, p17_3⟩ := hp
    refine z_if_eq (pc := 20) hZ 49 dR_add_20 (by decide) (fun c20_4 => ?_) (fun c20_4 => ?_)
    · refine z_aload_n (pc := 49) hZ 1 dR_add_49 rfl rfl ?_
      obtain ⟨q50_5, hq50_5⟩ := zp_at (X := X) (f := f) h_a1
      refine z_callVN (pc := 50) (As := []) (rest := []) hZ (cV_isInfinite l D tys X LP f a1 h_a1) zyV_isInfinite (z_good co_V_isInfinite) nl_R_25 (zb in_V) (zb im_V_isInfinite) (zb se_V_isInfinite) q50_5 hq50_5 rfl rfl rfl (by decide) rfl rfl (Nat.le_of_ble_eq_true rfl) ⟨Nat.zero_le _, Nat.zero_le _⟩ dR_add_50 (z_ki (fun r50_5 w1 tys1 hp => ?_))
      obtain ⟨rfl, rfl, p50_5⟩ := hp
      have J65 : Z 0 0 tys 65 [(0, .ref a0), (1, .ref a1)] [] (X ++ PL LP f) := by
        refine z_aload_n (pc := 65) hZ 0 dR_add_65 rfl rfl ?_
        refine z_aload_n (pc := 66) hZ 1 dR_add_66 rfl rfl ?_
        obtain ⟨q67_6, hq67_6⟩ := zp_at (X := X) (f := f) h_a0
        refine z_callVN (pc := 67) (As := [.ref a1]) (rest := []) hZ (cV_become l D tys X LP f a0 h_a0 a1 h_a1) zyV_become (z_good co_V_become) nl_R_33 (zb in_V) (zb im_V_become) (zb se_V_become) q67_6 hq67_6 rfl rfl rfl (by decide) rfl rfl (Nat.le_of_ble_eq_true rfl) ⟨Nat.zero_le _, Nat.zero_le _⟩ dR_add_67 (z_kv (fun w1 tys1 hp => ?_))
        obtain ⟨f67_6, rfl, rfl, p67_6⟩ := hp
        refine z_goto (pc := 70) hZ 105 dR_add_70 (by decide) ?_
        exact z_retv (pc := 105) hZ dR_add_105 rfl ⟨rfl, _, rfl, rfl, (by trivial)⟩
      refine z_if_ne (pc := 53) hZ 65 dR_add_53 (by decide) (fun c53_7 => ?_) (fun c53_7 => ?_)
      · exact z_sub (pc := 65) hZ [0, 1] rfl (J65 )
      · refine z_aload_n (pc := 56) hZ 0 dR_add_56 rfl rfl ?_
        refine z_pg1N (pc := 57) hZ h_a0 uc_V nf_R_29 dR_add_57 (fun v57_8 ev57_8 => ?_)
        refine z_lconst (pc := 60) hZ 0 dR_add_60 (by decide) ?_
        refine z_lif_ne (pc := 61) hZ 73 dR_add_61 dR_add_62 (by decide) (fun c62_9 => ?_) (fun c62_9 => ?_)
        · refine z_aload_n (pc := 73) hZ 1 dR_add_73 rfl rfl ?_
          refine z_pg1N (pc := 74) hZ h_a1 uc_V nf_R_29 dR_add_74 (fun v74_10 ev74_10 => ?_)
          refine z_lconst (pc := 77) hZ 0 dR_add_77 (by decide) ?_
          refine z_lif_eq (pc := 78) hZ 105 dR_add_78 dR_add_79 (by decide) (fun c79_11 => ?_) (fun c79_11 => ?_)
          · exact z_retv (pc := 105) hZ dR_add_105 rfl ⟨rfl, _, rfl, rfl, (by trivial)⟩
          · refine z_aload_n (pc := 82) hZ 0 dR_add_82 rfl rfl ?_
            refine z_aload_n (pc := 83) hZ 1 dR_add_83 rfl rfl ?_
            refine z_callSN (pc := 84) (As := [.ref a0, .ref a1]) (rest := []) hZ (cO_ofSizes l D tys X LP f a0 h_a0 a1 h_a1) zyO_ofSizes (z_good co_O_ofSizes) nl_R_37 (zb in_O) (zb st_O_ofSizes) rfl rfl (by decide) rfl rfl (Nat.le_of_ble_eq_true rfl) ⟨Nat.zero_le _, Nat.zero_le _⟩ dR_add_84 (z_ki (fun r84_12 w1 tys1 hp => ?_))
            obtain ⟨rfl, rfl, p84_12⟩ := hp
            refine z_if_lt (pc := 87) hZ 99 dR_add_87 (by decide) (fun c87_13 => ?_) (fun c87_13 => ?_)
            · refine z_aload_n (pc := 99) hZ 0 dR_add_99 rfl rfl ?_
              refine z_aload_n (pc := 100) hZ 1 dR_add_100 rfl rfl ?_
              refine z_aload_n (pc := 101) hZ 0 dR_add_101 rfl rfl ?_
              refine z_callS (pc := 102) (As := [.ref a0, .ref a1, .ref a0]) (rest := []) hZ (cR_addSmaller l D tys X LP f a0 h_a0 a1 h_a1 a0 h_a0) zyR_addSmaller (z_goodS ml_R_43 st_R_addSmaller in_R co_R_addSmaller) rfl rfl (by decide) rfl rfl (Nat.le_of_ble_eq_true rfl) ⟨Nat.zero_le _, Nat.zero_le _⟩ dR_add_102 (z_kv (fun w1 tys1 hp => ?_))
              obtain ⟨f102_14, rfl, rfl, p102_14⟩ := hp
              exact z_retv (pc := 105) hZ dR_add_105 rfl ⟨rfl, _, rfl, rfl, (by trivial)⟩
            · refine z_aload_n (pc := 90) hZ 0 dR_add_90 rfl rfl ?_
              refine z_aload_n (pc := 91) hZ 0 dR_add_91 rfl rfl ?_
              refine z_aload_n (pc := 92) hZ 1 dR_add_92 rfl rfl ?_
              refine z_callS (pc := 93) (As := [.ref a0, .ref a0, .ref a1]) (rest := []) hZ (cR_addSmaller l D tys X LP f a0 h_a0 a0 h_a0 a1 h_a1) zyR_addSmaller (z_goodS ml_R_43 st_R_addSmaller in_R co_R_addSmaller) rfl rfl (by decide) rfl rfl (Nat.le_of_ble_eq_true rfl) ⟨Nat.zero_le _, Nat.zero_le _⟩ dR_add_93 (z_kv (fun w1 tys1 hp => ?_))
              obtain ⟨f93_15, rfl, rfl, p93_15⟩ := hp
              refine z_goto (pc := 96) hZ 105 dR_add_96 (by decide) ?_
              exact z_retv (pc := 105) hZ dR_add_105 rfl ⟨rfl, _, rfl, rfl, (by trivial)⟩
        · exact z_sub (pc := 65) hZ [0, 1] rfl (J65 )
    · refine z_aload_n (pc := 23) hZ 1 dR_add_23 rfl rfl ?_
      obtain ⟨q24_16, hq24_16⟩ := zp_at (X := X) (f := f) h_a1
      refine z_callVN (pc := 24) (As := []) (rest := []) hZ (cV_isInfinite l D tys X LP f a1 h_a1) zyV_isInfinite (z_good co_V_isInfinite) nl_R_25 (zb in_V) (zb im_V_isInfinite) (zb se_V_isInfinite) q24_16 hq24_16 rfl rfl rfl (by decide) rfl rfl (Nat.le_of_ble_eq_true rfl) ⟨Nat.zero_le _, Nat.zero_le _⟩ dR_add_24 (z_ki (fun r24_16 w1 tys1 hp => ?_))
      obtain ⟨rfl, rfl, p24_16⟩ := hp
      refine z_if_eq (pc := 27) hZ 105 dR_add_27 (by decide) (fun c27_17 => ?_) (fun c27_17 => ?_)
      · exact z_retv (pc := 105) hZ dR_add_105 rfl ⟨rfl, _, rfl, rfl, (by trivial)⟩
      · refine z_aload_n (pc := 30) hZ 0 dR_add_30 rfl rfl ?_
        refine z_pg0N (pc := 31) hZ h_a0 uc_V nf_R_11 dR_add_31 (fun v31_18 ev31_18 => ?_)
        refine z_aload_n (pc := 34) hZ 1 dR_add_34 rfl rfl ?_
        refine z_pg0N (pc := 35) hZ h_a1 uc_V nf_R_11 dR_add_35 (fun v35_19 ev35_19 => ?_)
        refine z_icmp_eq (pc := 38) hZ 105 dR_add_38 (by decide) (fun c38_20 => ?_) (fun c38_20 => ?_)
        · exact z_retv (pc := 105) hZ dR_add_105 rfl ⟨rfl, _, rfl, rfl, (by trivial)⟩
        · refine z_aload_n (pc := 41) hZ 0 dR_add_41 rfl rfl ?_
          refine z_iconst (pc := 42) hZ 5 dR_add_42 (by decide) ?_
          obtain ⟨q43_21, hq43_21⟩ := zp_at (X := X) (f := f) h_a0
          refine z_callVN (pc := 43) (As := [.int 5]) (rest := []) hZ (cV_setSpecial l D tys X LP f a0 h_a0 5) zyV_setSpecial (z_good co_V_setSpecial) nl_R_21 (zb in_V) (zb im_V_setSpecial) (zb se_V_setSpecial) q43_21 hq43_21 rfl rfl rfl (by decide) rfl rfl (Nat.le_of_ble_eq_true rfl) ⟨Nat.zero_le _, Nat.zero_le _⟩ dR_add_43 (z_kv (fun w1 tys1 hp => ?_))
          obtain ⟨f43_21, rfl, rfl, p43_21⟩ := hp
          refine z_goto (pc := 46) hZ 105 dR_add_46 (by decide) ?_
          exact z_retv (pc := 105) hZ dR_add_105 rfl ⟨rfl, _, rfl, rfl, (by trivial)⟩
  · refine z_aload_n (pc := 8) hZ 0 dR_add_8 rfl rfl ?_
    refine z_iconst (pc := 9) hZ 5 dR_add_9 (by decide) ?_
    obtain ⟨q10_22, hq10_22⟩ := zp_at (X := X) (f := f) h_a0
    refine z_callVN (pc := 10) (As := [.int 5]) (rest := []) hZ (cV_setSpecial l D tys X LP f a0 h_a0 5) zyV_setSpecial (z_good co_V_setSpecial) nl_R_21 (zb in_V) (zb im_V_setSpecial) (zb se_V_setSpecial) q10_22 hq10_22 rfl rfl rfl (by decide) rfl rfl (Nat.le_of_ble_eq_true rfl) ⟨Nat.zero_le _, Nat.zero_le _⟩ dR_add_10 (z_kv (fun w1 tys1 hp => ?_))
    obtain ⟨f10_22, rfl, rfl, p10_22⟩ := hp
    refine z_goto (pc := 13) hZ 105 dR_add_13 (by decide) ?_
    exact z_retv (pc := 105) hZ dR_add_105 rfl ⟨rfl, _, rfl, rfl, (by trivial)⟩
set_option maxHeartbeats 4000000 in
set_option maxRecDepth 100000 in
theorem cR_multiplyFinite (l : Launch) (D : va_G) (tys : zT) (X : va_W) (LP : List Nat) (f : Nat → V3) (a0 : Nat) (h_a0 : a0 ∈ LP) (a1 : Nat) (h_a1 : a1 ∈ LP) (p2 : Int32) : zM l D vwCl zNF zNM yR_multiplyFinite wsR_multiplyFinite { frames := 3, cells := 0, slots := 0, locals := 74 } [.ref a0, .ref a1, .int p2] (X ++ PL LP f) tys (qV (fun w' tys' => ∃ f' : Nat → V3, X ++ PL LP f' = w' ∧ tys = tys' ∧ (True))) := by
  refine z_met (cc := bR_multiplyFinite) (maxL := 22) (ret := none) (isI := false) (own := RR) (by decide +kernel) rfl rfl (fun h => by cases h) (Nat.le_of_ble_eq_true rfl) (fun Z hZ => ?_)
  show Z 0 0 tys 0 [(0, .ref a0), (1, .ref a1), (2, .int p2)] [] (X ++ PL LP f)
  refine z_aload_n (pc := 0) hZ 0 dR_multiplyFinite_0 rfl rfl ?_
  obtain ⟨q1_1, hq1_1⟩ := zp_at (X := X) (f := f) h_a0
  refine z_callVN (pc := 1) (As := []) (rest := []) hZ (cV_size l D tys X LP f a0 h_a0) zyV_size (z_good co_V_size) nl_R_47 (zb in_V) (zb im_V_size) (zb se_V_size) q1_1 hq1_1 rfl rfl rfl (by decide) rfl rfl (Nat.le_of_ble_eq_true rfl) ⟨Nat.zero_le _, Nat.zero_le _⟩ dR_multiplyFinite_1 (z_kl (fun r1_1 w1 tys1 hp => ?_))
  obtain ⟨rfl, rfl, p1_1⟩ := hp
  refine z_bipush (pc := 4) hZ 27 dR_multiplyFinite_4 (by decide) ?_
  refine z_lushr (pc := 6) hZ dR_multiplyFinite_6 (fun v6_2 ev6_2 => ?_)
  refine z_lstore_n (pc := 7) hZ [(3, .long v6_2), (0, .ref a0), (1, .ref a1), (2, .int p2)] dR_multiplyFinite_7 rfl (by decide) rfl ?_
  refine z_aload_n (pc := 8) hZ 1 dR_multiplyFinite_8 rfl rfl ?_
  obtain ⟨q9_3, hq9_3⟩ := zp_at (X := X) (f := f) h_a0
  refine z_callVN (pc := 9) (As := []) (rest := []) hZ (cV_size l D tys X LP f a0 h_a0) zyV_size (z_good co_V_size) nl_R_47 (zb in_V) (zb im_V_size) (zb se_V_size) q9_3 hq9_3 rfl rfl rfl (by decide) rfl rfl (Nat.le_of_ble_eq_true rfl) ⟨Nat.zero_le _, Nat.zero_le _⟩ dR_multiplyFinite_9 (z_kl (fun r9_3 w1 tys1 hp => ?_))
  obtain ⟨rfl, rfl, p9_3⟩ := hp
  refine z_ldc2 (pc := 12) hZ 134217727 (zb kc_R_76) dR_multiplyFinite_12 ?_
  refine z_land (pc := 15) hZ dR_multiplyFinite_15 (fun v15_4 ev15_4 => ?_)
  refine z_lstore (pc := 16) hZ [(5, .long v15_4), (3, .long v6_2), (0, .ref a0), (1, .ref a1), (2, .int p2)] dR_multiplyFinite_16 (by decide) rfl ?_
  refine z_aload_n (pc := 18) hZ 3 dR_multiplyFinite_18 rfl rfl ?_
  obtain ⟨q19_5, hq19_5⟩ := zp_at (X := X) (f := f) h_a1
  refine z_callVN (pc := 19) (As := []) (rest := []) hZ (cV_size l D tys X LP f a1 h_a1) zyV_size (z_good co_V_size) nl_R_47 (zb in_V) (zb im_V_size) (zb se_V_size) q19_5 hq19_5 rfl rfl rfl (by decide) rfl rfl (Nat.le_of_ble_eq_true rfl) ⟨Nat.zero_le _, Nat.zero_le _⟩ dR_multiplyFinite_19 (z_kl (fun r19_5 w1 tys1 hp => ?_))
  obtain ⟨rfl, rfl, p19_5⟩ := hp
  refine z_bipush (pc := 22) hZ 27 dR_multiplyFinite_22 (by decide) ?_
  refine z_lushr (pc := 24) hZ dR_multiplyFinite_24 (fun v24_6 ev24_6 => ?_)
  refine z_lstore (pc := 25) hZ [(7, .long v24_6), (5, .long v15_4), (3, .long v6_2), (0, .ref a0), (1, .ref a1), (2, .int p2)] dR_multiplyFinite_25 (by decide) rfl ?_
  refine z_aload_n (pc := 27) hZ 4 dR_multiplyFinite_27 rfl rfl ?_
  obtain ⟨q28_7, hq28_7⟩ := zp_at (X := X) (f := f) h_a1
  refine z_callVN (pc := 28) (As := []) (rest := []) hZ (cV_size l D tys X LP f a1 h_a1) zyV_size (z_good co_V_size) nl_R_47 (zb in_V) (zb im_V_size) (zb se_V_size) q28_7 hq28_7 rfl rfl rfl (by decide) rfl rfl (Nat.le_of_ble_eq_true rfl) ⟨Nat.zero_le _, Nat.zero_le _⟩ dR_multiplyFinite_28 (z_kl (fun r28_7 w1 tys1 hp => ?_))
  obtain ⟨rfl, rfl, p28_7⟩ := hp
  refine z_ldc2 (pc := 31) hZ 134217727 (zb kc_R_76) dR_multiplyFinite_31 ?_
  refine z_land (pc := 34) hZ dR_multiplyFinite_34 (fun v34_8 ev34_8 => ?_)
  refine z_lstore (pc := 35) hZ [(9, .long v34_8), (7, .long v24_6), (5, .long v15_4), (3, .long v6_2), (0, .ref a0), (1, .ref a1), (2, .int p2)] dR_multiplyFinite_35 (by decide) rfl ?_
  refine z_lload_n (pc := 37) hZ 3 dR_multiplyFinite_37 rfl rfl ?_
  refine z_lload (pc := 38) hZ 0 dR_multiplyFinite_38 rfl ?_
  refine z_lmul (pc := 40) hZ dR_multiplyFinite_40 (fun v40_9 ev40_9 => ?_)
  refine z_lload (pc := 41) hZ 2 dR_multiplyFinite_41 rfl ?_
  refine z_lload (pc := 43) hZ 1 dR_multiplyFinite_43 rfl ?_
  refine z_lmul (pc := 45) hZ dR_multiplyFinite_45 (fun v45_10 ev45_10 => ?_)
  refine z_ladd (pc := 46) hZ dR_multiplyFinite_46 (fun v46_11 ev46_11 => ?_)
  refine z_lstore (pc := 47) hZ [(11, .long v46_11), (9, .long v34_8), (7, .long v24_6), (5, .long v15_4), (3, .long v6_2), (0, .ref a0), (1, .ref a1), (2, .int p2)] dR_multiplyFinite_47 (by decide) rfl ?_
  refine z_lload (pc := 49) hZ 3 dR_multiplyFinite_49 rfl ?_
  refine z_lload (pc := 51) hZ 1 dR_multiplyFinite_51 rfl ?_
  refine z_lmul (pc := 53) hZ dR_multiplyFinite_53 (fun v53_12 ev53_12 => ?_)
  refine z_lload (pc := 54) hZ 0 dR_multiplyFinite_54 rfl ?_
  refine z_ldc2 (pc := 56) hZ 134217727 (zb kc_R_76) dR_multiplyFinite_56 ?_
  refine z_land (pc := 59) hZ dR_multiplyFinite_59 (fun v59_13 ev59_13 => ?_)
  refine z_bipush (pc := 60) hZ 27 dR_multiplyFinite_60 (by decide) ?_
  refine z_lshl (pc := 62) hZ dR_multiplyFinite_62 (fun v62_14 ev62_14 => ?_)
  refine z_ladd (pc := 63) hZ dR_multiplyFinite_63 (fun v63_15 ev63_15 => ?_)
  refine z_lstore (pc := 64) hZ [(13, .long v63_15), (11, .long v46_11), (9, .long v34_8), (7, .long v24_6), (5, .long v15_4), (3, .long v6_2), (0, .ref a0), (1, .ref a1), (2, .int p2)] dR_multiplyFinite_64 (by decide) rfl ?_
  refine z_lload_n (pc := 66) hZ 5 dR_multiplyFinite_66 rfl rfl ?_
  refine z_lload (pc := 67) hZ 3 dR_multiplyFinite_67 rfl ?_
  refine z_lmul (pc := 69) hZ dR_multiplyFinite_69 (fun v69_16 ev69_16 => ?_)
  refine z_lload (pc := 70) hZ 1 dR_multiplyFinite_70 rfl ?_
  refine z_bipush (pc := 72) hZ 27 dR_multiplyFinite_72 (by decide) ?_
  refine z_lushr (pc := 74) hZ dR_multiplyFinite_74 (fun v74_17 ev74_17 => ?_)
  refine z_ladd (pc := 75) hZ dR_multiplyFinite_75 (fun v75_18 ev75_18 => ?_)
  refine z_lload (pc := 76) hZ 0 dR_multiplyFinite_76 rfl ?_
  refine z_bipush (pc := 78) hZ 54 dR_multiplyFinite_78 (by decide) ?_
  refine z_lushr (pc := 80) hZ dR_multiplyFinite_80 (fun v80_19 ev80_19 => ?_)
  refine z_ladd (pc := 81) hZ dR_multiplyFinite_81 (fun v81_20 ev81_20 => ?_)
  refine z_lstore (pc := 82) hZ [(15, .long v81_20), (13, .long v63_15), (11, .long v46_11), (9, .long v34_8), (7, .long v24_6), (5, .long v15_4), (3, .long v6_2), (0, .ref a0), (1, .ref a1), (2, .int p2)] dR_multiplyFinite_82 (by decide) rfl ?_
  refine z_lload (pc := 84) hZ 1 dR_multiplyFinite_84 rfl ?_
  refine z_ldc2 (pc := 86) hZ 18014398509481983 (zb kc_R_78) dR_multiplyFinite_86 ?_
  refine z_land (pc := 89) hZ dR_multiplyFinite_89 (fun v89_21 ev89_21 => ?_)
  refine z_lstore (pc := 90) hZ [(13, .long v89_21), (15, .long v81_20), (11, .long v46_11), (9, .long v34_8), (7, .long v24_6), (5, .long v15_4), (3, .long v6_2), (0, .ref a0), (1, .ref a1), (2, .int p2)] dR_multiplyFinite_90 (by decide) rfl ?_
  refine z_lload (pc := 92) hZ 1 dR_multiplyFinite_92 rfl ?_
  refine z_callS (pc := 94) (As := [.long v81_20]) (rest := []) hZ (cJL_numberOfLeadingZeros l D tys (X ++ PL LP f) v81_20) zyJL_numberOfLeadingZeros (z_goodS ml_R_51 st_JL_numberOfLeadingZeros in_JL co_JL_numberOfLeadingZeros) rfl rfl (by decide) rfl rfl (Nat.le_of_ble_eq_true rfl) ⟨Nat.zero_le _, Nat.zero_le _⟩ dR_multiplyFinite_94 (z_ki (fun r94_22 w1 tys1 hp => ?_))
  obtain ⟨rfl, rfl, p94_22⟩ := hp
  refine z_iconst (pc := 97) hZ 1 dR_multiplyFinite_97 (by decide) ?_
  refine z_isub (pc := 98) hZ dR_multiplyFinite_98 (fun v98_23 ev98_23 => ?_)
  refine z_bipush (pc := 99) hZ 54 dR_multiplyFinite_99 (by decide) ?_
  refine z_mmin (pc := 101) hZ (zb ml_R_80) (zb st_JM_min) (zb in_Math) (zb co_JM_min) (by decide) (Nat.le_of_ble_eq_true rfl) (Nat.zero_le _) (Nat.zero_le _) dR_multiplyFinite_101 (fun v101_24 ev101_24 => ?_)
  refine z_istore (pc := 104) hZ [(17, .int v101_24), (13, .long v89_21), (15, .long v81_20), (11, .long v46_11), (9, .long v34_8), (7, .long v24_6), (5, .long v15_4), (3, .long v6_2), (0, .ref a0), (1, .ref a1), (2, .int p2)] dR_multiplyFinite_104 (by decide) rfl ?_
  refine z_bipush (pc := 106) hZ 54 dR_multiplyFinite_106 (by decide) ?_
  refine z_iload (pc := 108) hZ 0 dR_multiplyFinite_108 rfl ?_
  refine z_isub (pc := 110) hZ dR_multiplyFinite_110 (fun v110_25 ev110_25 => ?_)
  refine z_istore (pc := 111) hZ [(18, .int v110_25), (17, .int v101_24), (13, .long v89_21), (15, .long v81_20), (11, .long v46_11), (9, .long v34_8), (7, .long v24_6), (5, .long v15_4), (3, .long v6_2), (0, .ref a0), (1, .ref a1), (2, .int p2)] dR_multiplyFinite_111 (by decide) rfl ?_
  refine z_lload (pc := 113) hZ 2 dR_multiplyFinite_113 rfl ?_
  refine z_iload (pc := 115) hZ 0 dR_multiplyFinite_115 rfl ?_
  refine z_lushr (pc := 117) hZ dR_multiplyFinite_117 (fun v117_26 ev117_26 => ?_)
  refine z_lstore (pc := 118) hZ [(19, .long v117_26), (18, .int v110_25), (17, .int v101_24), (13, .long v89_21), (15, .long v81_20), (11, .long v46_11), (9, .long v34_8), (7, .long v24_6), (5, .long v15_4), (3, .long v6_2), (0, .ref a0), (1, .ref a1), (2, .int p2)] dR_multiplyFinite_118 (by decide) rfl ?_
  refine z_lload (pc := 120) hZ 0 dR_multiplyFinite_120 rfl ?_
  refine z_iload (pc := 122) hZ 1 dR_multiplyFinite_122 rfl ?_
  refine z_lshl (pc := 124) hZ dR_multiplyFinite_124 (fun v124_27 ev124_27 => ?_)
  refine z_lload (pc := 125) hZ 3 dR_multiplyFinite_125 rfl ?_
  have J136 : ∀ (s0_136 : Int32), Z 0 0 tys 136 [(19, .long v117_26), (18, .int v110_25), (17, .int v101_24), (15, .long v81_20), (0, .ref a0), (1, .ref a1), (2, .int p2)] [.int s0_136] (X ++ PL LP f) := by
    intro s0_136
    refine z_istore (pc := 136) hZ [(21, .int s0_136), (19, .long v117_26), (18, .int v110_25), (17, .int v101_24), (15, .long v81_20), (0, .ref a0), (1, .ref a1), (2, .int p2)] dR_multiplyFinite_136 (by decide) rfl ?_
    refine z_aload_n (pc := 138) hZ 5 dR_multiplyFinite_138 rfl rfl ?_
    refine z_iload_n (pc := 139) hZ 7 dR_multiplyFinite_139 rfl rfl ?_
    refine z_lload (pc := 140) hZ 4 dR_multiplyFinite_140 rfl ?_
    refine z_iload (pc := 142) hZ 3 dR_multiplyFinite_142 rfl ?_
    refine z_lshl (pc := 144) hZ dR_multiplyFinite_144 (fun v144_28 ev144_28 => ?_)
    refine z_lload (pc := 145) hZ 1 dR_multiplyFinite_145 rfl ?_
    refine z_ladd (pc := 147) hZ dR_multiplyFinite_147 (fun v147_29 ev147_29 => ?_)
    refine z_iload (pc := 148) hZ 0 dR_multiplyFinite_148 rfl ?_
    refine z_aload_n (pc := 150) hZ 5 dR_multiplyFinite_150 rfl rfl ?_
    refine z_pg2N (pc := 151) hZ h_a0 uc_V nf_R_57 dR_multiplyFinite_151 (fun v151_30 ev151_30 => ?_)
    refine z_aload_n (pc := 154) hZ 6 dR_multiplyFinite_154 rfl rfl ?_
    refine z_pg2N (pc := 155) hZ h_a1 uc_V nf_R_57 dR_multiplyFinite_155 (fun v155_31 ev155_31 => ?_)
    refine z_iadd (pc := 158) hZ dR_multiplyFinite_158 (fun v158_32 ev158_32 => ?_)
    refine z_iload (pc := 159) hZ 2 dR_multiplyFinite_159 rfl ?_
    refine z_iadd (pc := 161) hZ dR_multiplyFinite_161 (fun v161_33 ev161_33 => ?_)
    obtain ⟨q162_34, hq162_34⟩ := zp_at (X := X) (f := f) h_a0
    refine z_callVN (pc := 162) (As := [.int p2, .long v147_29, .int s0_136, .int v161_33]) (rest := []) hZ (cV_setNearest l D tys X LP f a0 h_a0 p2 v147_29 s0_136 v161_33) zyV_setNearest (z_good co_V_setNearest) nl_R_64 (zb in_V) (zb im_V_setNearest) (zb se_V_setNearest) q162_34 hq162_34 rfl rfl rfl (by decide) rfl rfl (Nat.le_of_ble_eq_true rfl) ⟨Nat.zero_le _, Nat.zero_le _⟩ dR_multiplyFinite_162 (z_kv (fun w1 tys1 hp => ?_))
    obtain ⟨f162_34, rfl, rfl, p162_34⟩ := hp
    exact z_retv (pc := 165) hZ dR_multiplyFinite_165 rfl ⟨rfl, _, rfl, rfl, (by trivial)⟩
  refine z_lif_eq (pc := 127) hZ 135 dR_multiplyFinite_127 dR_multiplyFinite_128 (by decide) (fun c128_35 => ?_) (fun c128_35 => ?_)
  · refine z_iconst (pc := 135) hZ 0 dR_multiplyFinite_135 (by decide) ?_
    exact z_sub (pc := 136) hZ [0, 1, 2, 4, 10, 11, 12] rfl (J136 0)
  · refine z_iconst (pc := 131) hZ 1 dR_multiplyFinite_131 (by decide) ?_
    refine z_goto (pc := 132) hZ 136 dR_multiplyFinite_132 (by decide) ?_
    exact z_sub (pc := 136) hZ [0, 1, 2, 4, 10, 11, 12] rfl (J136 1)
set_option maxHeartbeats 4000000 in
set_option maxRecDepth 100000 in
theorem cR_multiply (l : Launch) (D : va_G) (tys : zT) (X : va_W) (LP : List Nat) (f : Nat → V3) (a0 : Nat) (h_a0 : a0 ∈ LP) (a1 : Nat) (h_a1 : a1 ∈ LP) : zM l D vwCl zNF zNM yR_multiply wsR_multiply { frames := 4, cells := 0, slots := 0, locals := 115 } [.ref a0, .ref a1] (X ++ PL LP f) tys (qV (fun w' tys' => ∃ f' : Nat → V3, X ++ PL LP f' = w' ∧ tys = tys' ∧ (True))) := by
  refine z_met (cc := bR_multiply) (maxL := 3) (ret := none) (isI := false) (own := RR) (by decide +kernel) rfl rfl (fun h => by cases h) (Nat.le_of_ble_eq_true rfl) (fun Z hZ => ?_)
  show Z 0 0 tys 0 [(0, .ref a0), (1, .ref a1)] [] (X ++ PL LP f)
  refine z_aload_n (pc := 0) hZ 0 dR_multiply_0 rfl rfl ?_
  refine z_aload_n (pc := 1) hZ 1 dR_multiply_1 rfl rfl ?_
  refine z_callS (pc := 2) (As := [.ref a0, .ref a1]) (rest := []) hZ (cR_hasNoNumber l D tys X LP f a0 h_a0 a1 h_a1) zyR_hasNoNumber (z_goodS ml_R_17 st_R_hasNoNumber in_R co_R_hasNoNumber) rfl rfl (by decide) rfl rfl (Nat.le_of_ble_eq_true rfl) ⟨Nat.zero_le _, Nat.zero_le _⟩ dR_multiply_2 (z_ki (fun r2_1 w1 tys1 hp => ?_))
  obtain ⟨rfl, rfl, p2_1⟩ := hp
  refine z_if_eq (pc := 5) hZ 14 dR_multiply_5 (by decide) (fun c5_2 => ?_) (fun c5_2 => ?_)
  · refine z_aload_n (pc := 14) hZ 0 dR_multiply_14 rfl rfl ?_
    obtain ⟨q15_3, hq15_3⟩ := zp_at (X := X) (f := f) h_a0
    refine z_callVN (pc := 15) (As := []) (rest := []) hZ (cV_sign l D tys X LP f a0 h_a0) zyV_sign (z_good co_V_sign) nl_R_60 (zb in_V) (zb im_V_sign) (zb se_V_sign) q15_3 hq15_3 rfl rfl rfl (by decide) rfl rfl (Nat.le_of_ble_eq_true rfl) ⟨Nat.zero_le _, Nat.zero_le _⟩ dR_multiply_15 (z_ki (fun r15_3 w1 tys1 hp => ?_))
    obtain ⟨rfl, rfl, p15_3⟩ := hp
    refine z_aload_n (pc := 18) hZ 1 dR_multiply_18 rfl rfl ?_
    obtain ⟨q19_4, hq19_4⟩ := zp_at (X := X) (f := f) h_a1
    refine z_callVN (pc := 19) (As := []) (rest := [.int r15_3]) hZ (cV_sign l D tys X LP f a1 h_a1) zyV_sign (z_good co_V_sign) nl_R_60 (zb in_V) (zb im_V_sign) (zb se_V_sign) q19_4 hq19_4 rfl rfl rfl (by decide) rfl rfl (Nat.le_of_ble_eq_true rfl) ⟨Nat.zero_le _, Nat.zero_le _⟩ dR_multiply_19 (z_ki (fun r19_4 w1 tys1 hp => ?_))
    obtain ⟨rfl, rfl, p19_4⟩ := hp
    refine z_imul (pc := 22) hZ dR_multiply_22 (fun v22_5 ev22_5 => ?_)
    refine z_istore_n (pc := 23) hZ [(2, .int v22_5), (0, .ref a0), (1, .ref a1)] dR_multiply_23 rfl (by decide) rfl ?_
    refine z_aload_n (pc := 24) hZ 1 dR_multiply_24 rfl rfl ?_
    obtain ⟨q25_6, hq25_6⟩ := zp_at (X := X) (f := f) h_a0
    refine z_callVN (pc := 25) (As := []) (rest := []) hZ (cV_isInfinite l D tys X LP f a0 h_a0) zyV_isInfinite (z_good co_V_isInfinite) nl_R_25 (zb in_V) (zb im_V_isInfinite) (zb se_V_isInfinite) q25_6 hq25_6 rfl rfl rfl (by decide) rfl rfl (Nat.le_of_ble_eq_true rfl) ⟨Nat.zero_le _, Nat.zero_le _⟩ dR_multiply_25 (z_ki (fun r25_6 w1 tys1 hp => ?_))
    obtain ⟨rfl, rfl, p25_6⟩ := hp
    have J55 : Z 0 0 tys 55 [(2, .int v22_5), (0, .ref a0)] [] (X ++ PL LP f) := by
      refine z_iload_n (pc := 55) hZ 0 dR_multiply_55 rfl rfl ?_
      refine z_if_ne (pc := 56) hZ 67 dR_multiply_56 (by decide) (fun c56_7 => ?_) (fun c56_7 => ?_)
      · refine z_aload_n (pc := 67) hZ 1 dR_multiply_67 rfl rfl ?_
        refine z_iload_n (pc := 68) hZ 0 dR_multiply_68 rfl rfl ?_
        have J77 : ∀ (s0_77 : Int32), Z 0 0 tys 77 [] [.int s0_77, .ref a0] (X ++ PL LP f) := by
          intro s0_77
          obtain ⟨q77_8, hq77_8⟩ := zp_at (X := X) (f := f) h_a0
          refine z_callVN (pc := 77) (As := [.int s0_77]) (rest := []) hZ (cV_setInfinity l D tys X LP f a0 h_a0 s0_77) zyV_setInfinity (z_good co_V_setInfinity) nl_R_72 (zb in_V) (zb im_V_setInfinity) (zb se_V_setInfinity) q77_8 hq77_8 rfl rfl rfl (by decide) rfl rfl (Nat.le_of_ble_eq_true rfl) ⟨Nat.zero_le _, Nat.zero_le _⟩ dR_multiply_77 (z_kv (fun w1 tys1 hp => ?_))
          obtain ⟨f77_8, rfl, rfl, p77_8⟩ := hp
          exact z_retv (pc := 80) hZ dR_multiply_80 rfl ⟨rfl, _, rfl, rfl, (by trivial)⟩
        refine z_if_ge (pc := 69) hZ 76 dR_multiply_69 (by decide) (fun c69_9 => ?_) (fun c69_9 => ?_)
        · refine z_iconst (pc := 76) hZ 0 dR_multiply_76 (by decide) ?_
          exact z_sub (pc := 77) hZ [] rfl (J77 0)
        · refine z_iconst (pc := 72) hZ 1 dR_multiply_72 (by decide) ?_
          refine z_goto (pc := 73) hZ 77 dR_multiply_73 (by decide) ?_
          exact z_sub (pc := 77) hZ [] rfl (J77 1)
      · refine z_aload_n (pc := 59) hZ 1 dR_multiply_59 rfl rfl ?_
        refine z_iconst (pc := 60) hZ 5 dR_multiply_60 (by decide) ?_
        obtain ⟨q61_10, hq61_10⟩ := zp_at (X := X) (f := f) h_a0
        refine z_callVN (pc := 61) (As := [.int 5]) (rest := []) hZ (cV_setSpecial l D tys X LP f a0 h_a0 5) zyV_setSpecial (z_good co_V_setSpecial) nl_R_21 (zb in_V) (zb im_V_setSpecial) (zb se_V_setSpecial) q61_10 hq61_10 rfl rfl rfl (by decide) rfl rfl (Nat.le_of_ble_eq_true rfl) ⟨Nat.zero_le _, Nat.zero_le _⟩ dR_multiply_61 (z_kv (fun w1 tys1 hp => ?_))
        obtain ⟨f61_10, rfl, rfl, p61_10⟩ := hp
        refine z_goto (pc := 64) hZ 80 dR_multiply_64 (by decide) ?_
        exact z_retv (pc := 80) hZ dR_multiply_80 rfl ⟨rfl, _, rfl, rfl, (by trivial)⟩
    refine z_if_ne (pc := 28) hZ 55 dR_multiply_28 (by decide) (fun c28_11 => ?_) (fun c28_11 => ?_)
    · exact z_sub (pc := 55) hZ [0, 1] rfl (J55 )
    · refine z_aload_n (pc := 31) hZ 2 dR_multiply_31 rfl rfl ?_
      obtain ⟨q32_12, hq32_12⟩ := zp_at (X := X) (f := f) h_a1
      refine z_callVN (pc := 32) (As := []) (rest := []) hZ (cV_isInfinite l D tys X LP f a1 h_a1) zyV_isInfinite (z_good co_V_isInfinite) nl_R_25 (zb in_V) (zb im_V_isInfinite) (zb se_V_isInfinite) q32_12 hq32_12 rfl rfl rfl (by decide) rfl rfl (Nat.le_of_ble_eq_true rfl) ⟨Nat.zero_le _, Nat.zero_le _⟩ dR_multiply_32 (z_ki (fun r32_12 w1 tys1 hp => ?_))
      obtain ⟨rfl, rfl, p32_12⟩ := hp
      refine z_if_ne (pc := 35) hZ 55 dR_multiply_35 (by decide) (fun c35_13 => ?_) (fun c35_13 => ?_)
      · exact z_sub (pc := 55) hZ [0, 1] rfl (J55 )
      · refine z_aload_n (pc := 38) hZ 1 dR_multiply_38 rfl rfl ?_
        refine z_aload_n (pc := 39) hZ 2 dR_multiply_39 rfl rfl ?_
        refine z_iload_n (pc := 40) hZ 0 dR_multiply_40 rfl rfl ?_
        have J49 : ∀ (s0_49 : Int32), Z 0 0 tys 49 [] [.int s0_49, .ref a1, .ref a0] (X ++ PL LP f) := by
          intro s0_49
          refine z_callS (pc := 49) (As := [.ref a0, .ref a1, .int s0_49]) (rest := []) hZ (cR_multiplyFinite l D tys X LP f a0 h_a0 a1 h_a1 s0_49) zyR_multiplyFinite (z_goodS ml_R_68 st_R_multiplyFinite in_R co_R_multiplyFinite) rfl rfl (by decide) rfl rfl (Nat.le_of_ble_eq_true rfl) ⟨Nat.zero_le _, Nat.zero_le _⟩ dR_multiply_49 (z_kv (fun w1 tys1 hp => ?_))
          obtain ⟨f49_14, rfl, rfl, p49_14⟩ := hp
          refine z_goto (pc := 52) hZ 80 dR_multiply_52 (by decide) ?_
          exact z_retv (pc := 80) hZ dR_multiply_80 rfl ⟨rfl, _, rfl, rfl, (by trivial)⟩
        refine z_if_ge (pc := 41) hZ 48 dR_multiply_41 (by decide) (fun c41_15 => ?_) (fun c41_15 => ?_)
        · refine z_iconst (pc := 48) hZ 0 dR_multiply_48 (by decide) ?_
          exact z_sub (pc := 49) hZ [] rfl (J49 0)
        · refine z_iconst (pc := 44) hZ 1 dR_multiply_44 (by decide) ?_
          refine z_goto (pc := 45) hZ 49 dR_multiply_45 (by decide) ?_
          exact z_sub (pc := 49) hZ [] rfl (J49 1)
  · refine z_aload_n (pc := 8) hZ 0 dR_multiply_8 rfl rfl ?_
    refine z_iconst (pc := 9) hZ 5 dR_multiply_9 (by decide) ?_
    obtain ⟨q10_16, hq10_16⟩ := zp_at (X := X) (f := f) h_a0
    refine z_callVN (pc := 10) (As := [.int 5]) (rest := []) hZ (cV_setSpecial l D tys X LP f a0 h_a0 5) zyV_setSpecial (z_good co_V_setSpecial) nl_R_21 (zb in_V) (zb im_V_setSpecial) (zb se_V_setSpecial) q10_16 hq10_16 rfl rfl rfl (by decide) rfl rfl (Nat.le_of_ble_eq_true rfl) ⟨Nat.zero_le _, Nat.zero_le _⟩ dR_multiply_10 (z_kv (fun w1 tys1 hp => ?_))
    obtain ⟨f10_16, rfl, rfl, p10_16⟩ := hp
    exact z_retv (pc := 13) hZ dR_multiply_13 rfl ⟨rfl, _, rfl, rfl, (by trivial)⟩
set_option maxHeartbeats 4000000 in
set_option maxRecDepth 100000 in
theorem cR_divideByZero (l : Launch) (D : va_G) (tys : zT) (X : va_W) (LP : List Nat) (f : Nat → V3) (a0 : Nat) (h_a0 : a0 ∈ LP) : zM l D vwCl zNF zNM yR_divideByZero wsR_divideByZero { frames := 2, cells := 0, slots := 0, locals := 41 } [.ref a0] (X ++ PL LP f) tys (qV (fun w' tys' => ∃ f' : Nat → V3, X ++ PL LP f' = w' ∧ tys = tys' ∧ (True))) := by
  refine z_met (cc := bR_divideByZero) (maxL := 1) (ret := none) (isI := false) (own := RR) (by decide +kernel) rfl rfl (fun h => by cases h) (Nat.le_of_ble_eq_true rfl) (fun Z hZ => ?_)
  show Z 0 0 tys 0 [(0, .ref a0)] [] (X ++ PL LP f)
  refine z_aload_n (pc := 0) hZ 0 dR_divideByZero_0 rfl rfl ?_
  obtain ⟨q1_1, hq1_1⟩ := zp_at (X := X) (f := f) h_a0
  refine z_callVN (pc := 1) (As := []) (rest := []) hZ (cV_sign l D tys X LP f a0 h_a0) zyV_sign (z_good co_V_sign) nl_R_60 (zb in_V) (zb im_V_sign) (zb se_V_sign) q1_1 hq1_1 rfl rfl rfl (by decide) rfl rfl (Nat.le_of_ble_eq_true rfl) ⟨Nat.zero_le _, Nat.zero_le _⟩ dR_divideByZero_1 (z_ki (fun r1_1 w1 tys1 hp => ?_))
  obtain ⟨rfl, rfl, p1_1⟩ := hp
  refine z_if_ne (pc := 4) hZ 15 dR_divideByZero_4 (by decide) (fun c4_2 => ?_) (fun c4_2 => ?_)
  · refine z_aload_n (pc := 15) hZ 0 dR_divideByZero_15 rfl rfl ?_
    refine z_aload_n (pc := 16) hZ 0 dR_divideByZero_16 rfl rfl ?_
    obtain ⟨q17_3, hq17_3⟩ := zp_at (X := X) (f := f) h_a0
    refine z_callVN (pc := 17) (As := []) (rest := [.ref a0]) hZ (cV_sign l D tys X LP f a0 h_a0) zyV_sign (z_good co_V_sign) nl_R_60 (zb in_V) (zb im_V_sign) (zb se_V_sign) q17_3 hq17_3 rfl rfl rfl (by decide) rfl rfl (Nat.le_of_ble_eq_true rfl) ⟨Nat.zero_le _, Nat.zero_le _⟩ dR_divideByZero_17 (z_ki (fun r17_3 w1 tys1 hp => ?_))
    obtain ⟨rfl, rfl, p17_3⟩ := hp
    have J28 : ∀ (s0_28 : Int32), Z 0 0 tys 28 [] [.int s0_28, .ref a0] (X ++ PL LP f) := by
      intro s0_28
      obtain ⟨q28_4, hq28_4⟩ := zp_at (X := X) (f := f) h_a0
      refine z_callVN (pc := 28) (As := [.int s0_28]) (rest := []) hZ (cV_setInfinity l D tys X LP f a0 h_a0 s0_28) zyV_setInfinity (z_good co_V_setInfinity) nl_R_72 (zb in_V) (zb im_V_setInfinity) (zb se_V_setInfinity) q28_4 hq28_4 rfl rfl rfl (by decide) rfl rfl (Nat.le_of_ble_eq_true rfl) ⟨Nat.zero_le _, Nat.zero_le _⟩ dR_divideByZero_28 (z_kv (fun w1 tys1 hp => ?_))
      obtain ⟨f28_4, rfl, rfl, p28_4⟩ := hp
      exact z_retv (pc := 31) hZ dR_divideByZero_31 rfl ⟨rfl, _, rfl, rfl, (by trivial)⟩
    refine z_if_ge (pc := 20) hZ 27 dR_divideByZero_20 (by decide) (fun c20_5 => ?_) (fun c20_5 => ?_)
    · refine z_iconst (pc := 27) hZ 0 dR_divideByZero_27 (by decide) ?_
      exact z_sub (pc := 28) hZ [] rfl (J28 0)
    · refine z_iconst (pc := 23) hZ 1 dR_divideByZero_23 (by decide) ?_
      refine z_goto (pc := 24) hZ 28 dR_divideByZero_24 (by decide) ?_
      exact z_sub (pc := 28) hZ [] rfl (J28 1)
  · refine z_aload_n (pc := 7) hZ 0 dR_divideByZero_7 rfl rfl ?_
    refine z_iconst (pc := 8) hZ 5 dR_divideByZero_8 (by decide) ?_
    obtain ⟨q9_6, hq9_6⟩ := zp_at (X := X) (f := f) h_a0
    refine z_callVN (pc := 9) (As := [.int 5]) (rest := []) hZ (cV_setSpecial l D tys X LP f a0 h_a0 5) zyV_setSpecial (z_good co_V_setSpecial) nl_R_21 (zb in_V) (zb im_V_setSpecial) (zb se_V_setSpecial) q9_6 hq9_6 rfl rfl rfl (by decide) rfl rfl (Nat.le_of_ble_eq_true rfl) ⟨Nat.zero_le _, Nat.zero_le _⟩ dR_divideByZero_9 (z_kv (fun w1 tys1 hp => ?_))
    obtain ⟨f9_6, rfl, rfl, p9_6⟩ := hp
    refine z_goto (pc := 12) hZ 31 dR_divideByZero_12 (by decide) ?_
    exact z_retv (pc := 31) hZ dR_divideByZero_31 rfl ⟨rfl, _, rfl, rfl, (by trivial)⟩
set_option maxHeartbeats 4000000 in
set_option maxRecDepth 100000 in
theorem cR_divideFinite (l : Launch) (D : va_G) (tys : zT) (X : va_W) (LP : List Nat) (f : Nat → V3) (a0 : Nat) (h_a0 : a0 ∈ LP) (a1 : Nat) (h_a1 : a1 ∈ LP) : zM l D vwCl zNF zNM yR_divideFinite wsR_divideFinite { frames := 3, cells := 0, slots := 0, locals := 74 } [.ref a0, .ref a1] (X ++ PL LP f) tys (qV (fun w' tys' => ∃ f' : Nat → V3, X ++ PL LP f' = w' ∧ tys = tys' ∧ (True))) := by
  refine z_met (cc := bR_divideFinite) (maxL := 13) (ret := none) (isI := false) (own := RR) (by decide +kernel) rfl rfl (fun h => by cases h) (Nat.le_of_ble_eq_true rfl) (fun Z hZ => ?_)
  show Z 0 0 tys 0 [(0, .ref a0), (1, .ref a1)] [] (X ++ PL LP f)
  refine z_aload_n (pc := 0) hZ 0 dR_divideFinite_0 rfl rfl ?_
  obtain ⟨q1_1, hq1_1⟩ := zp_at (X := X) (f := f) h_a0
  refine z_callVN (pc := 1) (As := []) (rest := []) hZ (cV_size l D tys X LP f a0 h_a0) zyV_size (z_good co_V_size) nl_R_47 (zb in_V) (zb im_V_size) (zb se_V_size) q1_1 hq1_1 rfl rfl rfl (by decide) rfl rfl (Nat.le_of_ble_eq_true rfl) ⟨Nat.zero_le _, Nat.zero_le _⟩ dR_divideFinite_1 (z_kl (fun r1_1 w1 tys1 hp => ?_))
  obtain ⟨rfl, rfl, p1_1⟩ := hp
  refine z_callS (pc := 4) (As := [.long r1_1]) (rest := []) hZ (cJL_numberOfLeadingZeros l D tys (X ++ PL LP f) r1_1) zyJL_numberOfLeadingZeros (z_goodS ml_R_51 st_JL_numberOfLeadingZeros in_JL co_JL_numberOfLeadingZeros) rfl rfl (by decide) rfl rfl (Nat.le_of_ble_eq_true rfl) ⟨Nat.zero_le _, Nat.zero_le _⟩ dR_divideFinite_4 (z_ki (fun r4_2 w1 tys1 hp => ?_))
  obtain ⟨rfl, rfl, p4_2⟩ := hp
  refine z_bipush (pc := 7) hZ 11 dR_divideFinite_7 (by decide) ?_
  refine z_isub (pc := 9) hZ dR_divideFinite_9 (fun v9_3 ev9_3 => ?_)
  refine z_istore_n (pc := 10) hZ [(2, .int v9_3), (0, .ref a0), (1, .ref a1)] dR_divideFinite_10 rfl (by decide) rfl ?_
  refine z_aload_n (pc := 11) hZ 2 dR_divideFinite_11 rfl rfl ?_
  obtain ⟨q12_4, hq12_4⟩ := zp_at (X := X) (f := f) h_a1
  refine z_callVN (pc := 12) (As := []) (rest := []) hZ (cV_size l D tys X LP f a1 h_a1) zyV_size (z_good co_V_size) nl_R_47 (zb in_V) (zb im_V_size) (zb se_V_size) q12_4 hq12_4 rfl rfl rfl (by decide) rfl rfl (Nat.le_of_ble_eq_true rfl) ⟨Nat.zero_le _, Nat.zero_le _⟩ dR_divideFinite_12 (z_kl (fun r12_4 w1 tys1 hp => ?_))
  obtain ⟨rfl, rfl, p12_4⟩ := hp
  refine z_callS (pc := 15) (As := [.long r12_4]) (rest := []) hZ (cJL_numberOfLeadingZeros l D tys (X ++ PL LP f) r12_4) zyJL_numberOfLeadingZeros (z_goodS ml_R_51 st_JL_numberOfLeadingZeros in_JL co_JL_numberOfLeadingZeros) rfl rfl (by decide) rfl rfl (Nat.le_of_ble_eq_true rfl) ⟨Nat.zero_le _, Nat.zero_le _⟩ dR_divideFinite_15 (z_ki (fun r15_5 w1 tys1 hp => ?_))
  obtain ⟨rfl, rfl, p15_5⟩ := hp
  refine z_bipush (pc := 18) hZ 11 dR_divideFinite_18 (by decide) ?_
  refine z_isub (pc := 20) hZ dR_divideFinite_20 (fun v20_6 ev20_6 => ?_)
  refine z_istore_n (pc := 21) hZ [(3, .int v20_6), (2, .int v9_3), (0, .ref a0), (1, .ref a1)] dR_divideFinite_21 rfl (by decide) rfl ?_
  refine z_aload_n (pc := 22) hZ 3 dR_divideFinite_22 rfl rfl ?_
  obtain ⟨q23_7, hq23_7⟩ := zp_at (X := X) (f := f) h_a1
  refine z_callVN (pc := 23) (As := []) (rest := []) hZ (cV_size l D tys X LP f a1 h_a1) zyV_size (z_good co_V_size) nl_R_47 (zb in_V) (zb im_V_size) (zb se_V_size) q23_7 hq23_7 rfl rfl rfl (by decide) rfl rfl (Nat.le_of_ble_eq_true rfl) ⟨Nat.zero_le _, Nat.zero_le _⟩ dR_divideFinite_23 (z_kl (fun r23_7 w1 tys1 hp => ?_))
  obtain ⟨rfl, rfl, p23_7⟩ := hp
  refine z_iload_n (pc := 26) hZ 0 dR_divideFinite_26 rfl rfl ?_
  refine z_lshl (pc := 27) hZ dR_divideFinite_27 (fun v27_8 ev27_8 => ?_)
  refine z_lstore (pc := 28) hZ [(4, .long v27_8), (3, .int v20_6), (2, .int v9_3), (0, .ref a0), (1, .ref a1)] dR_divideFinite_28 (by decide) rfl ?_
  refine z_lload (pc := 30) hZ 0 dR_divideFinite_30 rfl ?_
  refine z_lconst (pc := 32) hZ 0 dR_divideFinite_32 (by decide) ?_
  refine z_lif_ne (pc := 33) hZ 38 dR_divideFinite_33 dR_divideFinite_34 (by decide) (fun c34_9 => ?_) (fun c34_9 => ?_)
  · refine z_aload_n (pc := 38) hZ 3 dR_divideFinite_38 rfl rfl ?_
    obtain ⟨q39_10, hq39_10⟩ := zp_at (X := X) (f := f) h_a0
    refine z_callVN (pc := 39) (As := []) (rest := []) hZ (cV_sign l D tys X LP f a0 h_a0) zyV_sign (z_good co_V_sign) nl_R_60 (zb in_V) (zb im_V_sign) (zb se_V_sign) q39_10 hq39_10 rfl rfl rfl (by decide) rfl rfl (Nat.le_of_ble_eq_true rfl) ⟨Nat.zero_le _, Nat.zero_le _⟩ dR_divideFinite_39 (z_ki (fun r39_10 w1 tys1 hp => ?_))
    obtain ⟨rfl, rfl, p39_10⟩ := hp
    refine z_aload_n (pc := 42) hZ 4 dR_divideFinite_42 rfl rfl ?_
    obtain ⟨q43_11, hq43_11⟩ := zp_at (X := X) (f := f) h_a1
    refine z_callVN (pc := 43) (As := []) (rest := [.int r39_10]) hZ (cV_sign l D tys X LP f a1 h_a1) zyV_sign (z_good co_V_sign) nl_R_60 (zb in_V) (zb im_V_sign) (zb se_V_sign) q43_11 hq43_11 rfl rfl rfl (by decide) rfl rfl (Nat.le_of_ble_eq_true rfl) ⟨Nat.zero_le _, Nat.zero_le _⟩ dR_divideFinite_43 (z_ki (fun r43_11 w1 tys1 hp => ?_))
    obtain ⟨rfl, rfl, p43_11⟩ := hp
    have J54 : ∀ (s0_54 : Int32), Z 0 0 tys 54 [(4, .long v27_8), (3, .int v20_6), (2, .int v9_3), (0, .ref a0), (1, .ref a1)] [.int s0_54] (X ++ PL LP f) := by
      intro s0_54
      refine z_istore (pc := 54) hZ [(6, .int s0_54), (4, .long v27_8), (3, .int v20_6), (2, .int v9_3), (0, .ref a0), (1, .ref a1)] dR_divideFinite_54 (by decide) rfl ?_
      refine z_aload_n (pc := 56) hZ 4 dR_divideFinite_56 rfl rfl ?_
      refine z_pg2N (pc := 57) hZ h_a0 uc_V nf_R_57 dR_divideFinite_57 (fun v57_12 ev57_12 => ?_)
      refine z_iload_n (pc := 60) hZ 3 dR_divideFinite_60 rfl rfl ?_
      refine z_isub (pc := 61) hZ dR_divideFinite_61 (fun v61_13 ev61_13 => ?_)
      refine z_aload_n (pc := 62) hZ 5 dR_divideFinite_62 rfl rfl ?_
      refine z_pg2N (pc := 63) hZ h_a1 uc_V nf_R_57 dR_divideFinite_63 (fun v63_14 ev63_14 => ?_)
      refine z_iload_n (pc := 66) hZ 2 dR_divideFinite_66 rfl rfl ?_
      refine z_isub (pc := 67) hZ dR_divideFinite_67 (fun v67_15 ev67_15 => ?_)
      refine z_isub (pc := 68) hZ dR_divideFinite_68 (fun v68_16 ev68_16 => ?_)
      refine z_bipush (pc := 69) hZ 60 dR_divideFinite_69 (by decide) ?_
      refine z_isub (pc := 71) hZ dR_divideFinite_71 (fun v71_17 ev71_17 => ?_)
      refine z_istore (pc := 72) hZ [(7, .int v71_17), (6, .int s0_54), (4, .long v27_8), (3, .int v20_6), (2, .int v9_3), (0, .ref a0), (1, .ref a1)] dR_divideFinite_72 (by decide) rfl ?_
      refine z_aload_n (pc := 74) hZ 5 dR_divideFinite_74 rfl rfl ?_
      obtain ⟨q75_18, hq75_18⟩ := zp_at (X := X) (f := f) h_a0
      refine z_callVN (pc := 75) (As := []) (rest := []) hZ (cV_size l D tys X LP f a0 h_a0) zyV_size (z_good co_V_size) nl_R_47 (zb in_V) (zb im_V_size) (zb se_V_size) q75_18 hq75_18 rfl rfl rfl (by decide) rfl rfl (Nat.le_of_ble_eq_true rfl) ⟨Nat.zero_le _, Nat.zero_le _⟩ dR_divideFinite_75 (z_kl (fun r75_18 w1 tys1 hp => ?_))
      obtain ⟨rfl, rfl, p75_18⟩ := hp
      refine z_iload_n (pc := 78) hZ 4 dR_divideFinite_78 rfl rfl ?_
      refine z_lshl (pc := 79) hZ dR_divideFinite_79 (fun v79_19 ev79_19 => ?_)
      refine z_lstore (pc := 80) hZ [(8, .long v79_19), (7, .int v71_17), (6, .int s0_54), (4, .long v27_8), (3, .int v20_6), (2, .int v9_3), (0, .ref a0), (1, .ref a1)] dR_divideFinite_80 (by decide) rfl ?_
      refine z_lload (pc := 82) hZ 0 dR_divideFinite_82 rfl ?_
      refine z_lload (pc := 84) hZ 3 dR_divideFinite_84 rfl ?_
      refine z_ldiv (pc := 86) hZ dR_divideFinite_86 (by assumption) (fun v86_20 ev86_20 => ?_)
      refine z_lstore (pc := 87) hZ [(10, .long v86_20), (8, .long v79_19), (7, .int v71_17), (6, .int s0_54), (4, .long v27_8), (3, .int v20_6), (2, .int v9_3), (0, .ref a0), (1, .ref a1)] dR_divideFinite_87 (by decide) rfl ?_
      refine z_lload (pc := 89) hZ 1 dR_divideFinite_89 rfl ?_
      refine z_lload (pc := 91) hZ 4 dR_divideFinite_91 rfl ?_
      refine z_lrem (pc := 93) hZ dR_divideFinite_93 (by assumption) (fun v93_21 ev93_21 => ?_)
      refine z_lstore (pc := 94) hZ [(8, .long v93_21), (10, .long v86_20), (7, .int v71_17), (6, .int s0_54), (4, .long v27_8), (3, .int v20_6), (2, .int v9_3), (0, .ref a0), (1, .ref a1)] dR_divideFinite_94 (by decide) rfl ?_
      refine z_iconst (pc := 96) hZ 0 dR_divideFinite_96 (by decide) ?_
      refine z_istore (pc := 97) hZ [(12, .int 0), (8, .long v93_21), (10, .long v86_20), (7, .int v71_17), (6, .int s0_54), (4, .long v27_8), (3, .int v20_6), (2, .int v9_3), (0, .ref a0), (1, .ref a1)] dR_divideFinite_97 (by decide) rfl ?_
      have L99 : ∀ (N99 : Nat) (x12_99 : Int32) (x8_99 : Int64) (x10_99 : Int64), (((6 : Int32)).toInt - x12_99.toInt).toNat < N99 → Z 0 0 tys 99 [(12, .int x12_99), (8, .long x8_99), (10, .long x10_99), (7, .int v71_17), (6, .int s0_54), (4, .long v27_8), (0, .ref a0)] [] (X ++ PL LP f) := by
        intro N99
        induction N99 with
        | zero => intro x12_99 x8_99 x10_99 m99; exact absurd m99 (Nat.not_lt_zero _)
        | succ N99 ih99 =>
          intro x12_99 x8_99 x10_99 m99
          refine z_iload (pc := 99) hZ 0 dR_divideFinite_99 rfl ?_
          refine z_bipush (pc := 101) hZ 6 dR_divideFinite_101 (by decide) ?_
          refine z_icmp_ge (pc := 103) hZ 139 dR_divideFinite_103 (by decide) (fun c103_22 => ?_) (fun c103_22 => ?_)
          · refine z_aload_n (pc := 139) hZ 6 dR_divideFinite_139 rfl rfl ?_
            refine z_iload (pc := 140) hZ 4 dR_divideFinite_140 rfl ?_
            refine z_lload (pc := 142) hZ 2 dR_divideFinite_142 rfl ?_
            refine z_lload (pc := 144) hZ 1 dR_divideFinite_144 rfl ?_
            refine z_lconst (pc := 146) hZ 0 dR_divideFinite_146 (by decide) ?_
            have J156 : ∀ (s0_156 : Int32), Z 0 0 tys 156 [(7, .int v71_17)] [.int s0_156, .long x10_99, .int s0_54, .ref a0] (X ++ PL LP f) := by
              intro s0_156
              refine z_iload (pc := 156) hZ 0 dR_divideFinite_156 rfl ?_
              obtain ⟨q158_23, hq158_23⟩ := zp_at (X := X) (f := f) h_a0
              refine z_callVN (pc := 158) (As := [.int s0_54, .long x10_99, .int s0_156, .int v71_17]) (rest := []) hZ (cV_setNearest l D tys X LP f a0 h_a0 s0_54 x10_99 s0_156 v71_17) zyV_setNearest (z_good co_V_setNearest) nl_R_64 (zb in_V) (zb im_V_setNearest) (zb se_V_setNearest) q158_23 hq158_23 rfl rfl rfl (by decide) rfl rfl (Nat.le_of_ble_eq_true rfl) ⟨Nat.zero_le _, Nat.zero_le _⟩ dR_divideFinite_158 (z_kv (fun w1 tys1 hp => ?_))
              obtain ⟨f158_23, rfl, rfl, p158_23⟩ := hp
              exact z_retv (pc := 161) hZ dR_divideFinite_161 rfl ⟨rfl, _, rfl, rfl, (by trivial)⟩
            refine z_lif_eq (pc := 147) hZ 155 dR_divideFinite_147 dR_divideFinite_148 (by decide) (fun c148_24 => ?_) (fun c148_24 => ?_)
            · refine z_iconst (pc := 155) hZ 0 dR_divideFinite_155 (by decide) ?_
              exact z_sub (pc := 156) hZ [3] rfl (J156 0)
            · refine z_iconst (pc := 151) hZ 1 dR_divideFinite_151 (by decide) ?_
              refine z_goto (pc := 152) hZ 156 dR_divideFinite_152 (by decide) ?_
              exact z_sub (pc := 156) hZ [3] rfl (J156 1)
          · refine z_lload (pc := 106) hZ 1 dR_divideFinite_106 rfl ?_
            refine z_bipush (pc := 108) hZ 10 dR_divideFinite_108 (by decide) ?_
            refine z_lshl (pc := 110) hZ dR_divideFinite_110 (fun v110_25 ev110_25 => ?_)
            refine z_lstore (pc := 111) hZ [(8, .long v110_25), (12, .int x12_99), (10, .long x10_99), (7, .int v71_17), (6, .int s0_54), (4, .long v27_8), (0, .ref a0)] dR_divideFinite_111 (by decide) rfl ?_
            refine z_lload (pc := 113) hZ 2 dR_divideFinite_113 rfl ?_
            refine z_bipush (pc := 115) hZ 10 dR_divideFinite_115 (by decide) ?_
            refine z_lshl (pc := 117) hZ dR_divideFinite_117 (fun v117_26 ev117_26 => ?_)
            refine z_lload (pc := 118) hZ 0 dR_divideFinite_118 rfl ?_
            refine z_lload (pc := 120) hZ 5 dR_divideFinite_120 rfl ?_
            refine z_ldiv (pc := 122) hZ dR_divideFinite_122 (by assumption) (fun v122_27 ev122_27 => ?_)
            refine z_ladd (pc := 123) hZ dR_divideFinite_123 (fun v123_28 ev123_28 => ?_)
            refine z_lstore (pc := 124) hZ [(10, .long v123_28), (8, .long v110_25), (12, .int x12_99), (7, .int v71_17), (6, .int s0_54), (4, .long v27_8), (0, .ref a0)] dR_divideFinite_124 (by decide) rfl ?_
            refine z_lload (pc := 126) hZ 1 dR_divideFinite_126 rfl ?_
            refine z_lload (pc := 128) hZ 5 dR_divideFinite_128 rfl ?_
            refine z_lrem (pc := 130) hZ dR_divideFinite_130 (by assumption) (fun v130_29 ev130_29 => ?_)
            refine z_lstore (pc := 131) hZ [(8, .long v130_29), (10, .long v123_28), (12, .int x12_99), (7, .int v71_17), (6, .int s0_54), (4, .long v27_8), (0, .ref a0)] dR_divideFinite_131 (by decide) rfl ?_
            refine z_iinc (pc := 133) hZ 2 (fun v9 => [(12, .int v9), (8, .long v130_29), (10, .long v123_28), (7, .int v71_17), (6, .int s0_54), (4, .long v27_8), (0, .ref a0)]) dR_divideFinite_133 rfl (by decide) (fun _ => rfl) (fun v133_30 ev133_30 => ?_)
            refine z_goto (pc := 136) hZ 99 dR_divideFinite_136 (by decide) ?_
            exact z_sub (pc := 99) hZ [0, 1, 2, 3, 4, 5, 6] rfl (ih99 v133_30 v130_29 v123_28 (by exact Nat.lt_of_lt_of_le (dec_up (x := x12_99) (b := (6 : Int32)) (by assumption) (by assumption)) (Nat.le_of_lt_succ m99)))
      exact z_sub (pc := 99) hZ [0, 1, 2, 3, 4, 5, 8] rfl (L99 _ 0 v93_21 v86_20 (Nat.lt_succ_self _))
    refine z_icmp_eq (pc := 46) hZ 53 dR_divideFinite_46 (by decide) (fun c46_31 => ?_) (fun c46_31 => ?_)
    · refine z_iconst (pc := 53) hZ 0 dR_divideFinite_53 (by decide) ?_
      exact z_sub (pc := 54) hZ [0, 1, 2, 3, 4] rfl (J54 0)
    · refine z_iconst (pc := 49) hZ 1 dR_divideFinite_49 (by decide) ?_
      refine z_goto (pc := 50) hZ 54 dR_divideFinite_50 (by decide) ?_
      exact z_sub (pc := 54) hZ [0, 1, 2, 3, 4] rfl (J54 1)
  · exact z_retv (pc := 37) hZ dR_divideFinite_37 rfl ⟨rfl, _, rfl, rfl, (by trivial)⟩
set_option maxHeartbeats 4000000 in
set_option maxRecDepth 100000 in
theorem cR_divide (l : Launch) (D : va_G) (tys : zT) (X : va_W) (LP : List Nat) (f : Nat → V3) (a0 : Nat) (h_a0 : a0 ∈ LP) (a1 : Nat) (h_a1 : a1 ∈ LP) : zM l D vwCl zNF zNM yR_divide wsR_divide { frames := 4, cells := 0, slots := 0, locals := 106 } [.ref a0, .ref a1] (X ++ PL LP f) tys (qV (fun w' tys' => ∃ f' : Nat → V3, X ++ PL LP f' = w' ∧ tys = tys' ∧ (True))) := by
  refine z_met (cc := bR_divide) (maxL := 2) (ret := none) (isI := false) (own := RR) (by decide +kernel) rfl rfl (fun h => by cases h) (Nat.le_of_ble_eq_true rfl) (fun Z hZ => ?_)
  show Z 0 0 tys 0 [(0, .ref a0), (1, .ref a1)] [] (X ++ PL LP f)
  refine z_aload_n (pc := 0) hZ 0 dR_divide_0 rfl rfl ?_
  refine z_aload_n (pc := 1) hZ 1 dR_divide_1 rfl rfl ?_
  refine z_callS (pc := 2) (As := [.ref a0, .ref a1]) (rest := []) hZ (cR_hasNoNumber l D tys X LP f a0 h_a0 a1 h_a1) zyR_hasNoNumber (z_goodS ml_R_17 st_R_hasNoNumber in_R co_R_hasNoNumber) rfl rfl (by decide) rfl rfl (Nat.le_of_ble_eq_true rfl) ⟨Nat.zero_le _, Nat.zero_le _⟩ dR_divide_2 (z_ki (fun r2_1 w1 tys1 hp => ?_))
  obtain ⟨rfl, rfl, p2_1⟩ := hp
  have J22 : Z 0 0 tys 22 [(0, .ref a0)] [] (X ++ PL LP f) := by
    refine z_aload_n (pc := 22) hZ 0 dR_divide_22 rfl rfl ?_
    refine z_iconst (pc := 23) hZ 5 dR_divide_23 (by decide) ?_
    obtain ⟨q24_2, hq24_2⟩ := zp_at (X := X) (f := f) h_a0
    refine z_callVN (pc := 24) (As := [.int 5]) (rest := []) hZ (cV_setSpecial l D tys X LP f a0 h_a0 5) zyV_setSpecial (z_good co_V_setSpecial) nl_R_21 (zb in_V) (zb im_V_setSpecial) (zb se_V_setSpecial) q24_2 hq24_2 rfl rfl rfl (by decide) rfl rfl (Nat.le_of_ble_eq_true rfl) ⟨Nat.zero_le _, Nat.zero_le _⟩ dR_divide_24 (z_kv (fun w1 tys1 hp => ?_))
    obtain ⟨f24_2, rfl, rfl, p24_2⟩ := hp
    refine z_goto (pc := 27) hZ 104 dR_divide_27 (by decide) ?_
    exact z_retv (pc := 104) hZ dR_divide_104 rfl ⟨rfl, _, rfl, rfl, (by trivial)⟩
  refine z_if_ne (pc := 5) hZ 22 dR_divide_5 (by decide) (fun c5_3 => ?_) (fun c5_3 => ?_)
  · exact z_sub (pc := 22) hZ [0] rfl (J22 )
  · refine z_aload_n (pc := 8) hZ 0 dR_divide_8 rfl rfl ?_
    obtain ⟨q9_4, hq9_4⟩ := zp_at (X := X) (f := f) h_a0
    refine z_callVN (pc := 9) (As := []) (rest := []) hZ (cV_isInfinite l D tys X LP f a0 h_a0) zyV_isInfinite (z_good co_V_isInfinite) nl_R_25 (zb in_V) (zb im_V_isInfinite) (zb se_V_isInfinite) q9_4 hq9_4 rfl rfl rfl (by decide) rfl rfl (Nat.le_of_ble_eq_true rfl) ⟨Nat.zero_le _, Nat.zero_le _⟩ dR_divide_9 (z_ki (fun r9_4 w1 tys1 hp => ?_))
    obtain ⟨rfl, rfl, p9_4⟩ := hp
    have J30 : Z 0 0 tys 30 [(0, .ref a0), (1, .ref a1)] [] (X ++ PL LP f) := by
      refine z_aload_n (pc := 30) hZ 1 dR_divide_30 rfl rfl ?_
      obtain ⟨q31_5, hq31_5⟩ := zp_at (X := X) (f := f) h_a1
      refine z_callVN (pc := 31) (As := []) (rest := []) hZ (cV_isInfinite l D tys X LP f a1 h_a1) zyV_isInfinite (z_good co_V_isInfinite) nl_R_25 (zb in_V) (zb im_V_isInfinite) (zb se_V_isInfinite) q31_5 hq31_5 rfl rfl rfl (by decide) rfl rfl (Nat.le_of_ble_eq_true rfl) ⟨Nat.zero_le _, Nat.zero_le _⟩ dR_divide_31 (z_ki (fun r31_5 w1 tys1 hp => ?_))
      obtain ⟨rfl, rfl, p31_5⟩ := hp
      refine z_if_eq (pc := 34) hZ 44 dR_divide_34 (by decide) (fun c34_6 => ?_) (fun c34_6 => ?_)
      · refine z_aload_n (pc := 44) hZ 1 dR_divide_44 rfl rfl ?_
        refine z_pg1N (pc := 45) hZ h_a1 uc_V nf_R_29 dR_divide_45 (fun v45_7 ev45_7 => ?_)
        refine z_lconst (pc := 48) hZ 0 dR_divide_48 (by decide) ?_
        refine z_lif_ne (pc := 49) hZ 60 dR_divide_49 dR_divide_50 (by decide) (fun c50_8 => ?_) (fun c50_8 => ?_)
        · refine z_aload_n (pc := 60) hZ 0 dR_divide_60 rfl rfl ?_
          obtain ⟨q61_9, hq61_9⟩ := zp_at (X := X) (f := f) h_a0
          refine z_callVN (pc := 61) (As := []) (rest := []) hZ (cV_isInfinite l D tys X LP f a0 h_a0) zyV_isInfinite (z_good co_V_isInfinite) nl_R_25 (zb in_V) (zb im_V_isInfinite) (zb se_V_isInfinite) q61_9 hq61_9 rfl rfl rfl (by decide) rfl rfl (Nat.le_of_ble_eq_true rfl) ⟨Nat.zero_le _, Nat.zero_le _⟩ dR_divide_61 (z_ki (fun r61_9 w1 tys1 hp => ?_))
          obtain ⟨rfl, rfl, p61_9⟩ := hp
          refine z_if_eq (pc := 64) hZ 90 dR_divide_64 (by decide) (fun c64_10 => ?_) (fun c64_10 => ?_)
          · refine z_aload_n (pc := 90) hZ 0 dR_divide_90 rfl rfl ?_
            refine z_pg1N (pc := 91) hZ h_a0 uc_V nf_R_29 dR_divide_91 (fun v91_11 ev91_11 => ?_)
            refine z_lconst (pc := 94) hZ 0 dR_divide_94 (by decide) ?_
            refine z_lif_eq (pc := 95) hZ 104 dR_divide_95 dR_divide_96 (by decide) (fun c96_12 => ?_) (fun c96_12 => ?_)
            · exact z_retv (pc := 104) hZ dR_divide_104 rfl ⟨rfl, _, rfl, rfl, (by trivial)⟩
            · refine z_aload_n (pc := 99) hZ 0 dR_divide_99 rfl rfl ?_
              refine z_aload_n (pc := 100) hZ 1 dR_divide_100 rfl rfl ?_
              refine z_callS (pc := 101) (As := [.ref a0, .ref a1]) (rest := []) hZ (cR_divideFinite l D tys X LP f a0 h_a0 a1 h_a1) zyR_divideFinite (z_goodS ml_R_92 st_R_divideFinite in_R co_R_divideFinite) rfl rfl (by decide) rfl rfl (Nat.le_of_ble_eq_true rfl) ⟨Nat.zero_le _, Nat.zero_le _⟩ dR_divide_101 (z_kv (fun w1 tys1 hp => ?_))
              obtain ⟨f101_13, rfl, rfl, p101_13⟩ := hp
              exact z_retv (pc := 104) hZ dR_divide_104 rfl ⟨rfl, _, rfl, rfl, (by trivial)⟩
          · refine z_aload_n (pc := 67) hZ 0 dR_divide_67 rfl rfl ?_
            refine z_aload_n (pc := 68) hZ 0 dR_divide_68 rfl rfl ?_
            obtain ⟨q69_14, hq69_14⟩ := zp_at (X := X) (f := f) h_a0
            refine z_callVN (pc := 69) (As := []) (rest := [.ref a0]) hZ (cV_sign l D tys X LP f a0 h_a0) zyV_sign (z_good co_V_sign) nl_R_60 (zb in_V) (zb im_V_sign) (zb se_V_sign) q69_14 hq69_14 rfl rfl rfl (by decide) rfl rfl (Nat.le_of_ble_eq_true rfl) ⟨Nat.zero_le _, Nat.zero_le _⟩ dR_divide_69 (z_ki (fun r69_14 w1 tys1 hp => ?_))
            obtain ⟨rfl, rfl, p69_14⟩ := hp
            refine z_aload_n (pc := 72) hZ 1 dR_divide_72 rfl rfl ?_
            obtain ⟨q73_15, hq73_15⟩ := zp_at (X := X) (f := f) h_a1
            refine z_callVN (pc := 73) (As := []) (rest := [.int r69_14, .ref a0]) hZ (cV_sign l D tys X LP f a1 h_a1) zyV_sign (z_good co_V_sign) nl_R_60 (zb in_V) (zb im_V_sign) (zb se_V_sign) q73_15 hq73_15 rfl rfl rfl (by decide) rfl rfl (Nat.le_of_ble_eq_true rfl) ⟨Nat.zero_le _, Nat.zero_le _⟩ dR_divide_73 (z_ki (fun r73_15 w1 tys1 hp => ?_))
            obtain ⟨rfl, rfl, p73_15⟩ := hp
            have J84 : ∀ (s0_84 : Int32), Z 0 0 tys 84 [] [.int s0_84, .ref a0] (X ++ PL LP f) := by
              intro s0_84
              obtain ⟨q84_16, hq84_16⟩ := zp_at (X := X) (f := f) h_a0
              refine z_callVN (pc := 84) (As := [.int s0_84]) (rest := []) hZ (cV_setInfinity l D tys X LP f a0 h_a0 s0_84) zyV_setInfinity (z_good co_V_setInfinity) nl_R_72 (zb in_V) (zb im_V_setInfinity) (zb se_V_setInfinity) q84_16 hq84_16 rfl rfl rfl (by decide) rfl rfl (Nat.le_of_ble_eq_true rfl) ⟨Nat.zero_le _, Nat.zero_le _⟩ dR_divide_84 (z_kv (fun w1 tys1 hp => ?_))
              obtain ⟨f84_16, rfl, rfl, p84_16⟩ := hp
              refine z_goto (pc := 87) hZ 104 dR_divide_87 (by decide) ?_
              exact z_retv (pc := 104) hZ dR_divide_104 rfl ⟨rfl, _, rfl, rfl, (by trivial)⟩
            refine z_icmp_eq (pc := 76) hZ 83 dR_divide_76 (by decide) (fun c76_17 => ?_) (fun c76_17 => ?_)
            · refine z_iconst (pc := 83) hZ 0 dR_divide_83 (by decide) ?_
              exact z_sub (pc := 84) hZ [] rfl (J84 0)
            · refine z_iconst (pc := 79) hZ 1 dR_divide_79 (by decide) ?_
              refine z_goto (pc := 80) hZ 84 dR_divide_80 (by decide) ?_
              exact z_sub (pc := 84) hZ [] rfl (J84 1)
        · refine z_aload_n (pc := 53) hZ 0 dR_divide_53 rfl rfl ?_
          refine z_callS (pc := 54) (As := [.ref a0]) (rest := []) hZ (cR_divideByZero l D tys X LP f a0 h_a0) zyR_divideByZero (z_goodS ml_R_89 st_R_divideByZero in_R co_R_divideByZero) rfl rfl (by decide) rfl rfl (Nat.le_of_ble_eq_true rfl) ⟨Nat.zero_le _, Nat.zero_le _⟩ dR_divide_54 (z_kv (fun w1 tys1 hp => ?_))
          obtain ⟨f54_18, rfl, rfl, p54_18⟩ := hp
          refine z_goto (pc := 57) hZ 104 dR_divide_57 (by decide) ?_
          exact z_retv (pc := 104) hZ dR_divide_104 rfl ⟨rfl, _, rfl, rfl, (by trivial)⟩
      · refine z_aload_n (pc := 37) hZ 0 dR_divide_37 rfl rfl ?_
        obtain ⟨q38_19, hq38_19⟩ := zp_at (X := X) (f := f) h_a0
        refine z_callVN (pc := 38) (As := []) (rest := []) hZ (cV_setZero l D tys X LP f a0 h_a0) zyV_setZero (z_good co_V_setZero) nl_R_86 (zb in_V) (zb im_V_setZero) (zb se_V_setZero) q38_19 hq38_19 rfl rfl rfl (by decide) rfl rfl (Nat.le_of_ble_eq_true rfl) ⟨Nat.zero_le _, Nat.zero_le _⟩ dR_divide_38 (z_kv (fun w1 tys1 hp => ?_))
        obtain ⟨f38_19, rfl, rfl, p38_19⟩ := hp
        refine z_goto (pc := 41) hZ 104 dR_divide_41 (by decide) ?_
        exact z_retv (pc := 104) hZ dR_divide_104 rfl ⟨rfl, _, rfl, rfl, (by trivial)⟩
    refine z_if_eq (pc := 12) hZ 30 dR_divide_12 (by decide) (fun c12_20 => ?_) (fun c12_20 => ?_)
    · exact z_sub (pc := 30) hZ [0, 1] rfl (J30 )
    · refine z_aload_n (pc := 15) hZ 1 dR_divide_15 rfl rfl ?_
      obtain ⟨q16_21, hq16_21⟩ := zp_at (X := X) (f := f) h_a1
      refine z_callVN (pc := 16) (As := []) (rest := []) hZ (cV_isInfinite l D tys X LP f a1 h_a1) zyV_isInfinite (z_good co_V_isInfinite) nl_R_25 (zb in_V) (zb im_V_isInfinite) (zb se_V_isInfinite) q16_21 hq16_21 rfl rfl rfl (by decide) rfl rfl (Nat.le_of_ble_eq_true rfl) ⟨Nat.zero_le _, Nat.zero_le _⟩ dR_divide_16 (z_ki (fun r16_21 w1 tys1 hp => ?_))
      obtain ⟨rfl, rfl, p16_21⟩ := hp
      refine z_if_eq (pc := 19) hZ 30 dR_divide_19 (by decide) (fun c19_22 => ?_) (fun c19_22 => ?_)
      · exact z_sub (pc := 30) hZ [0, 1] rfl (J30 )
      · exact z_sub (pc := 22) hZ [0] rfl (J22 )
set_option maxHeartbeats 4000000 in
set_option maxRecDepth 100000 in
theorem cR_remainderAbove (l : Launch) (D : va_G) (tys : zT) (w : va_W) (p0 : Int64) (p1 : Int32) (p2 : Int64) : zM l D vwCl zNF zNM yR_remainderAbove wsR_remainderAbove { frames := 1, cells := 0, slots := 0, locals := 21 } [.long p0, .int p1, .long p2] (w) tys (qL (fun r w' tys' => w = w' ∧ tys = tys' ∧ (True))) := by
  refine z_met (cc := bR_remainderAbove) (maxL := 8) (ret := (some .long)) (isI := false) (own := RR) (by decide +kernel) rfl rfl (fun h => by cases h) (Nat.le_of_ble_eq_true rfl) (fun Z hZ => ?_)
  show Z 0 0 tys 0 [(0, .long p0), (2, .int p1), (3, .long p2)] [] (w)
  refine z_lload_n (pc := 0) hZ 2 dR_remainderAbove_0 rfl rfl ?_
  refine z_lconst (pc := 1) hZ 0 dR_remainderAbove_1 (by decide) ?_
  refine z_lif_ne (pc := 2) hZ 8 dR_remainderAbove_2 dR_remainderAbove_3 (by decide) (fun c3_1 => ?_) (fun c3_1 => ?_)
  · refine z_lload_n (pc := 8) hZ 0 dR_remainderAbove_8 rfl rfl ?_
    refine z_lload_n (pc := 9) hZ 2 dR_remainderAbove_9 rfl rfl ?_
    refine z_lrem (pc := 10) hZ dR_remainderAbove_10 (by assumption) (fun v10_2 ev10_2 => ?_)
    refine z_lstore (pc := 11) hZ [(5, .long v10_2), (0, .long p0), (2, .int p1), (3, .long p2)] dR_remainderAbove_11 (by decide) rfl ?_
    refine z_iload_n (pc := 13) hZ 2 dR_remainderAbove_13 rfl rfl ?_
    refine z_istore (pc := 14) hZ [(7, .int p1), (5, .long v10_2), (0, .long p0), (2, .int p1), (3, .long p2)] dR_remainderAbove_14 (by decide) rfl ?_
    have L16 : ∀ (N16 : Nat) (x7_16 : Int32) (x5_16 : Int64), x7_16.toInt.toNat < N16 → Z 0 0 tys 16 [(7, .int x7_16), (5, .long x5_16), (3, .long p2)] [] (w) := by
      intro N16
      induction N16 with
      | zero => intro x7_16 x5_16 m16; exact absurd m16 (Nat.not_lt_zero _)
      | succ N16 ih16 =>
        intro x7_16 x5_16 m16
        refine z_iload (pc := 16) hZ 0 dR_remainderAbove_16 rfl ?_
        refine z_if_le (pc := 18) hZ 41 dR_remainderAbove_18 (by decide) (fun c18_3 => ?_) (fun c18_3 => ?_)
        · refine z_lload (pc := 41) hZ 1 dR_remainderAbove_41 rfl ?_
          exact z_retl (pc := 43) hZ dR_remainderAbove_43 rfl ⟨_, rfl, rfl, rfl, (by trivial)⟩
        · refine z_lload (pc := 21) hZ 1 dR_remainderAbove_21 rfl ?_
          refine z_iload (pc := 23) hZ 0 dR_remainderAbove_23 rfl ?_
          refine z_bipush (pc := 25) hZ 10 dR_remainderAbove_25 (by decide) ?_
          refine z_mmin (pc := 27) hZ (zb ml_R_80) (zb st_JM_min) (zb in_Math) (zb co_JM_min) (by decide) (Nat.le_of_ble_eq_true rfl) (Nat.zero_le _) (Nat.zero_le _) dR_remainderAbove_27 (fun v27_4 ev27_4 => ?_)
          refine z_lshl (pc := 30) hZ dR_remainderAbove_30 (fun v30_5 ev30_5 => ?_)
          refine z_lload_n (pc := 31) hZ 2 dR_remainderAbove_31 rfl rfl ?_
          refine z_lrem (pc := 32) hZ dR_remainderAbove_32 (by assumption) (fun v32_6 ev32_6 => ?_)
          refine z_lstore (pc := 33) hZ [(5, .long v32_6), (7, .int x7_16), (3, .long p2)] dR_remainderAbove_33 (by decide) rfl ?_
          refine z_iinc (pc := 35) hZ 1 (fun v9 => [(7, .int v9), (5, .long v32_6), (3, .long p2)]) dR_remainderAbove_35 rfl (by decide) (fun _ => rfl) (fun v35_7 ev35_7 => ?_)
          refine z_goto (pc := 38) hZ 16 dR_remainderAbove_38 (by decide) ?_
          exact z_sub (pc := 16) hZ [0, 1, 2] rfl (ih16 v35_7 v32_6 (by exact Nat.lt_of_lt_of_le (dec_dn (x := x7_16) (-10) (by decide) (by decide) (by assumption) (by assumption)) (Nat.le_of_lt_succ m16)))
    exact z_sub (pc := 16) hZ [0, 1, 4] rfl (L16 _ p1 v10_2 (Nat.lt_succ_self _))
  · refine z_lconst (pc := 6) hZ 0 dR_remainderAbove_6 (by decide) ?_
    exact z_retl (pc := 7) hZ dR_remainderAbove_7 rfl ⟨_, rfl, rfl, rfl, (by trivial)⟩
set_option maxHeartbeats 4000000 in
set_option maxRecDepth 100000 in
theorem cR_remainderOfSizes (l : Launch) (D : va_G) (tys : zT) (X : va_W) (LP : List Nat) (f : Nat → V3) (a0 : Nat) (h_a0 : a0 ∈ LP) (a1 : Nat) (h_a1 : a1 ∈ LP) : zM l D vwCl zNF zNM yR_remainderOfSizes wsR_remainderOfSizes { frames := 3, cells := 0, slots := 0, locals := 74 } [.ref a0, .ref a1] (X ++ PL LP f) tys (qV (fun w' tys' => ∃ f' : Nat → V3, X ++ PL LP f' = w' ∧ tys = tys' ∧ (True))) := by
  refine z_met (cc := bR_remainderOfSizes) (maxL := 5) (ret := none) (isI := false) (own := RR) (by decide +kernel) rfl rfl (fun h => by cases h) (Nat.le_of_ble_eq_true rfl) (fun Z hZ => ?_)
  show Z 0 0 tys 0 [(0, .ref a0), (1, .ref a1)] [] (X ++ PL LP f)
  refine z_aload_n (pc := 0) hZ 0 dR_remainderOfSizes_0 rfl rfl ?_
  refine z_pg2N (pc := 1) hZ h_a0 uc_V nf_R_57 dR_remainderOfSizes_1 (fun v1_1 ev1_1 => ?_)
  refine z_aload_n (pc := 4) hZ 1 dR_remainderOfSizes_4 rfl rfl ?_
  refine z_pg2N (pc := 5) hZ h_a1 uc_V nf_R_57 dR_remainderOfSizes_5 (fun v5_2 ev5_2 => ?_)
  refine z_isub (pc := 8) hZ dR_remainderOfSizes_8 (fun v8_3 ev8_3 => ?_)
  refine z_istore_n (pc := 9) hZ [(2, .int v8_3), (0, .ref a0), (1, .ref a1)] dR_remainderOfSizes_9 rfl (by decide) rfl ?_
  refine z_iload_n (pc := 10) hZ 0 dR_remainderOfSizes_10 rfl rfl ?_
  refine z_if_lt (pc := 11) hZ 54 dR_remainderOfSizes_11 (by decide) (fun c11_4 => ?_) (fun c11_4 => ?_)
  · refine z_iload_n (pc := 54) hZ 0 dR_remainderOfSizes_54 rfl rfl ?_
    refine z_ineg (pc := 55) hZ dR_remainderOfSizes_55 (fun v55_5 ev55_5 => ?_)
    refine z_aload_n (pc := 56) hZ 2 dR_remainderOfSizes_56 rfl rfl ?_
    obtain ⟨q57_6, hq57_6⟩ := zp_at (X := X) (f := f) h_a1
    refine z_callVN (pc := 57) (As := []) (rest := [.int v55_5]) hZ (cV_size l D tys X LP f a1 h_a1) zyV_size (z_good co_V_size) nl_R_47 (zb in_V) (zb im_V_size) (zb se_V_size) q57_6 hq57_6 rfl rfl rfl (by decide) rfl rfl (Nat.le_of_ble_eq_true rfl) ⟨Nat.zero_le _, Nat.zero_le _⟩ dR_remainderOfSizes_57 (z_kl (fun r57_6 w1 tys1 hp => ?_))
    obtain ⟨rfl, rfl, p57_6⟩ := hp
    refine z_callS (pc := 60) (As := [.long r57_6]) (rest := [.int v55_5]) hZ (cJL_numberOfLeadingZeros l D tys (X ++ PL LP f) r57_6) zyJL_numberOfLeadingZeros (z_goodS ml_R_51 st_JL_numberOfLeadingZeros in_JL co_JL_numberOfLeadingZeros) rfl rfl (by decide) rfl rfl (Nat.le_of_ble_eq_true rfl) ⟨Nat.zero_le _, Nat.zero_le _⟩ dR_remainderOfSizes_60 (z_ki (fun r60_7 w1 tys1 hp => ?_))
    obtain ⟨rfl, rfl, p60_7⟩ := hp
    refine z_icmp_ge (pc := 63) hZ 109 dR_remainderOfSizes_63 (by decide) (fun c63_8 => ?_) (fun c63_8 => ?_)
    · exact z_retv (pc := 109) hZ dR_remainderOfSizes_109 rfl ⟨rfl, _, rfl, rfl, (by trivial)⟩
    · refine z_aload_n (pc := 66) hZ 2 dR_remainderOfSizes_66 rfl rfl ?_
      obtain ⟨q67_9, hq67_9⟩ := zp_at (X := X) (f := f) h_a1
      refine z_callVN (pc := 67) (As := []) (rest := []) hZ (cV_size l D tys X LP f a1 h_a1) zyV_size (z_good co_V_size) nl_R_47 (zb in_V) (zb im_V_size) (zb se_V_size) q67_9 hq67_9 rfl rfl rfl (by decide) rfl rfl (Nat.le_of_ble_eq_true rfl) ⟨Nat.zero_le _, Nat.zero_le _⟩ dR_remainderOfSizes_67 (z_kl (fun r67_9 w1 tys1 hp => ?_))
      obtain ⟨rfl, rfl, p67_9⟩ := hp
      refine z_iload_n (pc := 70) hZ 0 dR_remainderOfSizes_70 rfl rfl ?_
      refine z_ineg (pc := 71) hZ dR_remainderOfSizes_71 (fun v71_10 ev71_10 => ?_)
      refine z_lshl (pc := 72) hZ dR_remainderOfSizes_72 (fun v72_11 ev72_11 => ?_)
      refine z_lstore_n (pc := 73) hZ [(3, .long v72_11), (2, .int v8_3), (0, .ref a0), (1, .ref a1)] dR_remainderOfSizes_73 rfl (by decide) rfl ?_
      refine z_lload_n (pc := 74) hZ 0 dR_remainderOfSizes_74 rfl rfl ?_
      refine z_lconst (pc := 75) hZ 0 dR_remainderOfSizes_75 (by decide) ?_
      refine z_lif_eq (pc := 76) hZ 109 dR_remainderOfSizes_76 dR_remainderOfSizes_77 (by decide) (fun c77_12 => ?_) (fun c77_12 => ?_)
      · exact z_retv (pc := 109) hZ dR_remainderOfSizes_109 rfl ⟨rfl, _, rfl, rfl, (by trivial)⟩
      · refine z_aload_n (pc := 80) hZ 2 dR_remainderOfSizes_80 rfl rfl ?_
        refine z_aload_n (pc := 81) hZ 2 dR_remainderOfSizes_81 rfl rfl ?_
        refine z_pg1N (pc := 82) hZ h_a0 uc_V nf_R_29 dR_remainderOfSizes_82 (fun v82_13 ev82_13 => ?_)
        refine z_lconst (pc := 85) hZ 0 dR_remainderOfSizes_85 (by decide) ?_
        have J95 : ∀ (s0_95 : Int32), Z 0 0 tys 95 [(3, .long v72_11), (0, .ref a0)] [.int s0_95, .ref a0] (X ++ PL LP f) := by
          intro s0_95
          refine z_aload_n (pc := 95) hZ 1 dR_remainderOfSizes_95 rfl rfl ?_
          obtain ⟨q96_14, hq96_14⟩ := zp_at (X := X) (f := f) h_a0
          refine z_callVN (pc := 96) (As := []) (rest := [.int s0_95, .ref a0]) hZ (cV_size l D tys X LP f a0 h_a0) zyV_size (z_good co_V_size) nl_R_47 (zb in_V) (zb im_V_size) (zb se_V_size) q96_14 hq96_14 rfl rfl rfl (by decide) rfl rfl (Nat.le_of_ble_eq_true rfl) ⟨Nat.zero_le _, Nat.zero_le _⟩ dR_remainderOfSizes_96 (z_kl (fun r96_14 w1 tys1 hp => ?_))
          obtain ⟨rfl, rfl, p96_14⟩ := hp
          refine z_lload_n (pc := 99) hZ 0 dR_remainderOfSizes_99 rfl rfl ?_
          refine z_lrem (pc := 100) hZ dR_remainderOfSizes_100 (by assumption) (fun v100_15 ev100_15 => ?_)
          refine z_iconst (pc := 101) hZ 0 dR_remainderOfSizes_101 (by decide) ?_
          refine z_aload_n (pc := 102) hZ 1 dR_remainderOfSizes_102 rfl rfl ?_
          refine z_pg2N (pc := 103) hZ h_a0 uc_V nf_R_57 dR_remainderOfSizes_103 (fun v103_16 ev103_16 => ?_)
          obtain ⟨q106_17, hq106_17⟩ := zp_at (X := X) (f := f) h_a0
          refine z_callVN (pc := 106) (As := [.int s0_95, .long v100_15, .int 0, .int v103_16]) (rest := []) hZ (cV_setNearest l D tys X LP f a0 h_a0 s0_95 v100_15 0 v103_16) zyV_setNearest (z_good co_V_setNearest) nl_R_64 (zb in_V) (zb im_V_setNearest) (zb se_V_setNearest) q106_17 hq106_17 rfl rfl rfl (by decide) rfl rfl (Nat.le_of_ble_eq_true rfl) ⟨Nat.zero_le _, Nat.zero_le _⟩ dR_remainderOfSizes_106 (z_kv (fun w1 tys1 hp => ?_))
          obtain ⟨f106_17, rfl, rfl, p106_17⟩ := hp
          exact z_retv (pc := 109) hZ dR_remainderOfSizes_109 rfl ⟨rfl, _, rfl, rfl, (by trivial)⟩
        refine z_lif_ge (pc := 86) hZ 94 dR_remainderOfSizes_86 dR_remainderOfSizes_87 (by decide) (fun c87_18 => ?_) (fun c87_18 => ?_)
        · refine z_iconst (pc := 94) hZ 0 dR_remainderOfSizes_94 (by decide) ?_
          exact z_sub (pc := 95) hZ [0, 2] rfl (J95 0)
        · refine z_iconst (pc := 90) hZ 1 dR_remainderOfSizes_90 (by decide) ?_
          refine z_goto (pc := 91) hZ 95 dR_remainderOfSizes_91 (by decide) ?_
          exact z_sub (pc := 95) hZ [0, 2] rfl (J95 1)
  · refine z_aload_n (pc := 14) hZ 1 dR_remainderOfSizes_14 rfl rfl ?_
    obtain ⟨q15_19, hq15_19⟩ := zp_at (X := X) (f := f) h_a0
    refine z_callVN (pc := 15) (As := []) (rest := []) hZ (cV_size l D tys X LP f a0 h_a0) zyV_size (z_good co_V_size) nl_R_47 (zb in_V) (zb im_V_size) (zb se_V_size) q15_19 hq15_19 rfl rfl rfl (by decide) rfl rfl (Nat.le_of_ble_eq_true rfl) ⟨Nat.zero_le _, Nat.zero_le _⟩ dR_remainderOfSizes_15 (z_kl (fun r15_19 w1 tys1 hp => ?_))
    obtain ⟨rfl, rfl, p15_19⟩ := hp
    refine z_iload_n (pc := 18) hZ 0 dR_remainderOfSizes_18 rfl rfl ?_
    refine z_aload_n (pc := 19) hZ 2 dR_remainderOfSizes_19 rfl rfl ?_
    obtain ⟨q20_20, hq20_20⟩ := zp_at (X := X) (f := f) h_a1
    refine z_callVN (pc := 20) (As := []) (rest := [.int v8_3, .long r15_19]) hZ (cV_size l D tys X LP f a1 h_a1) zyV_size (z_good co_V_size) nl_R_47 (zb in_V) (zb im_V_size) (zb se_V_size) q20_20 hq20_20 rfl rfl rfl (by decide) rfl rfl (Nat.le_of_ble_eq_true rfl) ⟨Nat.zero_le _, Nat.zero_le _⟩ dR_remainderOfSizes_20 (z_kl (fun r20_20 w1 tys1 hp => ?_))
    obtain ⟨rfl, rfl, p20_20⟩ := hp
    refine z_callS (pc := 23) (As := [.long r15_19, .int v8_3, .long r20_20]) (rest := []) hZ (cR_remainderAbove l D tys (X ++ PL LP f) r15_19 v8_3 r20_20) zyR_remainderAbove (z_goodS ml_R_99 st_R_remainderAbove in_R co_R_remainderAbove) rfl rfl (by decide) rfl rfl (Nat.le_of_ble_eq_true rfl) ⟨Nat.zero_le _, Nat.zero_le _⟩ dR_remainderOfSizes_23 (z_kl (fun r23_21 w1 tys1 hp => ?_))
    obtain ⟨rfl, rfl, p23_21⟩ := hp
    refine z_lstore_n (pc := 26) hZ [(3, .long r23_21), (2, .int v8_3), (0, .ref a0), (1, .ref a1)] dR_remainderOfSizes_26 rfl (by decide) rfl ?_
    refine z_aload_n (pc := 27) hZ 2 dR_remainderOfSizes_27 rfl rfl ?_
    refine z_aload_n (pc := 28) hZ 2 dR_remainderOfSizes_28 rfl rfl ?_
    refine z_pg1N (pc := 29) hZ h_a0 uc_V nf_R_29 dR_remainderOfSizes_29 (fun v29_22 ev29_22 => ?_)
    refine z_lconst (pc := 32) hZ 0 dR_remainderOfSizes_32 (by decide) ?_
    have J42 : ∀ (s0_42 : Int32), Z 0 0 tys 42 [(3, .long r23_21), (1, .ref a1)] [.int s0_42, .ref a0] (X ++ PL LP f) := by
      intro s0_42
      refine z_lload_n (pc := 42) hZ 0 dR_remainderOfSizes_42 rfl rfl ?_
      refine z_iconst (pc := 43) hZ 0 dR_remainderOfSizes_43 (by decide) ?_
      refine z_aload_n (pc := 44) hZ 1 dR_remainderOfSizes_44 rfl rfl ?_
      refine z_pg2N (pc := 45) hZ h_a1 uc_V nf_R_57 dR_remainderOfSizes_45 (fun v45_23 ev45_23 => ?_)
      obtain ⟨q48_24, hq48_24⟩ := zp_at (X := X) (f := f) h_a0
      refine z_callVN (pc := 48) (As := [.int s0_42, .long r23_21, .int 0, .int v45_23]) (rest := []) hZ (cV_setNearest l D tys X LP f a0 h_a0 s0_42 r23_21 0 v45_23) zyV_setNearest (z_good co_V_setNearest) nl_R_64 (zb in_V) (zb im_V_setNearest) (zb se_V_setNearest) q48_24 hq48_24 rfl rfl rfl (by decide) rfl rfl (Nat.le_of_ble_eq_true rfl) ⟨Nat.zero_le _, Nat.zero_le _⟩ dR_remainderOfSizes_48 (z_kv (fun w1 tys1 hp => ?_))
      obtain ⟨f48_24, rfl, rfl, p48_24⟩ := hp
      refine z_goto (pc := 51) hZ 109 dR_remainderOfSizes_51 (by decide) ?_
      exact z_retv (pc := 109) hZ dR_remainderOfSizes_109 rfl ⟨rfl, _, rfl, rfl, (by trivial)⟩
    refine z_lif_ge (pc := 33) hZ 41 dR_remainderOfSizes_33 dR_remainderOfSizes_34 (by decide) (fun c34_25 => ?_) (fun c34_25 => ?_)
    · refine z_iconst (pc := 41) hZ 0 dR_remainderOfSizes_41 (by decide) ?_
      exact z_sub (pc := 42) hZ [0, 3] rfl (J42 0)
    · refine z_iconst (pc := 37) hZ 1 dR_remainderOfSizes_37 (by decide) ?_
      refine z_goto (pc := 38) hZ 42 dR_remainderOfSizes_38 (by decide) ?_
      exact z_sub (pc := 42) hZ [0, 3] rfl (J42 1)
set_option maxHeartbeats 4000000 in
set_option maxRecDepth 100000 in
theorem cR_remainder (l : Launch) (D : va_G) (tys : zT) (X : va_W) (LP : List Nat) (f : Nat → V3) (a0 : Nat) (h_a0 : a0 ∈ LP) (a1 : Nat) (h_a1 : a1 ∈ LP) : zM l D vwCl zNF zNM yR_remainder wsR_remainder { frames := 4, cells := 0, slots := 0, locals := 107 } [.ref a0, .ref a1] (X ++ PL LP f) tys (qV (fun w' tys' => ∃ f' : Nat → V3, X ++ PL LP f' = w' ∧ tys = tys' ∧ (True))) := by
  refine z_met (cc := bR_remainder) (maxL := 2) (ret := none) (isI := false) (own := RR) (by decide +kernel) rfl rfl (fun h => by cases h) (Nat.le_of_ble_eq_true rfl) (fun Z hZ => ?_)
  show Z 0 0 tys 0 [(0, .ref a0), (1, .ref a1)] [] (X ++ PL LP f)
  refine z_aload_n (pc := 0) hZ 0 dR_remainder_0 rfl rfl ?_
  refine z_aload_n (pc := 1) hZ 1 dR_remainder_1 rfl rfl ?_
  refine z_callS (pc := 2) (As := [.ref a0, .ref a1]) (rest := []) hZ (cR_hasNoNumber l D tys X LP f a0 h_a0 a1 h_a1) zyR_hasNoNumber (z_goodS ml_R_17 st_R_hasNoNumber in_R co_R_hasNoNumber) rfl rfl (by decide) rfl rfl (Nat.le_of_ble_eq_true rfl) ⟨Nat.zero_le _, Nat.zero_le _⟩ dR_remainder_2 (z_ki (fun r2_1 w1 tys1 hp => ?_))
  obtain ⟨rfl, rfl, p2_1⟩ := hp
  have J22 : Z 0 0 tys 22 [(0, .ref a0)] [] (X ++ PL LP f) := by
    refine z_aload_n (pc := 22) hZ 0 dR_remainder_22 rfl rfl ?_
    refine z_iconst (pc := 23) hZ 5 dR_remainder_23 (by decide) ?_
    obtain ⟨q24_2, hq24_2⟩ := zp_at (X := X) (f := f) h_a0
    refine z_callVN (pc := 24) (As := [.int 5]) (rest := []) hZ (cV_setSpecial l D tys X LP f a0 h_a0 5) zyV_setSpecial (z_good co_V_setSpecial) nl_R_21 (zb in_V) (zb im_V_setSpecial) (zb se_V_setSpecial) q24_2 hq24_2 rfl rfl rfl (by decide) rfl rfl (Nat.le_of_ble_eq_true rfl) ⟨Nat.zero_le _, Nat.zero_le _⟩ dR_remainder_24 (z_kv (fun w1 tys1 hp => ?_))
    obtain ⟨f24_2, rfl, rfl, p24_2⟩ := hp
    refine z_goto (pc := 27) hZ 88 dR_remainder_27 (by decide) ?_
    exact z_retv (pc := 88) hZ dR_remainder_88 rfl ⟨rfl, _, rfl, rfl, (by trivial)⟩
  refine z_if_ne (pc := 5) hZ 22 dR_remainder_5 (by decide) (fun c5_3 => ?_) (fun c5_3 => ?_)
  · exact z_sub (pc := 22) hZ [0] rfl (J22 )
  · refine z_aload_n (pc := 8) hZ 0 dR_remainder_8 rfl rfl ?_
    obtain ⟨q9_4, hq9_4⟩ := zp_at (X := X) (f := f) h_a0
    refine z_callVN (pc := 9) (As := []) (rest := []) hZ (cV_isInfinite l D tys X LP f a0 h_a0) zyV_isInfinite (z_good co_V_isInfinite) nl_R_25 (zb in_V) (zb im_V_isInfinite) (zb se_V_isInfinite) q9_4 hq9_4 rfl rfl rfl (by decide) rfl rfl (Nat.le_of_ble_eq_true rfl) ⟨Nat.zero_le _, Nat.zero_le _⟩ dR_remainder_9 (z_ki (fun r9_4 w1 tys1 hp => ?_))
    obtain ⟨rfl, rfl, p9_4⟩ := hp
    refine z_if_ne (pc := 12) hZ 22 dR_remainder_12 (by decide) (fun c12_5 => ?_) (fun c12_5 => ?_)
    · exact z_sub (pc := 22) hZ [0] rfl (J22 )
    · refine z_aload_n (pc := 15) hZ 1 dR_remainder_15 rfl rfl ?_
      obtain ⟨q16_6, hq16_6⟩ := zp_at (X := X) (f := f) h_a1
      refine z_callVN (pc := 16) (As := []) (rest := []) hZ (cV_sign l D tys X LP f a1 h_a1) zyV_sign (z_good co_V_sign) nl_R_60 (zb in_V) (zb im_V_sign) (zb se_V_sign) q16_6 hq16_6 rfl rfl rfl (by decide) rfl rfl (Nat.le_of_ble_eq_true rfl) ⟨Nat.zero_le _, Nat.zero_le _⟩ dR_remainder_16 (z_ki (fun r16_6 w1 tys1 hp => ?_))
      obtain ⟨rfl, rfl, p16_6⟩ := hp
      refine z_if_ne (pc := 19) hZ 30 dR_remainder_19 (by decide) (fun c19_7 => ?_) (fun c19_7 => ?_)
      · refine z_aload_n (pc := 30) hZ 1 dR_remainder_30 rfl rfl ?_
        obtain ⟨q31_8, hq31_8⟩ := zp_at (X := X) (f := f) h_a1
        refine z_callVN (pc := 31) (As := []) (rest := []) hZ (cV_isInfinite l D tys X LP f a1 h_a1) zyV_isInfinite (z_good co_V_isInfinite) nl_R_25 (zb in_V) (zb im_V_isInfinite) (zb se_V_isInfinite) q31_8 hq31_8 rfl rfl rfl (by decide) rfl rfl (Nat.le_of_ble_eq_true rfl) ⟨Nat.zero_le _, Nat.zero_le _⟩ dR_remainder_31 (z_ki (fun r31_8 w1 tys1 hp => ?_))
        obtain ⟨rfl, rfl, p31_8⟩ := hp
        refine z_if_eq (pc := 34) hZ 57 dR_remainder_34 (by decide) (fun c34_9 => ?_) (fun c34_9 => ?_)
        · refine z_aload_n (pc := 57) hZ 0 dR_remainder_57 rfl rfl ?_
          refine z_aload_n (pc := 58) hZ 1 dR_remainder_58 rfl rfl ?_
          refine z_callS (pc := 59) (As := [.ref a0, .ref a1]) (rest := []) hZ (cR_remainderOfSizes l D tys X LP f a0 h_a0 a1 h_a1) zyR_remainderOfSizes (z_goodS ml_R_96 st_R_remainderOfSizes in_R co_R_remainderOfSizes) rfl rfl (by decide) rfl rfl (Nat.le_of_ble_eq_true rfl) ⟨Nat.zero_le _, Nat.zero_le _⟩ dR_remainder_59 (z_kv (fun w1 tys1 hp => ?_))
          obtain ⟨f59_10, rfl, rfl, p59_10⟩ := hp
          refine z_aload_n (pc := 62) hZ 0 dR_remainder_62 rfl rfl ?_
          refine z_pg1N (pc := 63) hZ h_a0 uc_V nf_R_29 dR_remainder_63 (fun v63_11 ev63_11 => ?_)
          refine z_lconst (pc := 66) hZ 0 dR_remainder_66 (by decide) ?_
          refine z_lif_eq (pc := 67) hZ 88 dR_remainder_67 dR_remainder_68 (by decide) (fun c68_12 => ?_) (fun c68_12 => ?_)
          · exact z_retv (pc := 88) hZ dR_remainder_88 rfl ⟨rfl, _, rfl, rfl, (by trivial)⟩
          · refine z_aload_n (pc := 71) hZ 0 dR_remainder_71 rfl rfl ?_
            obtain ⟨q72_13, hq72_13⟩ := zp_at (X := X) (f := f59_10) h_a0
            refine z_callVN (pc := 72) (As := []) (rest := []) hZ (cV_sign l D tys X LP f59_10 a0 h_a0) zyV_sign (z_good co_V_sign) nl_R_60 (zb in_V) (zb im_V_sign) (zb se_V_sign) q72_13 hq72_13 rfl rfl rfl (by decide) rfl rfl (Nat.le_of_ble_eq_true rfl) ⟨Nat.zero_le _, Nat.zero_le _⟩ dR_remainder_72 (z_ki (fun r72_13 w1 tys1 hp => ?_))
            obtain ⟨rfl, rfl, p72_13⟩ := hp
            refine z_aload_n (pc := 75) hZ 1 dR_remainder_75 rfl rfl ?_
            obtain ⟨q76_14, hq76_14⟩ := zp_at (X := X) (f := f59_10) h_a1
            refine z_callVN (pc := 76) (As := []) (rest := [.int r72_13]) hZ (cV_sign l D tys X LP f59_10 a1 h_a1) zyV_sign (z_good co_V_sign) nl_R_60 (zb in_V) (zb im_V_sign) (zb se_V_sign) q76_14 hq76_14 rfl rfl rfl (by decide) rfl rfl (Nat.le_of_ble_eq_true rfl) ⟨Nat.zero_le _, Nat.zero_le _⟩ dR_remainder_76 (z_ki (fun r76_14 w1 tys1 hp => ?_))
            obtain ⟨rfl, rfl, p76_14⟩ := hp
            refine z_icmp_eq (pc := 79) hZ 88 dR_remainder_79 (by decide) (fun c79_15 => ?_) (fun c79_15 => ?_)
            · exact z_retv (pc := 88) hZ dR_remainder_88 rfl ⟨rfl, _, rfl, rfl, (by trivial)⟩
            · refine z_aload_n (pc := 82) hZ 0 dR_remainder_82 rfl rfl ?_
              refine z_aload_n (pc := 83) hZ 1 dR_remainder_83 rfl rfl ?_
              refine z_aload_n (pc := 84) hZ 0 dR_remainder_84 rfl rfl ?_
              refine z_callS (pc := 85) (As := [.ref a0, .ref a1, .ref a0]) (rest := []) hZ (cR_addSmaller l D tys X LP f59_10 a0 h_a0 a1 h_a1 a0 h_a0) zyR_addSmaller (z_goodS ml_R_43 st_R_addSmaller in_R co_R_addSmaller) rfl rfl (by decide) rfl rfl (Nat.le_of_ble_eq_true rfl) ⟨Nat.zero_le _, Nat.zero_le _⟩ dR_remainder_85 (z_kv (fun w1 tys1 hp => ?_))
              obtain ⟨f85_16, rfl, rfl, p85_16⟩ := hp
              exact z_retv (pc := 88) hZ dR_remainder_88 rfl ⟨rfl, _, rfl, rfl, (by trivial)⟩
        · refine z_aload_n (pc := 37) hZ 0 dR_remainder_37 rfl rfl ?_
          obtain ⟨q38_17, hq38_17⟩ := zp_at (X := X) (f := f) h_a0
          refine z_callVN (pc := 38) (As := []) (rest := []) hZ (cV_sign l D tys X LP f a0 h_a0) zyV_sign (z_good co_V_sign) nl_R_60 (zb in_V) (zb im_V_sign) (zb se_V_sign) q38_17 hq38_17 rfl rfl rfl (by decide) rfl rfl (Nat.le_of_ble_eq_true rfl) ⟨Nat.zero_le _, Nat.zero_le _⟩ dR_remainder_38 (z_ki (fun r38_17 w1 tys1 hp => ?_))
          obtain ⟨rfl, rfl, p38_17⟩ := hp
          refine z_aload_n (pc := 41) hZ 1 dR_remainder_41 rfl rfl ?_
          obtain ⟨q42_18, hq42_18⟩ := zp_at (X := X) (f := f) h_a1
          refine z_callVN (pc := 42) (As := []) (rest := [.int r38_17]) hZ (cV_sign l D tys X LP f a1 h_a1) zyV_sign (z_good co_V_sign) nl_R_60 (zb in_V) (zb im_V_sign) (zb se_V_sign) q42_18 hq42_18 rfl rfl rfl (by decide) rfl rfl (Nat.le_of_ble_eq_true rfl) ⟨Nat.zero_le _, Nat.zero_le _⟩ dR_remainder_42 (z_ki (fun r42_18 w1 tys1 hp => ?_))
          obtain ⟨rfl, rfl, p42_18⟩ := hp
          refine z_ineg (pc := 45) hZ dR_remainder_45 (fun v45_19 ev45_19 => ?_)
          refine z_icmp_ne (pc := 46) hZ 88 dR_remainder_46 (by decide) (fun c46_20 => ?_) (fun c46_20 => ?_)
          · exact z_retv (pc := 88) hZ dR_remainder_88 rfl ⟨rfl, _, rfl, rfl, (by trivial)⟩
          · refine z_aload_n (pc := 49) hZ 0 dR_remainder_49 rfl rfl ?_
            refine z_aload_n (pc := 50) hZ 1 dR_remainder_50 rfl rfl ?_
            obtain ⟨q51_21, hq51_21⟩ := zp_at (X := X) (f := f) h_a0
            refine z_callVN (pc := 51) (As := [.ref a1]) (rest := []) hZ (cV_become l D tys X LP f a0 h_a0 a1 h_a1) zyV_become (z_good co_V_become) nl_R_33 (zb in_V) (zb im_V_become) (zb se_V_become) q51_21 hq51_21 rfl rfl rfl (by decide) rfl rfl (Nat.le_of_ble_eq_true rfl) ⟨Nat.zero_le _, Nat.zero_le _⟩ dR_remainder_51 (z_kv (fun w1 tys1 hp => ?_))
            obtain ⟨f51_21, rfl, rfl, p51_21⟩ := hp
            refine z_goto (pc := 54) hZ 88 dR_remainder_54 (by decide) ?_
            exact z_retv (pc := 88) hZ dR_remainder_88 rfl ⟨rfl, _, rfl, rfl, (by trivial)⟩
      · exact z_sub (pc := 22) hZ [0] rfl (J22 )
