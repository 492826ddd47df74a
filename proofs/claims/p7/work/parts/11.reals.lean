set_option maxHeartbeats 4000000 in
set_option maxRecDepth 100000 in
theorem cR_hasNoNumber (l : Launch) (D : va_G) (tys : zT) (X : va_W) (LP : List Nat) (f : Nat → V3) (a0 : Nat) (h_a0 : a0 ∈ LP) (a1 : Nat) (h_a1 : a1 ∈ LP) : zM l D vwCl zNF zNM yR_hasNoNumber wsR_hasNoNumber { frames := 0, cells := 0, slots := 0, locals := 0 } [.ref a0, .ref a1] (X ++ PL LP f) tys (qI (fun r w' tys' => X ++ PL LP f = w' ∧ tys = tys' ∧ (HNN r (f a0).1 (f a1).1))) := by
  refine z_met (cc := bR_hasNoNumber) (maxL := 2) (ret := (some .boolean)) (isI := false) (own := RR) (by decide +kernel) rfl rfl (fun h => by cases h) (Nat.le_of_ble_eq_true rfl) (fun Z hZ => ?_)
  show Z 0 0 tys 0 [(0, .ref a0), (1, .ref a1)] [] (X ++ PL LP f)
  refine z_aload_n (pc := 0) hZ 0 dR_hasNoNumber_0 rfl rfl ?_
  refine z_pg0N (pc := 1) hZ h_a0 uc_V nf_R_11 dR_hasNoNumber_1 (fun v1_1 ev1_1 => ?_)
  refine z_iconst (pc := 4) hZ 5 dR_hasNoNumber_4 (by decide) ?_
  refine z_icmp_eq (pc := 5) hZ 16 dR_hasNoNumber_5 (by decide) (fun c5_2 => ?_) (fun c5_2 => ?_)
  · refine z_iconst (pc := 16) hZ 1 dR_hasNoNumber_16 (by decide) ?_
    refine z_goto (pc := 17) hZ 21 dR_hasNoNumber_17 (by decide) ?_
    exact z_reti (pc := 21) hZ dR_hasNoNumber_21 .boolean rfl rfl ⟨_, rfl, rfl, rfl, (by first | exact hnn_1 ev1_1 c5_2 | exact hnn_2 nokey_ nokey_ | exact hnn_0 ev1_1 c5_2 nokey_ nokey_)⟩
  · refine z_aload_n (pc := 8) hZ 1 dR_hasNoNumber_8 rfl rfl ?_
    refine z_pg0N (pc := 9) hZ h_a1 uc_V nf_R_11 dR_hasNoNumber_9 (fun v9_3 ev9_3 => ?_)
    refine z_iconst (pc := 12) hZ 5 dR_hasNoNumber_12 (by decide) ?_
    refine z_icmp_ne (pc := 13) hZ 20 dR_hasNoNumber_13 (by decide) (fun c13_4 => ?_) (fun c13_4 => ?_)
    · refine z_iconst (pc := 20) hZ 0 dR_hasNoNumber_20 (by decide) ?_
      exact z_reti (pc := 21) hZ dR_hasNoNumber_21 .boolean rfl rfl ⟨_, rfl, rfl, rfl, (by first | exact hnn_1 ev1_1 c5_2 | exact hnn_2 ev9_3 c13_4 | exact hnn_0 ev1_1 c5_2 ev9_3 c13_4)⟩
    · refine z_iconst (pc := 16) hZ 1 dR_hasNoNumber_16 (by decide) ?_
      refine z_goto (pc := 17) hZ 21 dR_hasNoNumber_17 (by decide) ?_
      exact z_reti (pc := 21) hZ dR_hasNoNumber_21 .boolean rfl rfl ⟨_, rfl, rfl, rfl, (by first | exact hnn_1 ev1_1 c5_2 | exact hnn_2 ev9_3 c13_4 | exact hnn_0 ev1_1 c5_2 ev9_3 c13_4)⟩
set_option maxHeartbeats 4000000 in
set_option maxRecDepth 100000 in
theorem cR_addSmaller (l : Launch) (D : va_G) (tys : zT) (X : va_W) (LP : List Nat) (f : Nat → V3) (a0 : Nat) (h_a0 : a0 ∈ LP) (a1 : Nat) (h_a1 : a1 ∈ LP) (a2 : Nat) (h_a2 : a2 ∈ LP) : zM l D vwCl zNF zNM yR_addSmaller wsR_addSmaller { frames := 3, cells := 0, slots := 0, locals := 74 } [.ref a0, .ref a1, .ref a2] (X ++ PL LP f) tys (qV (fun w' tys' => ∃ f' : Nat → V3, X ++ PL LP f' = w' ∧ tys = tys' ∧ (∀ A B, CA (f a1) (.inr (.inl A)) → CA (f a2) (.inr (.inl B)) → A ≠ 0 → B ≠ 0 → B.natAbs ≤ A.natAbs → UPD f f' a0 (rnd (decide (A < 0)) (A + B).natAbs false)))) := by
  refine z_met (cc := bR_addSmaller) (maxL := 14) (ret := none) (isI := false) (own := RR) (by decide +kernel) rfl rfl (fun h => by cases h) (Nat.le_of_ble_eq_true rfl) (fun Z hZ => ?_)
  show Z 0 0 tys 0 [(0, .ref a0), (1, .ref a1), (2, .ref a2)] [] (X ++ PL LP f)
  refine z_aload_n (pc := 0) hZ 1 dR_addSmaller_0 rfl rfl ?_
  obtain ⟨q1_1, hq1_1⟩ := zp_at (X := X) (f := f) h_a1
  refine z_callVN (pc := 1) (As := []) (rest := []) hZ (cV_size l D tys X LP f a1 h_a1) zyV_size (z_good co_V_size) nl_R_47 (zb in_V) (zb im_V_size) (zb se_V_size) q1_1 hq1_1 rfl rfl rfl (by decide) rfl rfl (Nat.le_of_ble_eq_true rfl) ⟨Nat.zero_le _, Nat.zero_le _⟩ dR_addSmaller_1 (z_kl (fun r1_1 w1 tys1 hp => ?_))
  obtain ⟨rfl, rfl, p1_1⟩ := hp
  refine z_callS (pc := 4) (As := [.long r1_1]) (rest := []) hZ (cJL_numberOfLeadingZeros l D tys (X ++ PL LP f) r1_1) zyJL_numberOfLeadingZeros (z_goodS ml_R_51 st_JL_numberOfLeadingZeros in_JL co_JL_numberOfLeadingZeros) rfl rfl (by decide) rfl rfl (Nat.le_of_ble_eq_true rfl) ⟨Nat.zero_le _, Nat.zero_le _⟩ dR_addSmaller_4 (z_ki (fun r4_2 w1 tys1 hp => ?_))
  obtain ⟨rfl, rfl, p4_2⟩ := hp
  refine z_iconst (pc := 7) hZ 2 dR_addSmaller_7 (by decide) ?_
  refine z_isub (pc := 8) hZ dR_addSmaller_8 (fun v8_3 ev8_3 => ?_)
  refine z_istore_n (pc := 9) hZ [(3, .int v8_3), (0, .ref a0), (1, .ref a1), (2, .ref a2)] dR_addSmaller_9 rfl (by decide) rfl ?_
  refine z_aload_n (pc := 10) hZ 2 dR_addSmaller_10 rfl rfl ?_
  refine z_pg2N (pc := 11) hZ h_a1 uc_V nf_R_57 dR_addSmaller_11 (fun v11_4 ev11_4 => ?_)
  refine z_iload_n (pc := 14) hZ 0 dR_addSmaller_14 rfl rfl ?_
  refine z_isub (pc := 15) hZ dR_addSmaller_15 (fun v15_5 ev15_5 => ?_)
  refine z_istore (pc := 16) hZ [(4, .int v15_5), (3, .int v8_3), (0, .ref a0), (1, .ref a1), (2, .ref a2)] dR_addSmaller_16 (by decide) rfl ?_
  refine z_aload_n (pc := 18) hZ 4 dR_addSmaller_18 rfl rfl ?_
  obtain ⟨q19_6, hq19_6⟩ := zp_at (X := X) (f := f) h_a2
  refine z_callVN (pc := 19) (As := []) (rest := []) hZ (cV_size l D tys X LP f a2 h_a2) zyV_size (z_good co_V_size) nl_R_47 (zb in_V) (zb im_V_size) (zb se_V_size) q19_6 hq19_6 rfl rfl rfl (by decide) rfl rfl (Nat.le_of_ble_eq_true rfl) ⟨Nat.zero_le _, Nat.zero_le _⟩ dR_addSmaller_19 (z_kl (fun r19_6 w1 tys1 hp => ?_))
  obtain ⟨rfl, rfl, p19_6⟩ := hp
  refine z_callS (pc := 22) (As := [.long r19_6]) (rest := []) hZ (cJL_numberOfLeadingZeros l D tys (X ++ PL LP f) r19_6) zyJL_numberOfLeadingZeros (z_goodS ml_R_51 st_JL_numberOfLeadingZeros in_JL co_JL_numberOfLeadingZeros) rfl rfl (by decide) rfl rfl (Nat.le_of_ble_eq_true rfl) ⟨Nat.zero_le _, Nat.zero_le _⟩ dR_addSmaller_22 (z_ki (fun r22_7 w1 tys1 hp => ?_))
  obtain ⟨rfl, rfl, p22_7⟩ := hp
  refine z_iconst (pc := 25) hZ 2 dR_addSmaller_25 (by decide) ?_
  refine z_isub (pc := 26) hZ dR_addSmaller_26 (fun v26_8 ev26_8 => ?_)
  refine z_istore (pc := 27) hZ [(5, .int v26_8), (4, .int v15_5), (3, .int v8_3), (0, .ref a0), (1, .ref a1), (2, .ref a2)] dR_addSmaller_27 (by decide) rfl ?_
  refine z_iload (pc := 29) hZ 1 dR_addSmaller_29 rfl ?_
  refine z_aload_n (pc := 31) hZ 5 dR_addSmaller_31 rfl rfl ?_
  refine z_pg2N (pc := 32) hZ h_a2 uc_V nf_R_57 dR_addSmaller_32 (fun v32_9 ev32_9 => ?_)
  refine z_iload (pc := 35) hZ 0 dR_addSmaller_35 rfl ?_
  refine z_isub (pc := 37) hZ dR_addSmaller_37 (fun v37_10 ev37_10 => ?_)
  refine z_isub (pc := 38) hZ dR_addSmaller_38 (fun v38_11 ev38_11 => ?_)
  refine z_istore (pc := 39) hZ [(6, .int v38_11), (5, .int v26_8), (4, .int v15_5), (3, .int v8_3), (0, .ref a0), (1, .ref a1), (2, .ref a2)] dR_addSmaller_39 (by decide) rfl ?_
  refine z_aload_n (pc := 41) hZ 6 dR_addSmaller_41 rfl rfl ?_
  obtain ⟨q42_12, hq42_12⟩ := zp_at (X := X) (f := f) h_a2
  refine z_callVN (pc := 42) (As := []) (rest := []) hZ (cV_size l D tys X LP f a2 h_a2) zyV_size (z_good co_V_size) nl_R_47 (zb in_V) (zb im_V_size) (zb se_V_size) q42_12 hq42_12 rfl rfl rfl (by decide) rfl rfl (Nat.le_of_ble_eq_true rfl) ⟨Nat.zero_le _, Nat.zero_le _⟩ dR_addSmaller_42 (z_kl (fun r42_12 w1 tys1 hp => ?_))
  obtain ⟨rfl, rfl, p42_12⟩ := hp
  refine z_iload (pc := 45) hZ 1 dR_addSmaller_45 rfl ?_
  refine z_lshl (pc := 47) hZ dR_addSmaller_47 (fun v47_13 ev47_13 => ?_)
  refine z_lstore (pc := 48) hZ [(7, .long v47_13), (6, .int v38_11), (5, .int v26_8), (4, .int v15_5), (3, .int v8_3), (0, .ref a0), (1, .ref a1), (2, .ref a2)] dR_addSmaller_48 (by decide) rfl ?_
  refine z_iload (pc := 50) hZ 1 dR_addSmaller_50 rfl ?_
  refine z_bipush (pc := 52) hZ 63 dR_addSmaller_52 (by decide) ?_
  refine z_icmp_le (pc := 54) hZ 61 dR_addSmaller_54 (by decide) (fun c54_14 => ?_) (fun c54_14 => ?_)
  · refine z_lload (pc := 61) hZ 0 dR_addSmaller_61 rfl ?_
    refine z_iload (pc := 63) hZ 1 dR_addSmaller_63 rfl ?_
    refine z_lushr (pc := 65) hZ dR_addSmaller_65 (fun v65_15 ev65_15 => ?_)
    refine z_lstore (pc := 66) hZ [(9, .long v65_15), (7, .long v47_13), (6, .int v38_11), (5, .int v26_8), (4, .int v15_5), (3, .int v8_3), (0, .ref a0), (1, .ref a1), (2, .ref a2)] dR_addSmaller_66 (by decide) rfl ?_
    refine z_iload (pc := 68) hZ 2 dR_addSmaller_68 rfl ?_
    refine z_bipush (pc := 70) hZ 63 dR_addSmaller_70 (by decide) ?_
    refine z_icmp_gt (pc := 72) hZ 86 dR_addSmaller_72 (by decide) (fun c9 => False.elim (by first | exact absurd c9 c54_14 | exact absurd c54_14 c9 | exact absurd c9 (Int32.not_lt.mpr c54_14) | exact absurd c9 (Int32.not_le.mpr c54_14) | exact c9 ((Int32.not_lt).mp c54_14) | exact c9 ((Int32.not_le).mp c54_14))) (fun c72 => ?_)
    refine z_lload (pc := 75) hZ 0 dR_addSmaller_75 rfl ?_
    refine z_iload (pc := 77) hZ 2 dR_addSmaller_77 rfl ?_
    refine z_lshl (pc := 79) hZ dR_addSmaller_79 (fun v79_16 ev79_16 => ?_)
    refine z_lload (pc := 80) hZ 1 dR_addSmaller_80 rfl ?_
    refine z_lif_eq (pc := 82) hZ 90 dR_addSmaller_82 dR_addSmaller_83 (by decide) (fun c83_17 => ?_) (fun c83_17 => ?_)
    · refine z_iconst (pc := 90) hZ 0 dR_addSmaller_90 (by decide) ?_
      refine z_istore (pc := 91) hZ [(11, .int 0), (9, .long v65_15), (7, .long v47_13), (6, .int v38_11), (5, .int v26_8), (4, .int v15_5), (3, .int v8_3), (0, .ref a0), (1, .ref a1), (2, .ref a2)] dR_addSmaller_91 (by decide) rfl ?_
      refine z_aload_n (pc := 93) hZ 8 dR_addSmaller_93 rfl rfl ?_
      obtain ⟨q94_18, hq94_18⟩ := zp_at (X := X) (f := f) h_a1
      refine z_callVN (pc := 94) (As := []) (rest := []) hZ (cV_size l D tys X LP f a1 h_a1) zyV_size (z_good co_V_size) nl_R_47 (zb in_V) (zb im_V_size) (zb se_V_size) q94_18 hq94_18 rfl rfl rfl (by decide) rfl rfl (Nat.le_of_ble_eq_true rfl) ⟨Nat.zero_le _, Nat.zero_le _⟩ dR_addSmaller_94 (z_kl (fun r94_18 w1 tys1 hp => ?_))
      obtain ⟨rfl, rfl, p94_18⟩ := hp
      refine z_iload_n (pc := 97) hZ 6 dR_addSmaller_97 rfl rfl ?_
      refine z_lshl (pc := 98) hZ dR_addSmaller_98 (fun v98_19 ev98_19 => ?_)
      refine z_lstore (pc := 99) hZ [(12, .long v98_19), (11, .int 0), (9, .long v65_15), (7, .long v47_13), (6, .int v38_11), (5, .int v26_8), (4, .int v15_5), (3, .int v8_3), (0, .ref a0), (1, .ref a1), (2, .ref a2)] dR_addSmaller_99 (by decide) rfl ?_
      refine z_aload_n (pc := 101) hZ 9 dR_addSmaller_101 rfl rfl ?_
      obtain ⟨q102_20, hq102_20⟩ := zp_at (X := X) (f := f) h_a1
      refine z_callVN (pc := 102) (As := []) (rest := []) hZ (cV_sign l D tys X LP f a1 h_a1) zyV_sign (z_good co_V_sign) nl_R_60 (zb in_V) (zb im_V_sign) (zb se_V_sign) q102_20 hq102_20 rfl rfl rfl (by decide) rfl rfl (Nat.le_of_ble_eq_true rfl) ⟨Nat.zero_le _, Nat.zero_le _⟩ dR_addSmaller_102 (z_ki (fun r102_20 w1 tys1 hp => ?_))
      obtain ⟨rfl, rfl, p102_20⟩ := hp
      refine z_aload_n (pc := 105) hZ 10 dR_addSmaller_105 rfl rfl ?_
      obtain ⟨q106_21, hq106_21⟩ := zp_at (X := X) (f := f) h_a2
      refine z_callVN (pc := 106) (As := []) (rest := [.int r102_20]) hZ (cV_sign l D tys X LP f a2 h_a2) zyV_sign (z_good co_V_sign) nl_R_60 (zb in_V) (zb im_V_sign) (zb se_V_sign) q106_21 hq106_21 rfl rfl rfl (by decide) rfl rfl (Nat.le_of_ble_eq_true rfl) ⟨Nat.zero_le _, Nat.zero_le _⟩ dR_addSmaller_106 (z_ki (fun r106_21 w1 tys1 hp => ?_))
      obtain ⟨rfl, rfl, p106_21⟩ := hp
      refine z_icmp_ne (pc := 109) hZ 122 dR_addSmaller_109 (by decide) (fun c109_22 => ?_) (fun c109_22 => ?_)
      · refine z_lload (pc := 122) hZ 0 dR_addSmaller_122 rfl ?_
        refine z_iload (pc := 124) hZ 1 dR_addSmaller_124 rfl ?_
        refine z_if_eq (pc := 126) hZ 136 dR_addSmaller_126 (by decide) (fun c126 => ?_) (fun c9 => False.elim (absurd c9 (by decide)))
        refine z_lload (pc := 136) hZ 2 dR_addSmaller_136 rfl ?_
        refine z_lsub (pc := 138) hZ dR_addSmaller_138 (fun v138_23 ev138_23 => ?_)
        refine z_lstore (pc := 139) hZ [(12, .long v138_23), (11, .int 0), (9, .long v65_15), (7, .long v47_13), (6, .int v38_11), (5, .int v26_8), (4, .int v15_5), (3, .int v8_3), (0, .ref a0), (1, .ref a1), (2, .ref a2)] dR_addSmaller_139 (by decide) rfl ?_
        refine z_aload_n (pc := 141) hZ 8 dR_addSmaller_141 rfl rfl ?_
        refine z_aload_n (pc := 142) hZ 9 dR_addSmaller_142 rfl rfl ?_
        refine z_pg1N (pc := 143) hZ h_a1 uc_V nf_R_29 dR_addSmaller_143 (fun v143_24 ev143_24 => ?_)
        refine z_lconst (pc := 146) hZ 0 dR_addSmaller_146 (by decide) ?_
        refine z_lif_ge (pc := 147) hZ 155 dR_addSmaller_147 dR_addSmaller_148 (by decide) (fun c148_25 => ?_) (fun c148_25 => ?_)
        · refine z_iconst (pc := 155) hZ 0 dR_addSmaller_155 (by decide) ?_
          refine z_lload (pc := 156) hZ 0 dR_addSmaller_156 rfl ?_
          refine z_iload (pc := 158) hZ 1 dR_addSmaller_158 rfl ?_
          refine z_iload (pc := 160) hZ 6 dR_addSmaller_160 rfl ?_
          obtain ⟨q162_26, hq162_26⟩ := zp_at (X := X) (f := f) h_a0
          refine z_callVN (pc := 162) (As := [.int 0, .long v138_23, .int 0, .int v15_5]) (rest := []) hZ (cV_setNearest l D tys X LP f a0 h_a0 0 v138_23 0 v15_5) zyV_setNearest (z_good co_V_setNearest) nl_R_64 (zb in_V) (zb im_V_setNearest) (zb se_V_setNearest) q162_26 hq162_26 rfl rfl rfl (by decide) rfl rfl (Nat.le_of_ble_eq_true rfl) ⟨Nat.zero_le _, Nat.zero_le _⟩ dR_addSmaller_162 (z_kv (fun w1 tys1 hp => ?_))
          obtain ⟨f162_26, rfl, rfl, p162_26⟩ := hp
          exact z_retv (pc := 165) hZ dR_addSmaller_165 rfl ⟨rfl, _, rfl, rfl, (by intro A B ha hb a0 b0 hle; obtain ⟨g, U, F⟩ := as_f ha hb a0 b0 hle p1_1 p4_2 ev8_3 ev11_4 ev15_5 p19_6 p22_7 ev26_8 ev32_9 ev37_10 ev38_11 p42_12 ev47_13 p94_18 ev98_19; have PM : 0 < un v47_13 ∧ un v47_13 < 9223372036854775808 := ⟨by have := F.m2; omega, by have := F.m2; omega⟩; have HS := sg_eq (p102_20 _ ha) (p106_21 _ hb); first | (have K := kl_g F.hg PM c54_14; (first | (have X := as_1 F a0 b0 K (HS.mp c109_22) nokey_; (first | exact as_fin (ng_0 ha ev143_24 c148_25) X.1 X.2 p162_26 | exact as_fin (ng_1 ha ev143_24 c148_25) X.1 X.2 p162_26)) | (have X := as_2 F a0 b0 hle K (fun q => c109_22 (HS.mpr q)) ev138_23; (first | exact as_fin (ng_0 ha ev143_24 c148_25) X.1 X.2 p162_26 | exact as_fin (ng_1 ha ev143_24 c148_25) X.1 X.2 p162_26)) | (have X := as_3 F a0 b0 hle K (fun q => c109_22 (HS.mpr q)) nokey_ ev138_23; (first | exact as_fin (ng_0 ha ev143_24 c148_25) X.1 X.2 p162_26 | exact as_fin (ng_1 ha ev143_24 c148_25) X.1 X.2 p162_26)))) | (have K := kl_s 0 F.hg PM c54_14 ev65_15 ev79_16 (Or.inl ⟨c83_17, rfl⟩); (first | (have X := as_1 F a0 b0 K (HS.mp c109_22) nokey_; (first | exact as_fin (ng_0 ha ev143_24 c148_25) X.1 X.2 p162_26 | exact as_fin (ng_1 ha ev143_24 c148_25) X.1 X.2 p162_26)) | (have X := as_2 F a0 b0 hle K (fun q => c109_22 (HS.mpr q)) ev138_23; (first | exact as_fin (ng_0 ha ev143_24 c148_25) X.1 X.2 p162_26 | exact as_fin (ng_1 ha ev143_24 c148_25) X.1 X.2 p162_26)) | (have X := as_3 F a0 b0 hle K (fun q => c109_22 (HS.mpr q)) nokey_ ev138_23; (first | exact as_fin (ng_0 ha ev143_24 c148_25) X.1 X.2 p162_26 | exact as_fin (ng_1 ha ev143_24 c148_25) X.1 X.2 p162_26)))) | (have K := kl_s 1 F.hg PM c54_14 ev65_15 ev79_16 (Or.inr ⟨c83_17, rfl⟩); (first | (have X := as_1 F a0 b0 K (HS.mp c109_22) nokey_; (first | exact as_fin (ng_0 ha ev143_24 c148_25) X.1 X.2 p162_26 | exact as_fin (ng_1 ha ev143_24 c148_25) X.1 X.2 p162_26)) | (have X := as_2 F a0 b0 hle K (fun q => c109_22 (HS.mpr q)) ev138_23; (first | exact as_fin (ng_0 ha ev143_24 c148_25) X.1 X.2 p162_26 | exact as_fin (ng_1 ha ev143_24 c148_25) X.1 X.2 p162_26)) | (have X := as_3 F a0 b0 hle K (fun q => c109_22 (HS.mpr q)) nokey_ ev138_23; (first | exact as_fin (ng_0 ha ev143_24 c148_25) X.1 X.2 p162_26 | exact as_fin (ng_1 ha ev143_24 c148_25) X.1 X.2 p162_26)))))⟩
        · refine z_iconst (pc := 151) hZ 1 dR_addSmaller_151 (by decide) ?_
          refine z_goto (pc := 152) hZ 156 dR_addSmaller_152 (by decide) ?_
          refine z_lload (pc := 156) hZ 0 dR_addSmaller_156 rfl ?_
          refine z_iload (pc := 158) hZ 1 dR_addSmaller_158 rfl ?_
          refine z_iload (pc := 160) hZ 6 dR_addSmaller_160 rfl ?_
          obtain ⟨q162_27, hq162_27⟩ := zp_at (X := X) (f := f) h_a0
          refine z_callVN (pc := 162) (As := [.int 1, .long v138_23, .int 0, .int v15_5]) (rest := []) hZ (cV_setNearest l D tys X LP f a0 h_a0 1 v138_23 0 v15_5) zyV_setNearest (z_good co_V_setNearest) nl_R_64 (zb in_V) (zb im_V_setNearest) (zb se_V_setNearest) q162_27 hq162_27 rfl rfl rfl (by decide) rfl rfl (Nat.le_of_ble_eq_true rfl) ⟨Nat.zero_le _, Nat.zero_le _⟩ dR_addSmaller_162 (z_kv (fun w1 tys1 hp => ?_))
          obtain ⟨f162_27, rfl, rfl, p162_27⟩ := hp
          exact z_retv (pc := 165) hZ dR_addSmaller_165 rfl ⟨rfl, _, rfl, rfl, (by intro A B ha hb a0 b0 hle; obtain ⟨g, U, F⟩ := as_f ha hb a0 b0 hle p1_1 p4_2 ev8_3 ev11_4 ev15_5 p19_6 p22_7 ev26_8 ev32_9 ev37_10 ev38_11 p42_12 ev47_13 p94_18 ev98_19; have PM : 0 < un v47_13 ∧ un v47_13 < 9223372036854775808 := ⟨by have := F.m2; omega, by have := F.m2; omega⟩; have HS := sg_eq (p102_20 _ ha) (p106_21 _ hb); first | (have K := kl_g F.hg PM c54_14; (first | (have X := as_1 F a0 b0 K (HS.mp c109_22) nokey_; (first | exact as_fin (ng_0 ha ev143_24 c148_25) X.1 X.2 p162_27 | exact as_fin (ng_1 ha ev143_24 c148_25) X.1 X.2 p162_27)) | (have X := as_2 F a0 b0 hle K (fun q => c109_22 (HS.mpr q)) ev138_23; (first | exact as_fin (ng_0 ha ev143_24 c148_25) X.1 X.2 p162_27 | exact as_fin (ng_1 ha ev143_24 c148_25) X.1 X.2 p162_27)) | (have X := as_3 F a0 b0 hle K (fun q => c109_22 (HS.mpr q)) nokey_ ev138_23; (first | exact as_fin (ng_0 ha ev143_24 c148_25) X.1 X.2 p162_27 | exact as_fin (ng_1 ha ev143_24 c148_25) X.1 X.2 p162_27)))) | (have K := kl_s 0 F.hg PM c54_14 ev65_15 ev79_16 (Or.inl ⟨c83_17, rfl⟩); (first | (have X := as_1 F a0 b0 K (HS.mp c109_22) nokey_; (first | exact as_fin (ng_0 ha ev143_24 c148_25) X.1 X.2 p162_27 | exact as_fin (ng_1 ha ev143_24 c148_25) X.1 X.2 p162_27)) | (have X := as_2 F a0 b0 hle K (fun q => c109_22 (HS.mpr q)) ev138_23; (first | exact as_fin (ng_0 ha ev143_24 c148_25) X.1 X.2 p162_27 | exact as_fin (ng_1 ha ev143_24 c148_25) X.1 X.2 p162_27)) | (have X := as_3 F a0 b0 hle K (fun q => c109_22 (HS.mpr q)) nokey_ ev138_23; (first | exact as_fin (ng_0 ha ev143_24 c148_25) X.1 X.2 p162_27 | exact as_fin (ng_1 ha ev143_24 c148_25) X.1 X.2 p162_27)))) | (have K := kl_s 1 F.hg PM c54_14 ev65_15 ev79_16 (Or.inr ⟨c83_17, rfl⟩); (first | (have X := as_1 F a0 b0 K (HS.mp c109_22) nokey_; (first | exact as_fin (ng_0 ha ev143_24 c148_25) X.1 X.2 p162_27 | exact as_fin (ng_1 ha ev143_24 c148_25) X.1 X.2 p162_27)) | (have X := as_2 F a0 b0 hle K (fun q => c109_22 (HS.mpr q)) ev138_23; (first | exact as_fin (ng_0 ha ev143_24 c148_25) X.1 X.2 p162_27 | exact as_fin (ng_1 ha ev143_24 c148_25) X.1 X.2 p162_27)) | (have X := as_3 F a0 b0 hle K (fun q => c109_22 (HS.mpr q)) nokey_ ev138_23; (first | exact as_fin (ng_0 ha ev143_24 c148_25) X.1 X.2 p162_27 | exact as_fin (ng_1 ha ev143_24 c148_25) X.1 X.2 p162_27)))))⟩
      · refine z_lload (pc := 112) hZ 0 dR_addSmaller_112 rfl ?_
        refine z_lload (pc := 114) hZ 2 dR_addSmaller_114 rfl ?_
        refine z_ladd (pc := 116) hZ dR_addSmaller_116 (fun v116_28 ev116_28 => ?_)
        refine z_lstore (pc := 117) hZ [(12, .long v116_28), (11, .int 0), (9, .long v65_15), (7, .long v47_13), (6, .int v38_11), (5, .int v26_8), (4, .int v15_5), (3, .int v8_3), (0, .ref a0), (1, .ref a1), (2, .ref a2)] dR_addSmaller_117 (by decide) rfl ?_
        refine z_goto (pc := 119) hZ 141 dR_addSmaller_119 (by decide) ?_
        refine z_aload_n (pc := 141) hZ 8 dR_addSmaller_141 rfl rfl ?_
        refine z_aload_n (pc := 142) hZ 9 dR_addSmaller_142 rfl rfl ?_
        refine z_pg1N (pc := 143) hZ h_a1 uc_V nf_R_29 dR_addSmaller_143 (fun v143_29 ev143_29 => ?_)
        refine z_lconst (pc := 146) hZ 0 dR_addSmaller_146 (by decide) ?_
        refine z_lif_ge (pc := 147) hZ 155 dR_addSmaller_147 dR_addSmaller_148 (by decide) (fun c148_30 => ?_) (fun c148_30 => ?_)
        · refine z_iconst (pc := 155) hZ 0 dR_addSmaller_155 (by decide) ?_
          refine z_lload (pc := 156) hZ 0 dR_addSmaller_156 rfl ?_
          refine z_iload (pc := 158) hZ 1 dR_addSmaller_158 rfl ?_
          refine z_iload (pc := 160) hZ 6 dR_addSmaller_160 rfl ?_
          obtain ⟨q162_31, hq162_31⟩ := zp_at (X := X) (f := f) h_a0
          refine z_callVN (pc := 162) (As := [.int 0, .long v116_28, .int 0, .int v15_5]) (rest := []) hZ (cV_setNearest l D tys X LP f a0 h_a0 0 v116_28 0 v15_5) zyV_setNearest (z_good co_V_setNearest) nl_R_64 (zb in_V) (zb im_V_setNearest) (zb se_V_setNearest) q162_31 hq162_31 rfl rfl rfl (by decide) rfl rfl (Nat.le_of_ble_eq_true rfl) ⟨Nat.zero_le _, Nat.zero_le _⟩ dR_addSmaller_162 (z_kv (fun w1 tys1 hp => ?_))
          obtain ⟨f162_31, rfl, rfl, p162_31⟩ := hp
          exact z_retv (pc := 165) hZ dR_addSmaller_165 rfl ⟨rfl, _, rfl, rfl, (by intro A B ha hb a0 b0 hle; obtain ⟨g, U, F⟩ := as_f ha hb a0 b0 hle p1_1 p4_2 ev8_3 ev11_4 ev15_5 p19_6 p22_7 ev26_8 ev32_9 ev37_10 ev38_11 p42_12 ev47_13 p94_18 ev98_19; have PM : 0 < un v47_13 ∧ un v47_13 < 9223372036854775808 := ⟨by have := F.m2; omega, by have := F.m2; omega⟩; have HS := sg_eq (p102_20 _ ha) (p106_21 _ hb); first | (have K := kl_g F.hg PM c54_14; (first | (have X := as_1 F a0 b0 K (HS.mp c109_22) ev116_28; (first | exact as_fin (ng_0 ha ev143_29 c148_30) X.1 X.2 p162_31 | exact as_fin (ng_1 ha ev143_29 c148_30) X.1 X.2 p162_31)) | (have X := as_2 F a0 b0 hle K (fun q => c109_22 (HS.mpr q)) nokey_; (first | exact as_fin (ng_0 ha ev143_29 c148_30) X.1 X.2 p162_31 | exact as_fin (ng_1 ha ev143_29 c148_30) X.1 X.2 p162_31)) | (have X := as_3 F a0 b0 hle K (fun q => c109_22 (HS.mpr q)) nokey_ nokey_; (first | exact as_fin (ng_0 ha ev143_29 c148_30) X.1 X.2 p162_31 | exact as_fin (ng_1 ha ev143_29 c148_30) X.1 X.2 p162_31)))) | (have K := kl_s 0 F.hg PM c54_14 ev65_15 ev79_16 (Or.inl ⟨c83_17, rfl⟩); (first | (have X := as_1 F a0 b0 K (HS.mp c109_22) ev116_28; (first | exact as_fin (ng_0 ha ev143_29 c148_30) X.1 X.2 p162_31 | exact as_fin (ng_1 ha ev143_29 c148_30) X.1 X.2 p162_31)) | (have X := as_2 F a0 b0 hle K (fun q => c109_22 (HS.mpr q)) nokey_; (first | exact as_fin (ng_0 ha ev143_29 c148_30) X.1 X.2 p162_31 | exact as_fin (ng_1 ha ev143_29 c148_30) X.1 X.2 p162_31)) | (have X := as_3 F a0 b0 hle K (fun q => c109_22 (HS.mpr q)) nokey_ nokey_; (first | exact as_fin (ng_0 ha ev143_29 c148_30) X.1 X.2 p162_31 | exact as_fin (ng_1 ha ev143_29 c148_30) X.1 X.2 p162_31)))) | (have K := kl_s 1 F.hg PM c54_14 ev65_15 ev79_16 (Or.inr ⟨c83_17, rfl⟩); (first | (have X := as_1 F a0 b0 K (HS.mp c109_22) ev116_28; (first | exact as_fin (ng_0 ha ev143_29 c148_30) X.1 X.2 p162_31 | exact as_fin (ng_1 ha ev143_29 c148_30) X.1 X.2 p162_31)) | (have X := as_2 F a0 b0 hle K (fun q => c109_22 (HS.mpr q)) nokey_; (first | exact as_fin (ng_0 ha ev143_29 c148_30) X.1 X.2 p162_31 | exact as_fin (ng_1 ha ev143_29 c148_30) X.1 X.2 p162_31)) | (have X := as_3 F a0 b0 hle K (fun q => c109_22 (HS.mpr q)) nokey_ nokey_; (first | exact as_fin (ng_0 ha ev143_29 c148_30) X.1 X.2 p162_31 | exact as_fin (ng_1 ha ev143_29 c148_30) X.1 X.2 p162_31)))))⟩
        · refine z_iconst (pc := 151) hZ 1 dR_addSmaller_151 (by decide) ?_
          refine z_goto (pc := 152) hZ 156 dR_addSmaller_152 (by decide) ?_
          refine z_lload (pc := 156) hZ 0 dR_addSmaller_156 rfl ?_
          refine z_iload (pc := 158) hZ 1 dR_addSmaller_158 rfl ?_
          refine z_iload (pc := 160) hZ 6 dR_addSmaller_160 rfl ?_
          obtain ⟨q162_32, hq162_32⟩ := zp_at (X := X) (f := f) h_a0
          refine z_callVN (pc := 162) (As := [.int 1, .long v116_28, .int 0, .int v15_5]) (rest := []) hZ (cV_setNearest l D tys X LP f a0 h_a0 1 v116_28 0 v15_5) zyV_setNearest (z_good co_V_setNearest) nl_R_64 (zb in_V) (zb im_V_setNearest) (zb se_V_setNearest) q162_32 hq162_32 rfl rfl rfl (by decide) rfl rfl (Nat.le_of_ble_eq_true rfl) ⟨Nat.zero_le _, Nat.zero_le _⟩ dR_addSmaller_162 (z_kv (fun w1 tys1 hp => ?_))
          obtain ⟨f162_32, rfl, rfl, p162_32⟩ := hp
          exact z_retv (pc := 165) hZ dR_addSmaller_165 rfl ⟨rfl, _, rfl, rfl, (by intro A B ha hb a0 b0 hle; obtain ⟨g, U, F⟩ := as_f ha hb a0 b0 hle p1_1 p4_2 ev8_3 ev11_4 ev15_5 p19_6 p22_7 ev26_8 ev32_9 ev37_10 ev38_11 p42_12 ev47_13 p94_18 ev98_19; have PM : 0 < un v47_13 ∧ un v47_13 < 9223372036854775808 := ⟨by have := F.m2; omega, by have := F.m2; omega⟩; have HS := sg_eq (p102_20 _ ha) (p106_21 _ hb); first | (have K := kl_g F.hg PM c54_14; (first | (have X := as_1 F a0 b0 K (HS.mp c109_22) ev116_28; (first | exact as_fin (ng_0 ha ev143_29 c148_30) X.1 X.2 p162_32 | exact as_fin (ng_1 ha ev143_29 c148_30) X.1 X.2 p162_32)) | (have X := as_2 F a0 b0 hle K (fun q => c109_22 (HS.mpr q)) nokey_; (first | exact as_fin (ng_0 ha ev143_29 c148_30) X.1 X.2 p162_32 | exact as_fin (ng_1 ha ev143_29 c148_30) X.1 X.2 p162_32)) | (have X := as_3 F a0 b0 hle K (fun q => c109_22 (HS.mpr q)) nokey_ nokey_; (first | exact as_fin (ng_0 ha ev143_29 c148_30) X.1 X.2 p162_32 | exact as_fin (ng_1 ha ev143_29 c148_30) X.1 X.2 p162_32)))) | (have K := kl_s 0 F.hg PM c54_14 ev65_15 ev79_16 (Or.inl ⟨c83_17, rfl⟩); (first | (have X := as_1 F a0 b0 K (HS.mp c109_22) ev116_28; (first | exact as_fin (ng_0 ha ev143_29 c148_30) X.1 X.2 p162_32 | exact as_fin (ng_1 ha ev143_29 c148_30) X.1 X.2 p162_32)) | (have X := as_2 F a0 b0 hle K (fun q => c109_22 (HS.mpr q)) nokey_; (first | exact as_fin (ng_0 ha ev143_29 c148_30) X.1 X.2 p162_32 | exact as_fin (ng_1 ha ev143_29 c148_30) X.1 X.2 p162_32)) | (have X := as_3 F a0 b0 hle K (fun q => c109_22 (HS.mpr q)) nokey_ nokey_; (first | exact as_fin (ng_0 ha ev143_29 c148_30) X.1 X.2 p162_32 | exact as_fin (ng_1 ha ev143_29 c148_30) X.1 X.2 p162_32)))) | (have K := kl_s 1 F.hg PM c54_14 ev65_15 ev79_16 (Or.inr ⟨c83_17, rfl⟩); (first | (have X := as_1 F a0 b0 K (HS.mp c109_22) ev116_28; (first | exact as_fin (ng_0 ha ev143_29 c148_30) X.1 X.2 p162_32 | exact as_fin (ng_1 ha ev143_29 c148_30) X.1 X.2 p162_32)) | (have X := as_2 F a0 b0 hle K (fun q => c109_22 (HS.mpr q)) nokey_; (first | exact as_fin (ng_0 ha ev143_29 c148_30) X.1 X.2 p162_32 | exact as_fin (ng_1 ha ev143_29 c148_30) X.1 X.2 p162_32)) | (have X := as_3 F a0 b0 hle K (fun q => c109_22 (HS.mpr q)) nokey_ nokey_; (first | exact as_fin (ng_0 ha ev143_29 c148_30) X.1 X.2 p162_32 | exact as_fin (ng_1 ha ev143_29 c148_30) X.1 X.2 p162_32)))))⟩
    · refine z_iconst (pc := 86) hZ 1 dR_addSmaller_86 (by decide) ?_
      refine z_goto (pc := 87) hZ 91 dR_addSmaller_87 (by decide) ?_
      refine z_istore (pc := 91) hZ [(11, .int 1), (9, .long v65_15), (7, .long v47_13), (6, .int v38_11), (5, .int v26_8), (4, .int v15_5), (3, .int v8_3), (0, .ref a0), (1, .ref a1), (2, .ref a2)] dR_addSmaller_91 (by decide) rfl ?_
      refine z_aload_n (pc := 93) hZ 8 dR_addSmaller_93 rfl rfl ?_
      obtain ⟨q94_33, hq94_33⟩ := zp_at (X := X) (f := f) h_a1
      refine z_callVN (pc := 94) (As := []) (rest := []) hZ (cV_size l D tys X LP f a1 h_a1) zyV_size (z_good co_V_size) nl_R_47 (zb in_V) (zb im_V_size) (zb se_V_size) q94_33 hq94_33 rfl rfl rfl (by decide) rfl rfl (Nat.le_of_ble_eq_true rfl) ⟨Nat.zero_le _, Nat.zero_le _⟩ dR_addSmaller_94 (z_kl (fun r94_33 w1 tys1 hp => ?_))
      obtain ⟨rfl, rfl, p94_33⟩ := hp
      refine z_iload_n (pc := 97) hZ 6 dR_addSmaller_97 rfl rfl ?_
      refine z_lshl (pc := 98) hZ dR_addSmaller_98 (fun v98_34 ev98_34 => ?_)
      refine z_lstore (pc := 99) hZ [(12, .long v98_34), (11, .int 1), (9, .long v65_15), (7, .long v47_13), (6, .int v38_11), (5, .int v26_8), (4, .int v15_5), (3, .int v8_3), (0, .ref a0), (1, .ref a1), (2, .ref a2)] dR_addSmaller_99 (by decide) rfl ?_
      refine z_aload_n (pc := 101) hZ 9 dR_addSmaller_101 rfl rfl ?_
      obtain ⟨q102_35, hq102_35⟩ := zp_at (X := X) (f := f) h_a1
      refine z_callVN (pc := 102) (As := []) (rest := []) hZ (cV_sign l D tys X LP f a1 h_a1) zyV_sign (z_good co_V_sign) nl_R_60 (zb in_V) (zb im_V_sign) (zb se_V_sign) q102_35 hq102_35 rfl rfl rfl (by decide) rfl rfl (Nat.le_of_ble_eq_true rfl) ⟨Nat.zero_le _, Nat.zero_le _⟩ dR_addSmaller_102 (z_ki (fun r102_35 w1 tys1 hp => ?_))
      obtain ⟨rfl, rfl, p102_35⟩ := hp
      refine z_aload_n (pc := 105) hZ 10 dR_addSmaller_105 rfl rfl ?_
      obtain ⟨q106_36, hq106_36⟩ := zp_at (X := X) (f := f) h_a2
      refine z_callVN (pc := 106) (As := []) (rest := [.int r102_35]) hZ (cV_sign l D tys X LP f a2 h_a2) zyV_sign (z_good co_V_sign) nl_R_60 (zb in_V) (zb im_V_sign) (zb se_V_sign) q106_36 hq106_36 rfl rfl rfl (by decide) rfl rfl (Nat.le_of_ble_eq_true rfl) ⟨Nat.zero_le _, Nat.zero_le _⟩ dR_addSmaller_106 (z_ki (fun r106_36 w1 tys1 hp => ?_))
      obtain ⟨rfl, rfl, p106_36⟩ := hp
      refine z_icmp_ne (pc := 109) hZ 122 dR_addSmaller_109 (by decide) (fun c109_37 => ?_) (fun c109_37 => ?_)
      · refine z_lload (pc := 122) hZ 0 dR_addSmaller_122 rfl ?_
        refine z_iload (pc := 124) hZ 1 dR_addSmaller_124 rfl ?_
        refine z_if_eq (pc := 126) hZ 136 dR_addSmaller_126 (by decide) (fun c9 => False.elim (absurd c9 (by decide))) (fun c126 => ?_)
        refine z_lload (pc := 129) hZ 2 dR_addSmaller_129 rfl ?_
        refine z_lconst (pc := 131) hZ 1 dR_addSmaller_131 (by decide) ?_
        refine z_ladd (pc := 132) hZ dR_addSmaller_132 (fun v132_38 ev132_38 => ?_)
        refine z_goto (pc := 133) hZ 138 dR_addSmaller_133 (by decide) ?_
        refine z_lsub (pc := 138) hZ dR_addSmaller_138 (fun v138_39 ev138_39 => ?_)
        refine z_lstore (pc := 139) hZ [(12, .long v138_39), (11, .int 1), (9, .long v65_15), (7, .long v47_13), (6, .int v38_11), (5, .int v26_8), (4, .int v15_5), (3, .int v8_3), (0, .ref a0), (1, .ref a1), (2, .ref a2)] dR_addSmaller_139 (by decide) rfl ?_
        refine z_aload_n (pc := 141) hZ 8 dR_addSmaller_141 rfl rfl ?_
        refine z_aload_n (pc := 142) hZ 9 dR_addSmaller_142 rfl rfl ?_
        refine z_pg1N (pc := 143) hZ h_a1 uc_V nf_R_29 dR_addSmaller_143 (fun v143_40 ev143_40 => ?_)
        refine z_lconst (pc := 146) hZ 0 dR_addSmaller_146 (by decide) ?_
        refine z_lif_ge (pc := 147) hZ 155 dR_addSmaller_147 dR_addSmaller_148 (by decide) (fun c148_41 => ?_) (fun c148_41 => ?_)
        · refine z_iconst (pc := 155) hZ 0 dR_addSmaller_155 (by decide) ?_
          refine z_lload (pc := 156) hZ 0 dR_addSmaller_156 rfl ?_
          refine z_iload (pc := 158) hZ 1 dR_addSmaller_158 rfl ?_
          refine z_iload (pc := 160) hZ 6 dR_addSmaller_160 rfl ?_
          obtain ⟨q162_42, hq162_42⟩ := zp_at (X := X) (f := f) h_a0
          refine z_callVN (pc := 162) (As := [.int 0, .long v138_39, .int 1, .int v15_5]) (rest := []) hZ (cV_setNearest l D tys X LP f a0 h_a0 0 v138_39 1 v15_5) zyV_setNearest (z_good co_V_setNearest) nl_R_64 (zb in_V) (zb im_V_setNearest) (zb se_V_setNearest) q162_42 hq162_42 rfl rfl rfl (by decide) rfl rfl (Nat.le_of_ble_eq_true rfl) ⟨Nat.zero_le _, Nat.zero_le _⟩ dR_addSmaller_162 (z_kv (fun w1 tys1 hp => ?_))
          obtain ⟨f162_42, rfl, rfl, p162_42⟩ := hp
          exact z_retv (pc := 165) hZ dR_addSmaller_165 rfl ⟨rfl, _, rfl, rfl, (by intro A B ha hb a0 b0 hle; obtain ⟨g, U, F⟩ := as_f ha hb a0 b0 hle p1_1 p4_2 ev8_3 ev11_4 ev15_5 p19_6 p22_7 ev26_8 ev32_9 ev37_10 ev38_11 p42_12 ev47_13 p94_33 ev98_34; have PM : 0 < un v47_13 ∧ un v47_13 < 9223372036854775808 := ⟨by have := F.m2; omega, by have := F.m2; omega⟩; have HS := sg_eq (p102_35 _ ha) (p106_36 _ hb); first | (have K := kl_g F.hg PM c54_14; (first | (have X := as_1 F a0 b0 K (HS.mp c109_37) nokey_; (first | exact as_fin (ng_0 ha ev143_40 c148_41) X.1 X.2 p162_42 | exact as_fin (ng_1 ha ev143_40 c148_41) X.1 X.2 p162_42)) | (have X := as_2 F a0 b0 hle K (fun q => c109_37 (HS.mpr q)) ev138_39; (first | exact as_fin (ng_0 ha ev143_40 c148_41) X.1 X.2 p162_42 | exact as_fin (ng_1 ha ev143_40 c148_41) X.1 X.2 p162_42)) | (have X := as_3 F a0 b0 hle K (fun q => c109_37 (HS.mpr q)) ev132_38 ev138_39; (first | exact as_fin (ng_0 ha ev143_40 c148_41) X.1 X.2 p162_42 | exact as_fin (ng_1 ha ev143_40 c148_41) X.1 X.2 p162_42)))) | (have K := kl_s 0 F.hg PM c54_14 ev65_15 ev79_16 (Or.inl ⟨c83_17, rfl⟩); (first | (have X := as_1 F a0 b0 K (HS.mp c109_37) nokey_; (first | exact as_fin (ng_0 ha ev143_40 c148_41) X.1 X.2 p162_42 | exact as_fin (ng_1 ha ev143_40 c148_41) X.1 X.2 p162_42)) | (have X := as_2 F a0 b0 hle K (fun q => c109_37 (HS.mpr q)) ev138_39; (first | exact as_fin (ng_0 ha ev143_40 c148_41) X.1 X.2 p162_42 | exact as_fin (ng_1 ha ev143_40 c148_41) X.1 X.2 p162_42)) | (have X := as_3 F a0 b0 hle K (fun q => c109_37 (HS.mpr q)) ev132_38 ev138_39; (first | exact as_fin (ng_0 ha ev143_40 c148_41) X.1 X.2 p162_42 | exact as_fin (ng_1 ha ev143_40 c148_41) X.1 X.2 p162_42)))) | (have K := kl_s 1 F.hg PM c54_14 ev65_15 ev79_16 (Or.inr ⟨c83_17, rfl⟩); (first | (have X := as_1 F a0 b0 K (HS.mp c109_37) nokey_; (first | exact as_fin (ng_0 ha ev143_40 c148_41) X.1 X.2 p162_42 | exact as_fin (ng_1 ha ev143_40 c148_41) X.1 X.2 p162_42)) | (have X := as_2 F a0 b0 hle K (fun q => c109_37 (HS.mpr q)) ev138_39; (first | exact as_fin (ng_0 ha ev143_40 c148_41) X.1 X.2 p162_42 | exact as_fin (ng_1 ha ev143_40 c148_41) X.1 X.2 p162_42)) | (have X := as_3 F a0 b0 hle K (fun q => c109_37 (HS.mpr q)) ev132_38 ev138_39; (first | exact as_fin (ng_0 ha ev143_40 c148_41) X.1 X.2 p162_42 | exact as_fin (ng_1 ha ev143_40 c148_41) X.1 X.2 p162_42)))))⟩
        · refine z_iconst (pc := 151) hZ 1 dR_addSmaller_151 (by decide) ?_
          refine z_goto (pc := 152) hZ 156 dR_addSmaller_152 (by decide) ?_
          refine z_lload (pc := 156) hZ 0 dR_addSmaller_156 rfl ?_
          refine z_iload (pc := 158) hZ 1 dR_addSmaller_158 rfl ?_
          refine z_iload (pc := 160) hZ 6 dR_addSmaller_160 rfl ?_
          obtain ⟨q162_43, hq162_43⟩ := zp_at (X := X) (f := f) h_a0
          refine z_callVN (pc := 162) (As := [.int 1, .long v138_39, .int 1, .int v15_5]) (rest := []) hZ (cV_setNearest l D tys X LP f a0 h_a0 1 v138_39 1 v15_5) zyV_setNearest (z_good co_V_setNearest) nl_R_64 (zb in_V) (zb im_V_setNearest) (zb se_V_setNearest) q162_43 hq162_43 rfl rfl rfl (by decide) rfl rfl (Nat.le_of_ble_eq_true rfl) ⟨Nat.zero_le _, Nat.zero_le _⟩ dR_addSmaller_162 (z_kv (fun w1 tys1 hp => ?_))
          obtain ⟨f162_43, rfl, rfl, p162_43⟩ := hp
          exact z_retv (pc := 165) hZ dR_addSmaller_165 rfl ⟨rfl, _, rfl, rfl, (by intro A B ha hb a0 b0 hle; obtain ⟨g, U, F⟩ := as_f ha hb a0 b0 hle p1_1 p4_2 ev8_3 ev11_4 ev15_5 p19_6 p22_7 ev26_8 ev32_9 ev37_10 ev38_11 p42_12 ev47_13 p94_33 ev98_34; have PM : 0 < un v47_13 ∧ un v47_13 < 9223372036854775808 := ⟨by have := F.m2; omega, by have := F.m2; omega⟩; have HS := sg_eq (p102_35 _ ha) (p106_36 _ hb); first | (have K := kl_g F.hg PM c54_14; (first | (have X := as_1 F a0 b0 K (HS.mp c109_37) nokey_; (first | exact as_fin (ng_0 ha ev143_40 c148_41) X.1 X.2 p162_43 | exact as_fin (ng_1 ha ev143_40 c148_41) X.1 X.2 p162_43)) | (have X := as_2 F a0 b0 hle K (fun q => c109_37 (HS.mpr q)) ev138_39; (first | exact as_fin (ng_0 ha ev143_40 c148_41) X.1 X.2 p162_43 | exact as_fin (ng_1 ha ev143_40 c148_41) X.1 X.2 p162_43)) | (have X := as_3 F a0 b0 hle K (fun q => c109_37 (HS.mpr q)) ev132_38 ev138_39; (first | exact as_fin (ng_0 ha ev143_40 c148_41) X.1 X.2 p162_43 | exact as_fin (ng_1 ha ev143_40 c148_41) X.1 X.2 p162_43)))) | (have K := kl_s 0 F.hg PM c54_14 ev65_15 ev79_16 (Or.inl ⟨c83_17, rfl⟩); (first | (have X := as_1 F a0 b0 K (HS.mp c109_37) nokey_; (first | exact as_fin (ng_0 ha ev143_40 c148_41) X.1 X.2 p162_43 | exact as_fin (ng_1 ha ev143_40 c148_41) X.1 X.2 p162_43)) | (have X := as_2 F a0 b0 hle K (fun q => c109_37 (HS.mpr q)) ev138_39; (first | exact as_fin (ng_0 ha ev143_40 c148_41) X.1 X.2 p162_43 | exact as_fin (ng_1 ha ev143_40 c148_41) X.1 X.2 p162_43)) | (have X := as_3 F a0 b0 hle K (fun q => c109_37 (HS.mpr q)) ev132_38 ev138_39; (first | exact as_fin (ng_0 ha ev143_40 c148_41) X.1 X.2 p162_43 | exact as_fin (ng_1 ha ev143_40 c148_41) X.1 X.2 p162_43)))) | (have K := kl_s 1 F.hg PM c54_14 ev65_15 ev79_16 (Or.inr ⟨c83_17, rfl⟩); (first | (have X := as_1 F a0 b0 K (HS.mp c109_37) nokey_; (first | exact as_fin (ng_0 ha ev143_40 c148_41) X.1 X.2 p162_43 | exact as_fin (ng_1 ha ev143_40 c148_41) X.1 X.2 p162_43)) | (have X := as_2 F a0 b0 hle K (fun q => c109_37 (HS.mpr q)) ev138_39; (first | exact as_fin (ng_0 ha ev143_40 c148_41) X.1 X.2 p162_43 | exact as_fin (ng_1 ha ev143_40 c148_41) X.1 X.2 p162_43)) | (have X := as_3 F a0 b0 hle K (fun q => c109_37 (HS.mpr q)) ev132_38 ev138_39; (first | exact as_fin (ng_0 ha ev143_40 c148_41) X.1 X.2 p162_43 | exact as_fin (ng_1 ha ev143_40 c148_41) X.1 X.2 p162_43)))))⟩
      · refine z_lload (pc := 112) hZ 0 dR_addSmaller_112 rfl ?_
        refine z_lload (pc := 114) hZ 2 dR_addSmaller_114 rfl ?_
        refine z_ladd (pc := 116) hZ dR_addSmaller_116 (fun v116_44 ev116_44 => ?_)
        refine z_lstore (pc := 117) hZ [(12, .long v116_44), (11, .int 1), (9, .long v65_15), (7, .long v47_13), (6, .int v38_11), (5, .int v26_8), (4, .int v15_5), (3, .int v8_3), (0, .ref a0), (1, .ref a1), (2, .ref a2)] dR_addSmaller_117 (by decide) rfl ?_
        refine z_goto (pc := 119) hZ 141 dR_addSmaller_119 (by decide) ?_
        refine z_aload_n (pc := 141) hZ 8 dR_addSmaller_141 rfl rfl ?_
        refine z_aload_n (pc := 142) hZ 9 dR_addSmaller_142 rfl rfl ?_
        refine z_pg1N (pc := 143) hZ h_a1 uc_V nf_R_29 dR_addSmaller_143 (fun v143_45 ev143_45 => ?_)
        refine z_lconst (pc := 146) hZ 0 dR_addSmaller_146 (by decide) ?_
        refine z_lif_ge (pc := 147) hZ 155 dR_addSmaller_147 dR_addSmaller_148 (by decide) (fun c148_46 => ?_) (fun c148_46 => ?_)
        · refine z_iconst (pc := 155) hZ 0 dR_addSmaller_155 (by decide) ?_
          refine z_lload (pc := 156) hZ 0 dR_addSmaller_156 rfl ?_
          refine z_iload (pc := 158) hZ 1 dR_addSmaller_158 rfl ?_
          refine z_iload (pc := 160) hZ 6 dR_addSmaller_160 rfl ?_
          obtain ⟨q162_47, hq162_47⟩ := zp_at (X := X) (f := f) h_a0
          refine z_callVN (pc := 162) (As := [.int 0, .long v116_44, .int 1, .int v15_5]) (rest := []) hZ (cV_setNearest l D tys X LP f a0 h_a0 0 v116_44 1 v15_5) zyV_setNearest (z_good co_V_setNearest) nl_R_64 (zb in_V) (zb im_V_setNearest) (zb se_V_setNearest) q162_47 hq162_47 rfl rfl rfl (by decide) rfl rfl (Nat.le_of_ble_eq_true rfl) ⟨Nat.zero_le _, Nat.zero_le _⟩ dR_addSmaller_162 (z_kv (fun w1 tys1 hp => ?_))
          obtain ⟨f162_47, rfl, rfl, p162_47⟩ := hp
          exact z_retv (pc := 165) hZ dR_addSmaller_165 rfl ⟨rfl, _, rfl, rfl, (by intro A B ha hb a0 b0 hle; obtain ⟨g, U, F⟩ := as_f ha hb a0 b0 hle p1_1 p4_2 ev8_3 ev11_4 ev15_5 p19_6 p22_7 ev26_8 ev32_9 ev37_10 ev38_11 p42_12 ev47_13 p94_33 ev98_34; have PM : 0 < un v47_13 ∧ un v47_13 < 9223372036854775808 := ⟨by have := F.m2; omega, by have := F.m2; omega⟩; have HS := sg_eq (p102_35 _ ha) (p106_36 _ hb); first | (have K := kl_g F.hg PM c54_14; (first | (have X := as_1 F a0 b0 K (HS.mp c109_37) ev116_44; (first | exact as_fin (ng_0 ha ev143_45 c148_46) X.1 X.2 p162_47 | exact as_fin (ng_1 ha ev143_45 c148_46) X.1 X.2 p162_47)) | (have X := as_2 F a0 b0 hle K (fun q => c109_37 (HS.mpr q)) nokey_; (first | exact as_fin (ng_0 ha ev143_45 c148_46) X.1 X.2 p162_47 | exact as_fin (ng_1 ha ev143_45 c148_46) X.1 X.2 p162_47)) | (have X := as_3 F a0 b0 hle K (fun q => c109_37 (HS.mpr q)) nokey_ nokey_; (first | exact as_fin (ng_0 ha ev143_45 c148_46) X.1 X.2 p162_47 | exact as_fin (ng_1 ha ev143_45 c148_46) X.1 X.2 p162_47)))) | (have K := kl_s 0 F.hg PM c54_14 ev65_15 ev79_16 (Or.inl ⟨c83_17, rfl⟩); (first | (have X := as_1 F a0 b0 K (HS.mp c109_37) ev116_44; (first | exact as_fin (ng_0 ha ev143_45 c148_46) X.1 X.2 p162_47 | exact as_fin (ng_1 ha ev143_45 c148_46) X.1 X.2 p162_47)) | (have X := as_2 F a0 b0 hle K (fun q => c109_37 (HS.mpr q)) nokey_; (first | exact as_fin (ng_0 ha ev143_45 c148_46) X.1 X.2 p162_47 | exact as_fin (ng_1 ha ev143_45 c148_46) X.1 X.2 p162_47)) | (have X := as_3 F a0 b0 hle K (fun q => c109_37 (HS.mpr q)) nokey_ nokey_; (first | exact as_fin (ng_0 ha ev143_45 c148_46) X.1 X.2 p162_47 | exact as_fin (ng_1 ha ev143_45 c148_46) X.1 X.2 p162_47)))) | (have K := kl_s 1 F.hg PM c54_14 ev65_15 ev79_16 (Or.inr ⟨c83_17, rfl⟩); (first | (have X := as_1 F a0 b0 K (HS.mp c109_37) ev116_44; (first | exact as_fin (ng_0 ha ev143_45 c148_46) X.1 X.2 p162_47 | exact as_fin (ng_1 ha ev143_45 c148_46) X.1 X.2 p162_47)) | (have X := as_2 F a0 b0 hle K (fun q => c109_37 (HS.mpr q)) nokey_; (first | exact as_fin (ng_0 ha ev143_45 c148_46) X.1 X.2 p162_47 | exact as_fin (ng_1 ha ev143_45 c148_46) X.1 X.2 p162_47)) | (have X := as_3 F a0 b0 hle K (fun q => c109_37 (HS.mpr q)) nokey_ nokey_; (first | exact as_fin (ng_0 ha ev143_45 c148_46) X.1 X.2 p162_47 | exact as_fin (ng_1 ha ev143_45 c148_46) X.1 X.2 p162_47)))))⟩
        · refine z_iconst (pc := 151) hZ 1 dR_addSmaller_151 (by decide) ?_
          refine z_goto (pc := 152) hZ 156 dR_addSmaller_152 (by decide) ?_
          refine z_lload (pc := 156) hZ 0 dR_addSmaller_156 rfl ?_
          refine z_iload (pc := 158) hZ 1 dR_addSmaller_158 rfl ?_
          refine z_iload (pc := 160) hZ 6 dR_addSmaller_160 rfl ?_
          obtain ⟨q162_48, hq162_48⟩ := zp_at (X := X) (f := f) h_a0
          refine z_callVN (pc := 162) (As := [.int 1, .long v116_44, .int 1, .int v15_5]) (rest := []) hZ (cV_setNearest l D tys X LP f a0 h_a0 1 v116_44 1 v15_5) zyV_setNearest (z_good co_V_setNearest) nl_R_64 (zb in_V) (zb im_V_setNearest) (zb se_V_setNearest) q162_48 hq162_48 rfl rfl rfl (by decide) rfl rfl (Nat.le_of_ble_eq_true rfl) ⟨Nat.zero_le _, Nat.zero_le _⟩ dR_addSmaller_162 (z_kv (fun w1 tys1 hp => ?_))
          obtain ⟨f162_48, rfl, rfl, p162_48⟩ := hp
          exact z_retv (pc := 165) hZ dR_addSmaller_165 rfl ⟨rfl, _, rfl, rfl, (by intro A B ha hb a0 b0 hle; obtain ⟨g, U, F⟩ := as_f ha hb a0 b0 hle p1_1 p4_2 ev8_3 ev11_4 ev15_5 p19_6 p22_7 ev26_8 ev32_9 ev37_10 ev38_11 p42_12 ev47_13 p94_33 ev98_34; have PM : 0 < un v47_13 ∧ un v47_13 < 9223372036854775808 := ⟨by have := F.m2; omega, by have := F.m2; omega⟩; have HS := sg_eq (p102_35 _ ha) (p106_36 _ hb); first | (have K := kl_g F.hg PM c54_14; (first | (have X := as_1 F a0 b0 K (HS.mp c109_37) ev116_44; (first | exact as_fin (ng_0 ha ev143_45 c148_46) X.1 X.2 p162_48 | exact as_fin (ng_1 ha ev143_45 c148_46) X.1 X.2 p162_48)) | (have X := as_2 F a0 b0 hle K (fun q => c109_37 (HS.mpr q)) nokey_; (first | exact as_fin (ng_0 ha ev143_45 c148_46) X.1 X.2 p162_48 | exact as_fin (ng_1 ha ev143_45 c148_46) X.1 X.2 p162_48)) | (have X := as_3 F a0 b0 hle K (fun q => c109_37 (HS.mpr q)) nokey_ nokey_; (first | exact as_fin (ng_0 ha ev143_45 c148_46) X.1 X.2 p162_48 | exact as_fin (ng_1 ha ev143_45 c148_46) X.1 X.2 p162_48)))) | (have K := kl_s 0 F.hg PM c54_14 ev65_15 ev79_16 (Or.inl ⟨c83_17, rfl⟩); (first | (have X := as_1 F a0 b0 K (HS.mp c109_37) ev116_44; (first | exact as_fin (ng_0 ha ev143_45 c148_46) X.1 X.2 p162_48 | exact as_fin (ng_1 ha ev143_45 c148_46) X.1 X.2 p162_48)) | (have X := as_2 F a0 b0 hle K (fun q => c109_37 (HS.mpr q)) nokey_; (first | exact as_fin (ng_0 ha ev143_45 c148_46) X.1 X.2 p162_48 | exact as_fin (ng_1 ha ev143_45 c148_46) X.1 X.2 p162_48)) | (have X := as_3 F a0 b0 hle K (fun q => c109_37 (HS.mpr q)) nokey_ nokey_; (first | exact as_fin (ng_0 ha ev143_45 c148_46) X.1 X.2 p162_48 | exact as_fin (ng_1 ha ev143_45 c148_46) X.1 X.2 p162_48)))) | (have K := kl_s 1 F.hg PM c54_14 ev65_15 ev79_16 (Or.inr ⟨c83_17, rfl⟩); (first | (have X := as_1 F a0 b0 K (HS.mp c109_37) ev116_44; (first | exact as_fin (ng_0 ha ev143_45 c148_46) X.1 X.2 p162_48 | exact as_fin (ng_1 ha ev143_45 c148_46) X.1 X.2 p162_48)) | (have X := as_2 F a0 b0 hle K (fun q => c109_37 (HS.mpr q)) nokey_; (first | exact as_fin (ng_0 ha ev143_45 c148_46) X.1 X.2 p162_48 | exact as_fin (ng_1 ha ev143_45 c148_46) X.1 X.2 p162_48)) | (have X := as_3 F a0 b0 hle K (fun q => c109_37 (HS.mpr q)) nokey_ nokey_; (first | exact as_fin (ng_0 ha ev143_45 c148_46) X.1 X.2 p162_48 | exact as_fin (ng_1 ha ev143_45 c148_46) X.1 X.2 p162_48)))))⟩
  · refine z_lconst (pc := 57) hZ 0 dR_addSmaller_57 (by decide) ?_
    refine z_goto (pc := 58) hZ 66 dR_addSmaller_58 (by decide) ?_
    refine z_lstore (pc := 66) hZ [(9, .long 0), (7, .long v47_13), (6, .int v38_11), (5, .int v26_8), (4, .int v15_5), (3, .int v8_3), (0, .ref a0), (1, .ref a1), (2, .ref a2)] dR_addSmaller_66 (by decide) rfl ?_
    refine z_iload (pc := 68) hZ 2 dR_addSmaller_68 rfl ?_
    refine z_bipush (pc := 70) hZ 63 dR_addSmaller_70 (by decide) ?_
    refine z_icmp_gt (pc := 72) hZ 86 dR_addSmaller_72 (by decide) (fun c72 => ?_) (fun c9 => False.elim (by first | exact absurd c9 c54_14 | exact absurd c54_14 c9 | exact absurd c9 (Int32.not_lt.mpr c54_14) | exact absurd c9 (Int32.not_le.mpr c54_14) | exact c9 ((Int32.not_lt).mp c54_14) | exact c9 ((Int32.not_le).mp c54_14)))
    refine z_iconst (pc := 86) hZ 1 dR_addSmaller_86 (by decide) ?_
    refine z_goto (pc := 87) hZ 91 dR_addSmaller_87 (by decide) ?_
    refine z_istore (pc := 91) hZ [(11, .int 1), (9, .long 0), (7, .long v47_13), (6, .int v38_11), (5, .int v26_8), (4, .int v15_5), (3, .int v8_3), (0, .ref a0), (1, .ref a1), (2, .ref a2)] dR_addSmaller_91 (by decide) rfl ?_
    refine z_aload_n (pc := 93) hZ 8 dR_addSmaller_93 rfl rfl ?_
    obtain ⟨q94_49, hq94_49⟩ := zp_at (X := X) (f := f) h_a1
    refine z_callVN (pc := 94) (As := []) (rest := []) hZ (cV_size l D tys X LP f a1 h_a1) zyV_size (z_good co_V_size) nl_R_47 (zb in_V) (zb im_V_size) (zb se_V_size) q94_49 hq94_49 rfl rfl rfl (by decide) rfl rfl (Nat.le_of_ble_eq_true rfl) ⟨Nat.zero_le _, Nat.zero_le _⟩ dR_addSmaller_94 (z_kl (fun r94_49 w1 tys1 hp => ?_))
    obtain ⟨rfl, rfl, p94_49⟩ := hp
    refine z_iload_n (pc := 97) hZ 6 dR_addSmaller_97 rfl rfl ?_
    refine z_lshl (pc := 98) hZ dR_addSmaller_98 (fun v98_50 ev98_50 => ?_)
    refine z_lstore (pc := 99) hZ [(12, .long v98_50), (11, .int 1), (9, .long 0), (7, .long v47_13), (6, .int v38_11), (5, .int v26_8), (4, .int v15_5), (3, .int v8_3), (0, .ref a0), (1, .ref a1), (2, .ref a2)] dR_addSmaller_99 (by decide) rfl ?_
    refine z_aload_n (pc := 101) hZ 9 dR_addSmaller_101 rfl rfl ?_
    obtain ⟨q102_51, hq102_51⟩ := zp_at (X := X) (f := f) h_a1
    refine z_callVN (pc := 102) (As := []) (rest := []) hZ (cV_sign l D tys X LP f a1 h_a1) zyV_sign (z_good co_V_sign) nl_R_60 (zb in_V) (zb im_V_sign) (zb se_V_sign) q102_51 hq102_51 rfl rfl rfl (by decide) rfl rfl (Nat.le_of_ble_eq_true rfl) ⟨Nat.zero_le _, Nat.zero_le _⟩ dR_addSmaller_102 (z_ki (fun r102_51 w1 tys1 hp => ?_))
    obtain ⟨rfl, rfl, p102_51⟩ := hp
    refine z_aload_n (pc := 105) hZ 10 dR_addSmaller_105 rfl rfl ?_
    obtain ⟨q106_52, hq106_52⟩ := zp_at (X := X) (f := f) h_a2
    refine z_callVN (pc := 106) (As := []) (rest := [.int r102_51]) hZ (cV_sign l D tys X LP f a2 h_a2) zyV_sign (z_good co_V_sign) nl_R_60 (zb in_V) (zb im_V_sign) (zb se_V_sign) q106_52 hq106_52 rfl rfl rfl (by decide) rfl rfl (Nat.le_of_ble_eq_true rfl) ⟨Nat.zero_le _, Nat.zero_le _⟩ dR_addSmaller_106 (z_ki (fun r106_52 w1 tys1 hp => ?_))
    obtain ⟨rfl, rfl, p106_52⟩ := hp
    refine z_icmp_ne (pc := 109) hZ 122 dR_addSmaller_109 (by decide) (fun c109_53 => ?_) (fun c109_53 => ?_)
    · refine z_lload (pc := 122) hZ 0 dR_addSmaller_122 rfl ?_
      refine z_iload (pc := 124) hZ 1 dR_addSmaller_124 rfl ?_
      refine z_if_eq (pc := 126) hZ 136 dR_addSmaller_126 (by decide) (fun c9 => False.elim (absurd c9 (by decide))) (fun c126 => ?_)
      refine z_lload (pc := 129) hZ 2 dR_addSmaller_129 rfl ?_
      refine z_lconst (pc := 131) hZ 1 dR_addSmaller_131 (by decide) ?_
      refine z_ladd (pc := 132) hZ dR_addSmaller_132 (fun v132_54 ev132_54 => ?_)
      refine z_goto (pc := 133) hZ 138 dR_addSmaller_133 (by decide) ?_
      refine z_lsub (pc := 138) hZ dR_addSmaller_138 (fun v138_55 ev138_55 => ?_)
      refine z_lstore (pc := 139) hZ [(12, .long v138_55), (11, .int 1), (9, .long 0), (7, .long v47_13), (6, .int v38_11), (5, .int v26_8), (4, .int v15_5), (3, .int v8_3), (0, .ref a0), (1, .ref a1), (2, .ref a2)] dR_addSmaller_139 (by decide) rfl ?_
      refine z_aload_n (pc := 141) hZ 8 dR_addSmaller_141 rfl rfl ?_
      refine z_aload_n (pc := 142) hZ 9 dR_addSmaller_142 rfl rfl ?_
      refine z_pg1N (pc := 143) hZ h_a1 uc_V nf_R_29 dR_addSmaller_143 (fun v143_56 ev143_56 => ?_)
      refine z_lconst (pc := 146) hZ 0 dR_addSmaller_146 (by decide) ?_
      refine z_lif_ge (pc := 147) hZ 155 dR_addSmaller_147 dR_addSmaller_148 (by decide) (fun c148_57 => ?_) (fun c148_57 => ?_)
      · refine z_iconst (pc := 155) hZ 0 dR_addSmaller_155 (by decide) ?_
        refine z_lload (pc := 156) hZ 0 dR_addSmaller_156 rfl ?_
        refine z_iload (pc := 158) hZ 1 dR_addSmaller_158 rfl ?_
        refine z_iload (pc := 160) hZ 6 dR_addSmaller_160 rfl ?_
        obtain ⟨q162_58, hq162_58⟩ := zp_at (X := X) (f := f) h_a0
        refine z_callVN (pc := 162) (As := [.int 0, .long v138_55, .int 1, .int v15_5]) (rest := []) hZ (cV_setNearest l D tys X LP f a0 h_a0 0 v138_55 1 v15_5) zyV_setNearest (z_good co_V_setNearest) nl_R_64 (zb in_V) (zb im_V_setNearest) (zb se_V_setNearest) q162_58 hq162_58 rfl rfl rfl (by decide) rfl rfl (Nat.le_of_ble_eq_true rfl) ⟨Nat.zero_le _, Nat.zero_le _⟩ dR_addSmaller_162 (z_kv (fun w1 tys1 hp => ?_))
        obtain ⟨f162_58, rfl, rfl, p162_58⟩ := hp
        exact z_retv (pc := 165) hZ dR_addSmaller_165 rfl ⟨rfl, _, rfl, rfl, (by intro A B ha hb a0 b0 hle; obtain ⟨g, U, F⟩ := as_f ha hb a0 b0 hle p1_1 p4_2 ev8_3 ev11_4 ev15_5 p19_6 p22_7 ev26_8 ev32_9 ev37_10 ev38_11 p42_12 ev47_13 p94_49 ev98_50; have PM : 0 < un v47_13 ∧ un v47_13 < 9223372036854775808 := ⟨by have := F.m2; omega, by have := F.m2; omega⟩; have HS := sg_eq (p102_51 _ ha) (p106_52 _ hb); first | (have K := kl_g F.hg PM c54_14; (first | (have X := as_1 F a0 b0 K (HS.mp c109_53) nokey_; (first | exact as_fin (ng_0 ha ev143_56 c148_57) X.1 X.2 p162_58 | exact as_fin (ng_1 ha ev143_56 c148_57) X.1 X.2 p162_58)) | (have X := as_2 F a0 b0 hle K (fun q => c109_53 (HS.mpr q)) ev138_55; (first | exact as_fin (ng_0 ha ev143_56 c148_57) X.1 X.2 p162_58 | exact as_fin (ng_1 ha ev143_56 c148_57) X.1 X.2 p162_58)) | (have X := as_3 F a0 b0 hle K (fun q => c109_53 (HS.mpr q)) ev132_54 ev138_55; (first | exact as_fin (ng_0 ha ev143_56 c148_57) X.1 X.2 p162_58 | exact as_fin (ng_1 ha ev143_56 c148_57) X.1 X.2 p162_58)))) | (have K := kl_s 0 F.hg PM c54_14 nokey_ nokey_ (Or.inl ⟨nokey_, rfl⟩); (first | (have X := as_1 F a0 b0 K (HS.mp c109_53) nokey_; (first | exact as_fin (ng_0 ha ev143_56 c148_57) X.1 X.2 p162_58 | exact as_fin (ng_1 ha ev143_56 c148_57) X.1 X.2 p162_58)) | (have X := as_2 F a0 b0 hle K (fun q => c109_53 (HS.mpr q)) ev138_55; (first | exact as_fin (ng_0 ha ev143_56 c148_57) X.1 X.2 p162_58 | exact as_fin (ng_1 ha ev143_56 c148_57) X.1 X.2 p162_58)) | (have X := as_3 F a0 b0 hle K (fun q => c109_53 (HS.mpr q)) ev132_54 ev138_55; (first | exact as_fin (ng_0 ha ev143_56 c148_57) X.1 X.2 p162_58 | exact as_fin (ng_1 ha ev143_56 c148_57) X.1 X.2 p162_58)))) | (have K := kl_s 1 F.hg PM c54_14 nokey_ nokey_ (Or.inr ⟨nokey_, rfl⟩); (first | (have X := as_1 F a0 b0 K (HS.mp c109_53) nokey_; (first | exact as_fin (ng_0 ha ev143_56 c148_57) X.1 X.2 p162_58 | exact as_fin (ng_1 ha ev143_56 c148_57) X.1 X.2 p162_58)) | (have X := as_2 F a0 b0 hle K (fun q => c109_53 (HS.mpr q)) ev138_55; (first | exact as_fin (ng_0 ha ev143_56 c148_57) X.1 X.2 p162_58 | exact as_fin (ng_1 ha ev143_56 c148_57) X.1 X.2 p162_58)) | (have X := as_3 F a0 b0 hle K (fun q => c109_53 (HS.mpr q)) ev132_54 ev138_55; (first | exact as_fin (ng_0 ha ev143_56 c148_57) X.1 X.2 p162_58 | exact as_fin (ng_1 ha ev143_56 c148_57) X.1 X.2 p162_58)))))⟩
      · refine z_iconst (pc := 151) hZ 1 dR_addSmaller_151 (by decide) ?_
        refine z_goto (pc := 152) hZ 156 dR_addSmaller_152 (by decide) ?_
        refine z_lload (pc := 156) hZ 0 dR_addSmaller_156 rfl ?_
        refine z_iload (pc := 158) hZ 1 dR_addSmaller_158 rfl ?_
        refine z_iload (pc := 160) hZ 6 dR_addSmaller_160 rfl ?_
        obtain ⟨q162_59, hq162_59⟩ := zp_at (X := X) (f := f) h_a0
        refine z_callVN (pc := 162) (As := [.int 1, .long v138_55, .int 1, .int v15_5]) (rest := []) hZ (cV_setNearest l D tys X LP f a0 h_a0 1 v138_55 1 v15_5) zyV_setNearest (z_good co_V_setNearest) nl_R_64 (zb in_V) (zb im_V_setNearest) (zb se_V_setNearest) q162_59 hq162_59 rfl rfl rfl (by decide) rfl rfl (Nat.le_of_ble_eq_true rfl) ⟨Nat.zero_le _, Nat.zero_le _⟩ dR_addSmaller_162 (z_kv (fun w1 tys1 hp => ?_))
        obtain ⟨f162_59, rfl, rfl, p162_59⟩ := hp
        exact z_retv (pc := 165) hZ dR_addSmaller_165 rfl ⟨rfl, _, rfl, rfl, (by intro A B ha hb a0 b0 hle; obtain ⟨g, U, F⟩ := as_f ha hb a0 b0 hle p1_1 p4_2 ev8_3 ev11_4 ev15_5 p19_6 p22_7 ev26_8 ev32_9 ev37_10 ev38_11 p42_12 ev47_13 p94_49 ev98_50; have PM : 0 < un v47_13 ∧ un v47_13 < 9223372036854775808 := ⟨by have := F.m2; omega, by have := F.m2; omega⟩; have HS := sg_eq (p102_51 _ ha) (p106_52 _ hb); first | (have K := kl_g F.hg PM c54_14; (first | (have X := as_1 F a0 b0 K (HS.mp c109_53) nokey_; (first | exact as_fin (ng_0 ha ev143_56 c148_57) X.1 X.2 p162_59 | exact as_fin (ng_1 ha ev143_56 c148_57) X.1 X.2 p162_59)) | (have X := as_2 F a0 b0 hle K (fun q => c109_53 (HS.mpr q)) ev138_55; (first | exact as_fin (ng_0 ha ev143_56 c148_57) X.1 X.2 p162_59 | exact as_fin (ng_1 ha ev143_56 c148_57) X.1 X.2 p162_59)) | (have X := as_3 F a0 b0 hle K (fun q => c109_53 (HS.mpr q)) ev132_54 ev138_55; (first | exact as_fin (ng_0 ha ev143_56 c148_57) X.1 X.2 p162_59 | exact as_fin (ng_1 ha ev143_56 c148_57) X.1 X.2 p162_59)))) | (have K := kl_s 0 F.hg PM c54_14 nokey_ nokey_ (Or.inl ⟨nokey_, rfl⟩); (first | (have X := as_1 F a0 b0 K (HS.mp c109_53) nokey_; (first | exact as_fin (ng_0 ha ev143_56 c148_57) X.1 X.2 p162_59 | exact as_fin (ng_1 ha ev143_56 c148_57) X.1 X.2 p162_59)) | (have X := as_2 F a0 b0 hle K (fun q => c109_53 (HS.mpr q)) ev138_55; (first | exact as_fin (ng_0 ha ev143_56 c148_57) X.1 X.2 p162_59 | exact as_fin (ng_1 ha ev143_56 c148_57) X.1 X.2 p162_59)) | (have X := as_3 F a0 b0 hle K (fun q => c109_53 (HS.mpr q)) ev132_54 ev138_55; (first | exact as_fin (ng_0 ha ev143_56 c148_57) X.1 X.2 p162_59 | exact as_fin (ng_1 ha ev143_56 c148_57) X.1 X.2 p162_59)))) | (have K := kl_s 1 F.hg PM c54_14 nokey_ nokey_ (Or.inr ⟨nokey_, rfl⟩); (first | (have X := as_1 F a0 b0 K (HS.mp c109_53) nokey_; (first | exact as_fin (ng_0 ha ev143_56 c148_57) X.1 X.2 p162_59 | exact as_fin (ng_1 ha ev143_56 c148_57) X.1 X.2 p162_59)) | (have X := as_2 F a0 b0 hle K (fun q => c109_53 (HS.mpr q)) ev138_55; (first | exact as_fin (ng_0 ha ev143_56 c148_57) X.1 X.2 p162_59 | exact as_fin (ng_1 ha ev143_56 c148_57) X.1 X.2 p162_59)) | (have X := as_3 F a0 b0 hle K (fun q => c109_53 (HS.mpr q)) ev132_54 ev138_55; (first | exact as_fin (ng_0 ha ev143_56 c148_57) X.1 X.2 p162_59 | exact as_fin (ng_1 ha ev143_56 c148_57) X.1 X.2 p162_59)))))⟩
    · refine z_lload (pc := 112) hZ 0 dR_addSmaller_112 rfl ?_
      refine z_lload (pc := 114) hZ 2 dR_addSmaller_114 rfl ?_
      refine z_ladd (pc := 116) hZ dR_addSmaller_116 (fun v116_60 ev116_60 => ?_)
      refine z_lstore (pc := 117) hZ [(12, .long v116_60), (11, .int 1), (9, .long 0), (7, .long v47_13), (6, .int v38_11), (5, .int v26_8), (4, .int v15_5), (3, .int v8_3), (0, .ref a0), (1, .ref a1), (2, .ref a2)] dR_addSmaller_117 (by decide) rfl ?_
      refine z_goto (pc := 119) hZ 141 dR_addSmaller_119 (by decide) ?_
      refine z_aload_n (pc := 141) hZ 8 dR_addSmaller_141 rfl rfl ?_
      refine z_aload_n (pc := 142) hZ 9 dR_addSmaller_142 rfl rfl ?_
      refine z_pg1N (pc := 143) hZ h_a1 uc_V nf_R_29 dR_addSmaller_143 (fun v143_61 ev143_61 => ?_)
      refine z_lconst (pc := 146) hZ 0 dR_addSmaller_146 (by decide) ?_
      refine z_lif_ge (pc := 147) hZ 155 dR_addSmaller_147 dR_addSmaller_148 (by decide) (fun c148_62 => ?_) (fun c148_62 => ?_)
      · refine z_iconst (pc := 155) hZ 0 dR_addSmaller_155 (by decide) ?_
        refine z_lload (pc := 156) hZ 0 dR_addSmaller_156 rfl ?_
        refine z_iload (pc := 158) hZ 1 dR_addSmaller_158 rfl ?_
        refine z_iload (pc := 160) hZ 6 dR_addSmaller_160 rfl ?_
        obtain ⟨q162_63, hq162_63⟩ := zp_at (X := X) (f := f) h_a0
        refine z_callVN (pc := 162) (As := [.int 0, .long v116_60, .int 1, .int v15_5]) (rest := []) hZ (cV_setNearest l D tys X LP f a0 h_a0 0 v116_60 1 v15_5) zyV_setNearest (z_good co_V_setNearest) nl_R_64 (zb in_V) (zb im_V_setNearest) (zb se_V_setNearest) q162_63 hq162_63 rfl rfl rfl (by decide) rfl rfl (Nat.le_of_ble_eq_true rfl) ⟨Nat.zero_le _, Nat.zero_le _⟩ dR_addSmaller_162 (z_kv (fun w1 tys1 hp => ?_))
        obtain ⟨f162_63, rfl, rfl, p162_63⟩ := hp
        exact z_retv (pc := 165) hZ dR_addSmaller_165 rfl ⟨rfl, _, rfl, rfl, (by intro A B ha hb a0 b0 hle; obtain ⟨g, U, F⟩ := as_f ha hb a0 b0 hle p1_1 p4_2 ev8_3 ev11_4 ev15_5 p19_6 p22_7 ev26_8 ev32_9 ev37_10 ev38_11 p42_12 ev47_13 p94_49 ev98_50; have PM : 0 < un v47_13 ∧ un v47_13 < 9223372036854775808 := ⟨by have := F.m2; omega, by have := F.m2; omega⟩; have HS := sg_eq (p102_51 _ ha) (p106_52 _ hb); first | (have K := kl_g F.hg PM c54_14; (first | (have X := as_1 F a0 b0 K (HS.mp c109_53) ev116_60; (first | exact as_fin (ng_0 ha ev143_61 c148_62) X.1 X.2 p162_63 | exact as_fin (ng_1 ha ev143_61 c148_62) X.1 X.2 p162_63)) | (have X := as_2 F a0 b0 hle K (fun q => c109_53 (HS.mpr q)) nokey_; (first | exact as_fin (ng_0 ha ev143_61 c148_62) X.1 X.2 p162_63 | exact as_fin (ng_1 ha ev143_61 c148_62) X.1 X.2 p162_63)) | (have X := as_3 F a0 b0 hle K (fun q => c109_53 (HS.mpr q)) nokey_ nokey_; (first | exact as_fin (ng_0 ha ev143_61 c148_62) X.1 X.2 p162_63 | exact as_fin (ng_1 ha ev143_61 c148_62) X.1 X.2 p162_63)))) | (have K := kl_s 0 F.hg PM c54_14 nokey_ nokey_ (Or.inl ⟨nokey_, rfl⟩); (first | (have X := as_1 F a0 b0 K (HS.mp c109_53) ev116_60; (first | exact as_fin (ng_0 ha ev143_61 c148_62) X.1 X.2 p162_63 | exact as_fin (ng_1 ha ev143_61 c148_62) X.1 X.2 p162_63)) | (have X := as_2 F a0 b0 hle K (fun q => c109_53 (HS.mpr q)) nokey_; (first | exact as_fin (ng_0 ha ev143_61 c148_62) X.1 X.2 p162_63 | exact as_fin (ng_1 ha ev143_61 c148_62) X.1 X.2 p162_63)) | (have X := as_3 F a0 b0 hle K (fun q => c109_53 (HS.mpr q)) nokey_ nokey_; (first | exact as_fin (ng_0 ha ev143_61 c148_62) X.1 X.2 p162_63 | exact as_fin (ng_1 ha ev143_61 c148_62) X.1 X.2 p162_63)))) | (have K := kl_s 1 F.hg PM c54_14 nokey_ nokey_ (Or.inr ⟨nokey_, rfl⟩); (first | (have X := as_1 F a0 b0 K (HS.mp c109_53) ev116_60; (first | exact as_fin (ng_0 ha ev143_61 c148_62) X.1 X.2 p162_63 | exact as_fin (ng_1 ha ev143_61 c148_62) X.1 X.2 p162_63)) | (have X := as_2 F a0 b0 hle K (fun q => c109_53 (HS.mpr q)) nokey_; (first | exact as_fin (ng_0 ha ev143_61 c148_62) X.1 X.2 p162_63 | exact as_fin (ng_1 ha ev143_61 c148_62) X.1 X.2 p162_63)) | (have X := as_3 F a0 b0 hle K (fun q => c109_53 (HS.mpr q)) nokey_ nokey_; (first | exact as_fin (ng_0 ha ev143_61 c148_62) X.1 X.2 p162_63 | exact as_fin (ng_1 ha ev143_61 c148_62) X.1 X.2 p162_63)))))⟩
      · refine z_iconst (pc := 151) hZ 1 dR_addSmaller_151 (by decide) ?_
        refine z_goto (pc := 152) hZ 156 dR_addSmaller_152 (by decide) ?_
        refine z_lload (pc := 156) hZ 0 dR_addSmaller_156 rfl ?_
        refine z_iload (pc := 158) hZ 1 dR_addSmaller_158 rfl ?_
        refine z_iload (pc := 160) hZ 6 dR_addSmaller_160 rfl ?_
        obtain ⟨q162_64, hq162_64⟩ := zp_at (X := X) (f := f) h_a0
        refine z_callVN (pc := 162) (As := [.int 1, .long v116_60, .int 1, .int v15_5]) (rest := []) hZ (cV_setNearest l D tys X LP f a0 h_a0 1 v116_60 1 v15_5) zyV_setNearest (z_good co_V_setNearest) nl_R_64 (zb in_V) (zb im_V_setNearest) (zb se_V_setNearest) q162_64 hq162_64 rfl rfl rfl (by decide) rfl rfl (Nat.le_of_ble_eq_true rfl) ⟨Nat.zero_le _, Nat.zero_le _⟩ dR_addSmaller_162 (z_kv (fun w1 tys1 hp => ?_))
        obtain ⟨f162_64, rfl, rfl, p162_64⟩ := hp
        exact z_retv (pc := 165) hZ dR_addSmaller_165 rfl ⟨rfl, _, rfl, rfl, (by intro A B ha hb a0 b0 hle; obtain ⟨g, U, F⟩ := as_f ha hb a0 b0 hle p1_1 p4_2 ev8_3 ev11_4 ev15_5 p19_6 p22_7 ev26_8 ev32_9 ev37_10 ev38_11 p42_12 ev47_13 p94_49 ev98_50; have PM : 0 < un v47_13 ∧ un v47_13 < 9223372036854775808 := ⟨by have := F.m2; omega, by have := F.m2; omega⟩; have HS := sg_eq (p102_51 _ ha) (p106_52 _ hb); first | (have K := kl_g F.hg PM c54_14; (first | (have X := as_1 F a0 b0 K (HS.mp c109_53) ev116_60; (first | exact as_fin (ng_0 ha ev143_61 c148_62) X.1 X.2 p162_64 | exact as_fin (ng_1 ha ev143_61 c148_62) X.1 X.2 p162_64)) | (have X := as_2 F a0 b0 hle K (fun q => c109_53 (HS.mpr q)) nokey_; (first | exact as_fin (ng_0 ha ev143_61 c148_62) X.1 X.2 p162_64 | exact as_fin (ng_1 ha ev143_61 c148_62) X.1 X.2 p162_64)) | (have X := as_3 F a0 b0 hle K (fun q => c109_53 (HS.mpr q)) nokey_ nokey_; (first | exact as_fin (ng_0 ha ev143_61 c148_62) X.1 X.2 p162_64 | exact as_fin (ng_1 ha ev143_61 c148_62) X.1 X.2 p162_64)))) | (have K := kl_s 0 F.hg PM c54_14 nokey_ nokey_ (Or.inl ⟨nokey_, rfl⟩); (first | (have X := as_1 F a0 b0 K (HS.mp c109_53) ev116_60; (first | exact as_fin (ng_0 ha ev143_61 c148_62) X.1 X.2 p162_64 | exact as_fin (ng_1 ha ev143_61 c148_62) X.1 X.2 p162_64)) | (have X := as_2 F a0 b0 hle K (fun q => c109_53 (HS.mpr q)) nokey_; (first | exact as_fin (ng_0 ha ev143_61 c148_62) X.1 X.2 p162_64 | exact as_fin (ng_1 ha ev143_61 c148_62) X.1 X.2 p162_64)) | (have X := as_3 F a0 b0 hle K (fun q => c109_53 (HS.mpr q)) nokey_ nokey_; (first | exact as_fin (ng_0 ha ev143_61 c148_62) X.1 X.2 p162_64 | exact as_fin (ng_1 ha ev143_61 c148_62) X.1 X.2 p162_64)))) | (have K := kl_s 1 F.hg PM c54_14 nokey_ nokey_ (Or.inr ⟨nokey_, rfl⟩); (first | (have X := as_1 F a0 b0 K (HS.mp c109_53) ev116_60; (first | exact as_fin (ng_0 ha ev143_61 c148_62) X.1 X.2 p162_64 | exact as_fin (ng_1 ha ev143_61 c148_62) X.1 X.2 p162_64)) | (have X := as_2 F a0 b0 hle K (fun q => c109_53 (HS.mpr q)) nokey_; (first | exact as_fin (ng_0 ha ev143_61 c148_62) X.1 X.2 p162_64 | exact as_fin (ng_1 ha ev143_61 c148_62) X.1 X.2 p162_64)) | (have X := as_3 F a0 b0 hle K (fun q => c109_53 (HS.mpr q)) nokey_ nokey_; (first | exact as_fin (ng_0 ha ev143_61 c148_62) X.1 X.2 p162_64 | exact as_fin (ng_1 ha ev143_61 c148_62) X.1 X.2 p162_64)))))⟩
set_option maxHeartbeats 4000000 in
set_option maxRecDepth 100000 in
theorem cR_add (l : Launch) (D : va_G) (tys : zT) (X : va_W) (LP : List Nat) (f : Nat → V3) (a0 : Nat) (h_a0 : a0 ∈ LP) (a1 : Nat) (h_a1 : a1 ∈ LP) : zM l D vwCl zNF zNM yR_add wsR_add { frames := 4, cells := 0, slots := 0, locals := 107 } [.ref a0, .ref a1] (X ++ PL LP f) tys (qV (fun w' tys' => ∃ f' : Nat → V3, X ++ PL LP f' = w' ∧ tys = tys' ∧ (∀ a b, CA (f a0) a → CA (f a1) b → nW a → nW b → UPD f f' a0 (addR a b)))) := by
  refine z_met (cc := bR_add) (maxL := 2) (ret := none) (isI := false) (own := RR) (by decide +kernel) rfl rfl (fun h => by cases h) (Nat.le_of_ble_eq_true rfl) (fun Z hZ => ?_)
  show Z 0 0 tys 0 [(0, .ref a0), (1, .ref a1)] [] (X ++ PL LP f)
  refine z_aload_n (pc := 0) hZ 0 dR_add_0 rfl rfl ?_
  refine z_aload_n (pc := 1) hZ 1 dR_add_1 rfl rfl ?_
  refine z_callS (pc := 2) (As := [.ref a0, .ref a1]) (rest := []) hZ (cR_hasNoNumber l D tys X LP f a0 h_a0 a1 h_a1) zyR_hasNoNumber (z_goodS ml_R_17 st_R_hasNoNumber in_R co_R_hasNoNumber) rfl rfl (by decide) rfl rfl (Nat.le_of_ble_eq_true rfl) ⟨Nat.zero_le _, Nat.zero_le _⟩ dR_add_2 (z_ki (fun r2_1 w1 tys1 hp => ?_))
  obtain ⟨rfl, rfl, p2_1⟩ := hp
  refine z_if_eq (pc := 5) hZ 16 dR_add_5 (by decide) (fun c5_2 => ?_) (fun c5_2 => ?_)
  · refine z_aload_n (pc := 16) hZ 0 dR_add_16 rfl rfl ?_
    obtain ⟨q17_3, hq17_3⟩ := zp_at (X := X) (f := f) h_a0
    refine z_callVN (pc := 17) (As := []) (rest := []) hZ (cV_isInfinite l D tys X LP f a0 h_a0) zyV_isInfinite (z_good co_V_isInfinite) nl_R_25 (zb in_V) (zb im_V_isInfinite) (zb se_V_isInfinite) q17_3 hq17_3 rfl rfl rfl (by decide) rfl rfl (Nat.le_of_ble_eq_true rfl) ⟨Nat.zero_le _, Nat.zero_le _⟩ dR_add_17 (z_ki (fun r17_3 w1 tys1 hp => ?_))
    obtain ⟨rfl, rfl, p17_3⟩ := hp
    refine z_if_eq (pc := 20) hZ 49 dR_add_20 (by decide) (fun c20_4 => ?_) (fun c20_4 => ?_)
    · refine z_aload_n (pc := 49) hZ 1 dR_add_49 rfl rfl ?_
      obtain ⟨q50_5, hq50_5⟩ := zp_at (X := X) (f := f) h_a1
      refine z_callVN (pc := 50) (As := []) (rest := []) hZ (cV_isInfinite l D tys X LP f a1 h_a1) zyV_isInfinite (z_good co_V_isInfinite) nl_R_25 (zb in_V) (zb im_V_isInfinite) (zb se_V_isInfinite) q50_5 hq50_5 rfl rfl rfl (by decide) rfl rfl (Nat.le_of_ble_eq_true rfl) ⟨Nat.zero_le _, Nat.zero_le _⟩ dR_add_50 (z_ki (fun r50_5 w1 tys1 hp => ?_))
      obtain ⟨rfl, rfl, p50_5⟩ := hp
      refine z_if_ne (pc := 53) hZ 65 dR_add_53 (by decide) (fun c53_6 => ?_) (fun c53_6 => ?_)
      · refine z_aload_n (pc := 65) hZ 0 dR_add_65 rfl rfl ?_
        refine z_aload_n (pc := 66) hZ 1 dR_add_66 rfl rfl ?_
        obtain ⟨q67_7, hq67_7⟩ := zp_at (X := X) (f := f) h_a0
        refine z_callVN (pc := 67) (As := [.ref a1]) (rest := []) hZ (cV_become l D tys X LP f a0 h_a0 a1 h_a1) zyV_become (z_good co_V_become) nl_R_33 (zb in_V) (zb im_V_become) (zb se_V_become) q67_7 hq67_7 rfl rfl rfl (by decide) rfl rfl (Nat.le_of_ble_eq_true rfl) ⟨Nat.zero_le _, Nat.zero_le _⟩ dR_add_67 (z_kv (fun w1 tys1 hp => ?_))
        obtain ⟨f67_7, rfl, rfl, p67_7⟩ := hp
        refine z_goto (pc := 70) hZ 105 dR_add_70 (by decide) ?_
        exact z_retv (pc := 105) hZ dR_add_105 rfl ⟨rfl, _, rfl, rfl, (by intro a b ha hb wa wb; first | exact sp5 nokey_ (addx_1 (hnn_y ha hb p2_1 c5_2)) | exact up_a ha (add_1 ha hb wb p17_3 c20_4 nokey_ nokey_ (hnn_n ha hb p2_1 c5_2).2) | exact up_a ha (add_2 ha hb p17_3 c20_4 nokey_ nokey_ nokey_ nokey_ nokey_) | exact sp5 nokey_ (add_3 ha hb p17_3 c20_4 nokey_ nokey_ nokey_ nokey_ nokey_) | exact up_b hb p67_7 (add_4 ha hb wa (hnn_n ha hb p2_1 c5_2).1 p17_3 c20_4 p50_5 c53_6) | exact up_b hb p67_7 (add_5 ha hb wa wb (hnn_n ha hb p2_1 c5_2) p17_3 c20_4 p50_5 c53_6 nokey_ nokey_) | exact up_a ha (add_6 ha hb wa wb (hnn_n ha hb p2_1 c5_2) p17_3 c20_4 p50_5 c53_6 nokey_ nokey_ nokey_ nokey_) | exact add_7 ha hb wa wb (hnn_n ha hb p2_1 c5_2) p17_3 c20_4 p50_5 c53_6 nokey_ nokey_ nokey_ nokey_ nokey_ (Or.inl ⟨nokey_, nokey_⟩) | exact add_7 ha hb wa wb (hnn_n ha hb p2_1 c5_2) p17_3 c20_4 p50_5 c53_6 nokey_ nokey_ nokey_ nokey_ nokey_ (Or.inr ⟨nokey_, nokey_⟩))⟩
      · refine z_aload_n (pc := 56) hZ 0 dR_add_56 rfl rfl ?_
        refine z_pg1N (pc := 57) hZ h_a0 uc_V nf_R_29 dR_add_57 (fun v57_8 ev57_8 => ?_)
        refine z_lconst (pc := 60) hZ 0 dR_add_60 (by decide) ?_
        refine z_lif_ne (pc := 61) hZ 73 dR_add_61 dR_add_62 (by decide) (fun c62_9 => ?_) (fun c62_9 => ?_)
        · refine z_aload_n (pc := 73) hZ 1 dR_add_73 rfl rfl ?_
          refine z_pg1N (pc := 74) hZ h_a1 uc_V nf_R_29 dR_add_74 (fun v74_10 ev74_10 => ?_)
          refine z_lconst (pc := 77) hZ 0 dR_add_77 (by decide) ?_
          refine z_lif_eq (pc := 78) hZ 105 dR_add_78 dR_add_79 (by decide) (fun c79_11 => ?_) (fun c79_11 => ?_)
          · exact z_retv (pc := 105) hZ dR_add_105 rfl ⟨rfl, _, rfl, rfl, (by intro a b ha hb wa wb; first | exact sp5 nokey_ (addx_1 (hnn_y ha hb p2_1 c5_2)) | exact up_a ha (add_1 ha hb wb p17_3 c20_4 nokey_ nokey_ (hnn_n ha hb p2_1 c5_2).2) | exact up_a ha (add_2 ha hb p17_3 c20_4 nokey_ nokey_ nokey_ nokey_ nokey_) | exact sp5 nokey_ (add_3 ha hb p17_3 c20_4 nokey_ nokey_ nokey_ nokey_ nokey_) | exact up_b hb nokey_ (add_4 ha hb wa (hnn_n ha hb p2_1 c5_2).1 p17_3 c20_4 p50_5 c53_6) | exact up_b hb nokey_ (add_5 ha hb wa wb (hnn_n ha hb p2_1 c5_2) p17_3 c20_4 p50_5 c53_6 ev57_8 c62_9) | exact up_a ha (add_6 ha hb wa wb (hnn_n ha hb p2_1 c5_2) p17_3 c20_4 p50_5 c53_6 ev57_8 c62_9 ev74_10 c79_11) | exact add_7 ha hb wa wb (hnn_n ha hb p2_1 c5_2) p17_3 c20_4 p50_5 c53_6 ev57_8 c62_9 ev74_10 c79_11 nokey_ (Or.inl ⟨nokey_, nokey_⟩) | exact add_7 ha hb wa wb (hnn_n ha hb p2_1 c5_2) p17_3 c20_4 p50_5 c53_6 ev57_8 c62_9 ev74_10 c79_11 nokey_ (Or.inr ⟨nokey_, nokey_⟩))⟩
          · refine z_aload_n (pc := 82) hZ 0 dR_add_82 rfl rfl ?_
            refine z_aload_n (pc := 83) hZ 1 dR_add_83 rfl rfl ?_
            refine z_callSN (pc := 84) (As := [.ref a0, .ref a1]) (rest := []) hZ (cO_ofSizes l D tys X LP f a0 h_a0 a1 h_a1) zyO_ofSizes (z_good co_O_ofSizes) nl_R_37 (zb in_O) (zb st_O_ofSizes) rfl rfl (by decide) rfl rfl (Nat.le_of_ble_eq_true rfl) ⟨Nat.zero_le _, Nat.zero_le _⟩ dR_add_84 (z_ki (fun r84_12 w1 tys1 hp => ?_))
            obtain ⟨rfl, rfl, p84_12⟩ := hp
            refine z_if_lt (pc := 87) hZ 99 dR_add_87 (by decide) (fun c87_13 => ?_) (fun c87_13 => ?_)
            · refine z_aload_n (pc := 99) hZ 0 dR_add_99 rfl rfl ?_
              refine z_aload_n (pc := 100) hZ 1 dR_add_100 rfl rfl ?_
              refine z_aload_n (pc := 101) hZ 0 dR_add_101 rfl rfl ?_
              refine z_callS (pc := 102) (As := [.ref a0, .ref a1, .ref a0]) (rest := []) hZ (cR_addSmaller l D tys X LP f a0 h_a0 a1 h_a1 a0 h_a0) zyR_addSmaller (z_goodS ml_R_43 st_R_addSmaller in_R co_R_addSmaller) rfl rfl (by decide) rfl rfl (Nat.le_of_ble_eq_true rfl) ⟨Nat.zero_le _, Nat.zero_le _⟩ dR_add_102 (z_kv (fun w1 tys1 hp => ?_))
              obtain ⟨f102_14, rfl, rfl, p102_14⟩ := hp
              exact z_retv (pc := 105) hZ dR_add_105 rfl ⟨rfl, _, rfl, rfl, (by intro a b ha hb wa wb; first | exact sp5 nokey_ (addx_1 (hnn_y ha hb p2_1 c5_2)) | exact up_a ha (add_1 ha hb wb p17_3 c20_4 nokey_ nokey_ (hnn_n ha hb p2_1 c5_2).2) | exact up_a ha (add_2 ha hb p17_3 c20_4 nokey_ nokey_ nokey_ nokey_ nokey_) | exact sp5 nokey_ (add_3 ha hb p17_3 c20_4 nokey_ nokey_ nokey_ nokey_ nokey_) | exact up_b hb nokey_ (add_4 ha hb wa (hnn_n ha hb p2_1 c5_2).1 p17_3 c20_4 p50_5 c53_6) | exact up_b hb nokey_ (add_5 ha hb wa wb (hnn_n ha hb p2_1 c5_2) p17_3 c20_4 p50_5 c53_6 ev57_8 c62_9) | exact up_a ha (add_6 ha hb wa wb (hnn_n ha hb p2_1 c5_2) p17_3 c20_4 p50_5 c53_6 ev57_8 c62_9 ev74_10 c79_11) | exact add_7 ha hb wa wb (hnn_n ha hb p2_1 c5_2) p17_3 c20_4 p50_5 c53_6 ev57_8 c62_9 ev74_10 c79_11 p84_12 (Or.inl ⟨c87_13, nokey_⟩) | exact add_7 ha hb wa wb (hnn_n ha hb p2_1 c5_2) p17_3 c20_4 p50_5 c53_6 ev57_8 c62_9 ev74_10 c79_11 p84_12 (Or.inr ⟨c87_13, p102_14⟩))⟩
            · refine z_aload_n (pc := 90) hZ 0 dR_add_90 rfl rfl ?_
              refine z_aload_n (pc := 91) hZ 0 dR_add_91 rfl rfl ?_
              refine z_aload_n (pc := 92) hZ 1 dR_add_92 rfl rfl ?_
              refine z_callS (pc := 93) (As := [.ref a0, .ref a0, .ref a1]) (rest := []) hZ (cR_addSmaller l D tys X LP f a0 h_a0 a0 h_a0 a1 h_a1) zyR_addSmaller (z_goodS ml_R_43 st_R_addSmaller in_R co_R_addSmaller) rfl rfl (by decide) rfl rfl (Nat.le_of_ble_eq_true rfl) ⟨Nat.zero_le _, Nat.zero_le _⟩ dR_add_93 (z_kv (fun w1 tys1 hp => ?_))
              obtain ⟨f93_15, rfl, rfl, p93_15⟩ := hp
              refine z_goto (pc := 96) hZ 105 dR_add_96 (by decide) ?_
              exact z_retv (pc := 105) hZ dR_add_105 rfl ⟨rfl, _, rfl, rfl, (by intro a b ha hb wa wb; first | exact sp5 nokey_ (addx_1 (hnn_y ha hb p2_1 c5_2)) | exact up_a ha (add_1 ha hb wb p17_3 c20_4 nokey_ nokey_ (hnn_n ha hb p2_1 c5_2).2) | exact up_a ha (add_2 ha hb p17_3 c20_4 nokey_ nokey_ nokey_ nokey_ nokey_) | exact sp5 nokey_ (add_3 ha hb p17_3 c20_4 nokey_ nokey_ nokey_ nokey_ nokey_) | exact up_b hb nokey_ (add_4 ha hb wa (hnn_n ha hb p2_1 c5_2).1 p17_3 c20_4 p50_5 c53_6) | exact up_b hb nokey_ (add_5 ha hb wa wb (hnn_n ha hb p2_1 c5_2) p17_3 c20_4 p50_5 c53_6 ev57_8 c62_9) | exact up_a ha (add_6 ha hb wa wb (hnn_n ha hb p2_1 c5_2) p17_3 c20_4 p50_5 c53_6 ev57_8 c62_9 ev74_10 c79_11) | exact add_7 ha hb wa wb (hnn_n ha hb p2_1 c5_2) p17_3 c20_4 p50_5 c53_6 ev57_8 c62_9 ev74_10 c79_11 p84_12 (Or.inl ⟨c87_13, p93_15⟩) | exact add_7 ha hb wa wb (hnn_n ha hb p2_1 c5_2) p17_3 c20_4 p50_5 c53_6 ev57_8 c62_9 ev74_10 c79_11 p84_12 (Or.inr ⟨c87_13, nokey_⟩))⟩
        · refine z_aload_n (pc := 65) hZ 0 dR_add_65 rfl rfl ?_
          refine z_aload_n (pc := 66) hZ 1 dR_add_66 rfl rfl ?_
          obtain ⟨q67_16, hq67_16⟩ := zp_at (X := X) (f := f) h_a0
          refine z_callVN (pc := 67) (As := [.ref a1]) (rest := []) hZ (cV_become l D tys X LP f a0 h_a0 a1 h_a1) zyV_become (z_good co_V_become) nl_R_33 (zb in_V) (zb im_V_become) (zb se_V_become) q67_16 hq67_16 rfl rfl rfl (by decide) rfl rfl (Nat.le_of_ble_eq_true rfl) ⟨Nat.zero_le _, Nat.zero_le _⟩ dR_add_67 (z_kv (fun w1 tys1 hp => ?_))
          obtain ⟨f67_16, rfl, rfl, p67_16⟩ := hp
          refine z_goto (pc := 70) hZ 105 dR_add_70 (by decide) ?_
          exact z_retv (pc := 105) hZ dR_add_105 rfl ⟨rfl, _, rfl, rfl, (by intro a b ha hb wa wb; first | exact sp5 nokey_ (addx_1 (hnn_y ha hb p2_1 c5_2)) | exact up_a ha (add_1 ha hb wb p17_3 c20_4 nokey_ nokey_ (hnn_n ha hb p2_1 c5_2).2) | exact up_a ha (add_2 ha hb p17_3 c20_4 nokey_ nokey_ nokey_ nokey_ nokey_) | exact sp5 nokey_ (add_3 ha hb p17_3 c20_4 nokey_ nokey_ nokey_ nokey_ nokey_) | exact up_b hb p67_16 (add_4 ha hb wa (hnn_n ha hb p2_1 c5_2).1 p17_3 c20_4 p50_5 c53_6) | exact up_b hb p67_16 (add_5 ha hb wa wb (hnn_n ha hb p2_1 c5_2) p17_3 c20_4 p50_5 c53_6 ev57_8 c62_9) | exact up_a ha (add_6 ha hb wa wb (hnn_n ha hb p2_1 c5_2) p17_3 c20_4 p50_5 c53_6 ev57_8 c62_9 nokey_ nokey_) | exact add_7 ha hb wa wb (hnn_n ha hb p2_1 c5_2) p17_3 c20_4 p50_5 c53_6 ev57_8 c62_9 nokey_ nokey_ nokey_ (Or.inl ⟨nokey_, nokey_⟩) | exact add_7 ha hb wa wb (hnn_n ha hb p2_1 c5_2) p17_3 c20_4 p50_5 c53_6 ev57_8 c62_9 nokey_ nokey_ nokey_ (Or.inr ⟨nokey_, nokey_⟩))⟩
    · refine z_aload_n (pc := 23) hZ 1 dR_add_23 rfl rfl ?_
      obtain ⟨q24_17, hq24_17⟩ := zp_at (X := X) (f := f) h_a1
      refine z_callVN (pc := 24) (As := []) (rest := []) hZ (cV_isInfinite l D tys X LP f a1 h_a1) zyV_isInfinite (z_good co_V_isInfinite) nl_R_25 (zb in_V) (zb im_V_isInfinite) (zb se_V_isInfinite) q24_17 hq24_17 rfl rfl rfl (by decide) rfl rfl (Nat.le_of_ble_eq_true rfl) ⟨Nat.zero_le _, Nat.zero_le _⟩ dR_add_24 (z_ki (fun r24_17 w1 tys1 hp => ?_))
      obtain ⟨rfl, rfl, p24_17⟩ := hp
      refine z_if_eq (pc := 27) hZ 105 dR_add_27 (by decide) (fun c27_18 => ?_) (fun c27_18 => ?_)
      · exact z_retv (pc := 105) hZ dR_add_105 rfl ⟨rfl, _, rfl, rfl, (by intro a b ha hb wa wb; first | exact sp5 nokey_ (addx_1 (hnn_y ha hb p2_1 c5_2)) | exact up_a ha (add_1 ha hb wb p17_3 c20_4 p24_17 c27_18 (hnn_n ha hb p2_1 c5_2).2) | exact up_a ha (add_2 ha hb p17_3 c20_4 p24_17 c27_18 nokey_ nokey_ nokey_) | exact sp5 nokey_ (add_3 ha hb p17_3 c20_4 p24_17 c27_18 nokey_ nokey_ nokey_) | exact up_b hb nokey_ (add_4 ha hb wa (hnn_n ha hb p2_1 c5_2).1 p17_3 c20_4 nokey_ nokey_) | exact up_b hb nokey_ (add_5 ha hb wa wb (hnn_n ha hb p2_1 c5_2) p17_3 c20_4 nokey_ nokey_ nokey_ nokey_) | exact up_a ha (add_6 ha hb wa wb (hnn_n ha hb p2_1 c5_2) p17_3 c20_4 nokey_ nokey_ nokey_ nokey_ nokey_ nokey_) | exact add_7 ha hb wa wb (hnn_n ha hb p2_1 c5_2) p17_3 c20_4 nokey_ nokey_ nokey_ nokey_ nokey_ nokey_ nokey_ (Or.inl ⟨nokey_, nokey_⟩) | exact add_7 ha hb wa wb (hnn_n ha hb p2_1 c5_2) p17_3 c20_4 nokey_ nokey_ nokey_ nokey_ nokey_ nokey_ nokey_ (Or.inr ⟨nokey_, nokey_⟩))⟩
      · refine z_aload_n (pc := 30) hZ 0 dR_add_30 rfl rfl ?_
        refine z_pg0N (pc := 31) hZ h_a0 uc_V nf_R_11 dR_add_31 (fun v31_19 ev31_19 => ?_)
        refine z_aload_n (pc := 34) hZ 1 dR_add_34 rfl rfl ?_
        refine z_pg0N (pc := 35) hZ h_a1 uc_V nf_R_11 dR_add_35 (fun v35_20 ev35_20 => ?_)
        refine z_icmp_eq (pc := 38) hZ 105 dR_add_38 (by decide) (fun c38_21 => ?_) (fun c38_21 => ?_)
        · exact z_retv (pc := 105) hZ dR_add_105 rfl ⟨rfl, _, rfl, rfl, (by intro a b ha hb wa wb; first | exact sp5 nokey_ (addx_1 (hnn_y ha hb p2_1 c5_2)) | exact up_a ha (add_1 ha hb wb p17_3 c20_4 p24_17 c27_18 (hnn_n ha hb p2_1 c5_2).2) | exact up_a ha (add_2 ha hb p17_3 c20_4 p24_17 c27_18 ev31_19 ev35_20 c38_21) | exact sp5 nokey_ (add_3 ha hb p17_3 c20_4 p24_17 c27_18 ev31_19 ev35_20 c38_21) | exact up_b hb nokey_ (add_4 ha hb wa (hnn_n ha hb p2_1 c5_2).1 p17_3 c20_4 nokey_ nokey_) | exact up_b hb nokey_ (add_5 ha hb wa wb (hnn_n ha hb p2_1 c5_2) p17_3 c20_4 nokey_ nokey_ nokey_ nokey_) | exact up_a ha (add_6 ha hb wa wb (hnn_n ha hb p2_1 c5_2) p17_3 c20_4 nokey_ nokey_ nokey_ nokey_ nokey_ nokey_) | exact add_7 ha hb wa wb (hnn_n ha hb p2_1 c5_2) p17_3 c20_4 nokey_ nokey_ nokey_ nokey_ nokey_ nokey_ nokey_ (Or.inl ⟨nokey_, nokey_⟩) | exact add_7 ha hb wa wb (hnn_n ha hb p2_1 c5_2) p17_3 c20_4 nokey_ nokey_ nokey_ nokey_ nokey_ nokey_ nokey_ (Or.inr ⟨nokey_, nokey_⟩))⟩
        · refine z_aload_n (pc := 41) hZ 0 dR_add_41 rfl rfl ?_
          refine z_iconst (pc := 42) hZ 5 dR_add_42 (by decide) ?_
          obtain ⟨q43_22, hq43_22⟩ := zp_at (X := X) (f := f) h_a0
          refine z_callVN (pc := 43) (As := [.int 5]) (rest := []) hZ (cV_setSpecial l D tys X LP f a0 h_a0 5) zyV_setSpecial (z_good co_V_setSpecial) nl_R_21 (zb in_V) (zb im_V_setSpecial) (zb se_V_setSpecial) q43_22 hq43_22 rfl rfl rfl (by decide) rfl rfl (Nat.le_of_ble_eq_true rfl) ⟨Nat.zero_le _, Nat.zero_le _⟩ dR_add_43 (z_kv (fun w1 tys1 hp => ?_))
          obtain ⟨f43_22, rfl, rfl, p43_22⟩ := hp
          refine z_goto (pc := 46) hZ 105 dR_add_46 (by decide) ?_
          exact z_retv (pc := 105) hZ dR_add_105 rfl ⟨rfl, _, rfl, rfl, (by intro a b ha hb wa wb; first | exact sp5 nokey_ (addx_1 (hnn_y ha hb p2_1 c5_2)) | exact up_a ha (add_1 ha hb wb p17_3 c20_4 p24_17 c27_18 (hnn_n ha hb p2_1 c5_2).2) | exact up_a ha (add_2 ha hb p17_3 c20_4 p24_17 c27_18 ev31_19 ev35_20 c38_21) | exact sp5 p43_22 (add_3 ha hb p17_3 c20_4 p24_17 c27_18 ev31_19 ev35_20 c38_21) | exact up_b hb nokey_ (add_4 ha hb wa (hnn_n ha hb p2_1 c5_2).1 p17_3 c20_4 nokey_ nokey_) | exact up_b hb nokey_ (add_5 ha hb wa wb (hnn_n ha hb p2_1 c5_2) p17_3 c20_4 nokey_ nokey_ nokey_ nokey_) | exact up_a ha (add_6 ha hb wa wb (hnn_n ha hb p2_1 c5_2) p17_3 c20_4 nokey_ nokey_ nokey_ nokey_ nokey_ nokey_) | exact add_7 ha hb wa wb (hnn_n ha hb p2_1 c5_2) p17_3 c20_4 nokey_ nokey_ nokey_ nokey_ nokey_ nokey_ nokey_ (Or.inl ⟨nokey_, nokey_⟩) | exact add_7 ha hb wa wb (hnn_n ha hb p2_1 c5_2) p17_3 c20_4 nokey_ nokey_ nokey_ nokey_ nokey_ nokey_ nokey_ (Or.inr ⟨nokey_, nokey_⟩))⟩
  · refine z_aload_n (pc := 8) hZ 0 dR_add_8 rfl rfl ?_
    refine z_iconst (pc := 9) hZ 5 dR_add_9 (by decide) ?_
    obtain ⟨q10_23, hq10_23⟩ := zp_at (X := X) (f := f) h_a0
    refine z_callVN (pc := 10) (As := [.int 5]) (rest := []) hZ (cV_setSpecial l D tys X LP f a0 h_a0 5) zyV_setSpecial (z_good co_V_setSpecial) nl_R_21 (zb in_V) (zb im_V_setSpecial) (zb se_V_setSpecial) q10_23 hq10_23 rfl rfl rfl (by decide) rfl rfl (Nat.le_of_ble_eq_true rfl) ⟨Nat.zero_le _, Nat.zero_le _⟩ dR_add_10 (z_kv (fun w1 tys1 hp => ?_))
    obtain ⟨f10_23, rfl, rfl, p10_23⟩ := hp
    refine z_goto (pc := 13) hZ 105 dR_add_13 (by decide) ?_
    exact z_retv (pc := 105) hZ dR_add_105 rfl ⟨rfl, _, rfl, rfl, (by intro a b ha hb wa wb; first | exact sp5 p10_23 (addx_1 (hnn_y ha hb p2_1 c5_2)) | exact up_a ha (add_1 ha hb wb nokey_ nokey_ nokey_ nokey_ (hnn_n ha hb p2_1 c5_2).2) | exact up_a ha (add_2 ha hb nokey_ nokey_ nokey_ nokey_ nokey_ nokey_ nokey_) | exact sp5 nokey_ (add_3 ha hb nokey_ nokey_ nokey_ nokey_ nokey_ nokey_ nokey_) | exact up_b hb nokey_ (add_4 ha hb wa (hnn_n ha hb p2_1 c5_2).1 nokey_ nokey_ nokey_ nokey_) | exact up_b hb nokey_ (add_5 ha hb wa wb (hnn_n ha hb p2_1 c5_2) nokey_ nokey_ nokey_ nokey_ nokey_ nokey_) | exact up_a ha (add_6 ha hb wa wb (hnn_n ha hb p2_1 c5_2) nokey_ nokey_ nokey_ nokey_ nokey_ nokey_ nokey_ nokey_) | exact add_7 ha hb wa wb (hnn_n ha hb p2_1 c5_2) nokey_ nokey_ nokey_ nokey_ nokey_ nokey_ nokey_ nokey_ nokey_ (Or.inl ⟨nokey_, nokey_⟩) | exact add_7 ha hb wa wb (hnn_n ha hb p2_1 c5_2) nokey_ nokey_ nokey_ nokey_ nokey_ nokey_ nokey_ nokey_ nokey_ (Or.inr ⟨nokey_, nokey_⟩))⟩
set_option maxHeartbeats 4000000 in
set_option maxRecDepth 100000 in
theorem cR_multiplyFinite (l : Launch) (D : va_G) (tys : zT) (X : va_W) (LP : List Nat) (f : Nat → V3) (a0 : Nat) (h_a0 : a0 ∈ LP) (a1 : Nat) (h_a1 : a1 ∈ LP) (p2 : Int32) : zM l D vwCl zNF zNM yR_multiplyFinite wsR_multiplyFinite { frames := 3, cells := 0, slots := 0, locals := 74 } [.ref a0, .ref a1, .int p2] (X ++ PL LP f) tys (qV (fun w' tys' => ∃ f' : Nat → V3, X ++ PL LP f' = w' ∧ tys = tys' ∧ (∀ A B, CA (f a0) (.inr (.inl A)) → CA (f a1) (.inr (.inl B)) → UPD f f' a0 (rnd (bb p2) (A.natAbs * B.natAbs / W1) false)))) := by
  refine z_met (cc := bR_multiplyFinite) (maxL := 22) (ret := none) (isI := false) (own := RR) (by decide +kernel) rfl rfl (fun h => by cases h) (Nat.le_of_ble_eq_true rfl) (fun Z hZ => ?_)
  show Z 0 0 tys 0 [(0, .ref a0), (1, .ref a1), (2, .int p2)] [] (X ++ PL LP f)
  refine z_aload_n (pc := 0) hZ 0 dR_multiplyFinite_0 rfl rfl ?_
  obtain ⟨q1_1, hq1_1⟩ := zp_at (X := X) (f := f) h_a0
  refine z_callVN (pc := 1) (As := []) (rest := []) hZ (cV_size l D tys X LP f a0 h_a0) zyV_size (z_good co_V_size) nl_R_47 (zb in_V) (zb im_V_size) (zb se_V_size) q1_1 hq1_1 rfl rfl rfl (by decide) rfl rfl (Nat.le_of_ble_eq_true rfl) ⟨Nat.zero_le _, Nat.zero_le _⟩ dR_multiplyFinite_1 (z_kl (fun r1_1 w1 tys1 hp => ?_))
  obtain ⟨rfl, rfl, p1_1⟩ := hp
  refine z_bipush (pc := 4) hZ 27 dR_multiplyFinite_4 (by decide) ?_
  refine z_lushr (pc := 6) hZ dR_multiplyFinite_6 (fun v6_2 ev6_2 => ?_)
  refine z_lstore_n (pc := 7) hZ [(3, .long v6_2), (0, .ref a0), (1, .ref a1), (2, .int p2)] dR_multiplyFinite_7 rfl (by decide) rfl ?_
  refine z_aload_n (pc := 8) hZ 1 dR_multiplyFinite_8 rfl rfl ?_
  obtain ⟨q9_3, hq9_3⟩ := zp_at (X := X) (f := f) h_a0
  refine z_callVN (pc := 9) (As := []) (rest := []) hZ (cV_size l D tys X LP f a0 h_a0) zyV_size (z_good co_V_size) nl_R_47 (zb in_V) (zb im_V_size) (zb se_V_size) q9_3 hq9_3 rfl rfl rfl (by decide) rfl rfl (Nat.le_of_ble_eq_true rfl) ⟨Nat.zero_le _, Nat.zero_le _⟩ dR_multiplyFinite_9 (z_kl (fun r9_3 w1 tys1 hp => ?_))
  obtain ⟨rfl, rfl, p9_3⟩ := hp
  refine z_ldc2 (pc := 12) hZ 134217727 (zb kc_R_76) dR_multiplyFinite_12 ?_
  refine z_land (pc := 15) hZ dR_multiplyFinite_15 (fun v15_4 ev15_4 => ?_)
  refine z_lstore (pc := 16) hZ [(5, .long v15_4), (3, .long v6_2), (0, .ref a0), (1, .ref a1), (2, .int p2)] dR_multiplyFinite_16 (by decide) rfl ?_
  refine z_aload_n (pc := 18) hZ 3 dR_multiplyFinite_18 rfl rfl ?_
  obtain ⟨q19_5, hq19_5⟩ := zp_at (X := X) (f := f) h_a1
  refine z_callVN (pc := 19) (As := []) (rest := []) hZ (cV_size l D tys X LP f a1 h_a1) zyV_size (z_good co_V_size) nl_R_47 (zb in_V) (zb im_V_size) (zb se_V_size) q19_5 hq19_5 rfl rfl rfl (by decide) rfl rfl (Nat.le_of_ble_eq_true rfl) ⟨Nat.zero_le _, Nat.zero_le _⟩ dR_multiplyFinite_19 (z_kl (fun r19_5 w1 tys1 hp => ?_))
  obtain ⟨rfl, rfl, p19_5⟩ := hp
  refine z_bipush (pc := 22) hZ 27 dR_multiplyFinite_22 (by decide) ?_
  refine z_lushr (pc := 24) hZ dR_multiplyFinite_24 (fun v24_6 ev24_6 => ?_)
  refine z_lstore (pc := 25) hZ [(7, .long v24_6), (5, .long v15_4), (3, .long v6_2), (0, .ref a0), (1, .ref a1), (2, .int p2)] dR_multiplyFinite_25 (by decide) rfl ?_
  refine z_aload_n (pc := 27) hZ 4 dR_multiplyFinite_27 rfl rfl ?_
  obtain ⟨q28_7, hq28_7⟩ := zp_at (X := X) (f := f) h_a1
  refine z_callVN (pc := 28) (As := []) (rest := []) hZ (cV_size l D tys X LP f a1 h_a1) zyV_size (z_good co_V_size) nl_R_47 (zb in_V) (zb im_V_size) (zb se_V_size) q28_7 hq28_7 rfl rfl rfl (by decide) rfl rfl (Nat.le_of_ble_eq_true rfl) ⟨Nat.zero_le _, Nat.zero_le _⟩ dR_multiplyFinite_28 (z_kl (fun r28_7 w1 tys1 hp => ?_))
  obtain ⟨rfl, rfl, p28_7⟩ := hp
  refine z_ldc2 (pc := 31) hZ 134217727 (zb kc_R_76) dR_multiplyFinite_31 ?_
  refine z_land (pc := 34) hZ dR_multiplyFinite_34 (fun v34_8 ev34_8 => ?_)
  refine z_lstore (pc := 35) hZ [(9, .long v34_8), (7, .long v24_6), (5, .long v15_4), (3, .long v6_2), (0, .ref a0), (1, .ref a1), (2, .int p2)] dR_multiplyFinite_35 (by decide) rfl ?_
  refine z_lload_n (pc := 37) hZ 3 dR_multiplyFinite_37 rfl rfl ?_
  refine z_lload (pc := 38) hZ 0 dR_multiplyFinite_38 rfl ?_
  refine z_lmul (pc := 40) hZ dR_multiplyFinite_40 (fun v40_9 ev40_9 => ?_)
  refine z_lload (pc := 41) hZ 2 dR_multiplyFinite_41 rfl ?_
  refine z_lload (pc := 43) hZ 1 dR_multiplyFinite_43 rfl ?_
  refine z_lmul (pc := 45) hZ dR_multiplyFinite_45 (fun v45_10 ev45_10 => ?_)
  refine z_ladd (pc := 46) hZ dR_multiplyFinite_46 (fun v46_11 ev46_11 => ?_)
  refine z_lstore (pc := 47) hZ [(11, .long v46_11), (9, .long v34_8), (7, .long v24_6), (5, .long v15_4), (3, .long v6_2), (0, .ref a0), (1, .ref a1), (2, .int p2)] dR_multiplyFinite_47 (by decide) rfl ?_
  refine z_lload (pc := 49) hZ 3 dR_multiplyFinite_49 rfl ?_
  refine z_lload (pc := 51) hZ 1 dR_multiplyFinite_51 rfl ?_
  refine z_lmul (pc := 53) hZ dR_multiplyFinite_53 (fun v53_12 ev53_12 => ?_)
  refine z_lload (pc := 54) hZ 0 dR_multiplyFinite_54 rfl ?_
  refine z_ldc2 (pc := 56) hZ 134217727 (zb kc_R_76) dR_multiplyFinite_56 ?_
  refine z_land (pc := 59) hZ dR_multiplyFinite_59 (fun v59_13 ev59_13 => ?_)
  refine z_bipush (pc := 60) hZ 27 dR_multiplyFinite_60 (by decide) ?_
  refine z_lshl (pc := 62) hZ dR_multiplyFinite_62 (fun v62_14 ev62_14 => ?_)
  refine z_ladd (pc := 63) hZ dR_multiplyFinite_63 (fun v63_15 ev63_15 => ?_)
  refine z_lstore (pc := 64) hZ [(13, .long v63_15), (11, .long v46_11), (9, .long v34_8), (7, .long v24_6), (5, .long v15_4), (3, .long v6_2), (0, .ref a0), (1, .ref a1), (2, .int p2)] dR_multiplyFinite_64 (by decide) rfl ?_
  refine z_lload_n (pc := 66) hZ 5 dR_multiplyFinite_66 rfl rfl ?_
  refine z_lload (pc := 67) hZ 3 dR_multiplyFinite_67 rfl ?_
  refine z_lmul (pc := 69) hZ dR_multiplyFinite_69 (fun v69_16 ev69_16 => ?_)
  refine z_lload (pc := 70) hZ 1 dR_multiplyFinite_70 rfl ?_
  refine z_bipush (pc := 72) hZ 27 dR_multiplyFinite_72 (by decide) ?_
  refine z_lushr (pc := 74) hZ dR_multiplyFinite_74 (fun v74_17 ev74_17 => ?_)
  refine z_ladd (pc := 75) hZ dR_multiplyFinite_75 (fun v75_18 ev75_18 => ?_)
  refine z_lload (pc := 76) hZ 0 dR_multiplyFinite_76 rfl ?_
  refine z_bipush (pc := 78) hZ 54 dR_multiplyFinite_78 (by decide) ?_
  refine z_lushr (pc := 80) hZ dR_multiplyFinite_80 (fun v80_19 ev80_19 => ?_)
  refine z_ladd (pc := 81) hZ dR_multiplyFinite_81 (fun v81_20 ev81_20 => ?_)
  refine z_lstore (pc := 82) hZ [(15, .long v81_20), (13, .long v63_15), (11, .long v46_11), (9, .long v34_8), (7, .long v24_6), (5, .long v15_4), (3, .long v6_2), (0, .ref a0), (1, .ref a1), (2, .int p2)] dR_multiplyFinite_82 (by decide) rfl ?_
  refine z_lload (pc := 84) hZ 1 dR_multiplyFinite_84 rfl ?_
  refine z_ldc2 (pc := 86) hZ 18014398509481983 (zb kc_R_78) dR_multiplyFinite_86 ?_
  refine z_land (pc := 89) hZ dR_multiplyFinite_89 (fun v89_21 ev89_21 => ?_)
  refine z_lstore (pc := 90) hZ [(13, .long v89_21), (15, .long v81_20), (11, .long v46_11), (9, .long v34_8), (7, .long v24_6), (5, .long v15_4), (3, .long v6_2), (0, .ref a0), (1, .ref a1), (2, .int p2)] dR_multiplyFinite_90 (by decide) rfl ?_
  refine z_lload (pc := 92) hZ 1 dR_multiplyFinite_92 rfl ?_
  refine z_callS (pc := 94) (As := [.long v81_20]) (rest := []) hZ (cJL_numberOfLeadingZeros l D tys (X ++ PL LP f) v81_20) zyJL_numberOfLeadingZeros (z_goodS ml_R_51 st_JL_numberOfLeadingZeros in_JL co_JL_numberOfLeadingZeros) rfl rfl (by decide) rfl rfl (Nat.le_of_ble_eq_true rfl) ⟨Nat.zero_le _, Nat.zero_le _⟩ dR_multiplyFinite_94 (z_ki (fun r94_22 w1 tys1 hp => ?_))
  obtain ⟨rfl, rfl, p94_22⟩ := hp
  refine z_iconst (pc := 97) hZ 1 dR_multiplyFinite_97 (by decide) ?_
  refine z_isub (pc := 98) hZ dR_multiplyFinite_98 (fun v98_23 ev98_23 => ?_)
  refine z_bipush (pc := 99) hZ 54 dR_multiplyFinite_99 (by decide) ?_
  refine z_mmin (pc := 101) hZ (zb ml_R_80) (zb st_JM_min) (zb in_Math) (zb co_JM_min) (by decide) (Nat.le_of_ble_eq_true rfl) (Nat.zero_le _) (Nat.zero_le _) dR_multiplyFinite_101 (fun v101_24 ev101_24 => ?_)
  refine z_istore (pc := 104) hZ [(17, .int v101_24), (13, .long v89_21), (15, .long v81_20), (11, .long v46_11), (9, .long v34_8), (7, .long v24_6), (5, .long v15_4), (3, .long v6_2), (0, .ref a0), (1, .ref a1), (2, .int p2)] dR_multiplyFinite_104 (by decide) rfl ?_
  refine z_bipush (pc := 106) hZ 54 dR_multiplyFinite_106 (by decide) ?_
  refine z_iload (pc := 108) hZ 0 dR_multiplyFinite_108 rfl ?_
  refine z_isub (pc := 110) hZ dR_multiplyFinite_110 (fun v110_25 ev110_25 => ?_)
  refine z_istore (pc := 111) hZ [(18, .int v110_25), (17, .int v101_24), (13, .long v89_21), (15, .long v81_20), (11, .long v46_11), (9, .long v34_8), (7, .long v24_6), (5, .long v15_4), (3, .long v6_2), (0, .ref a0), (1, .ref a1), (2, .int p2)] dR_multiplyFinite_111 (by decide) rfl ?_
  refine z_lload (pc := 113) hZ 2 dR_multiplyFinite_113 rfl ?_
  refine z_iload (pc := 115) hZ 0 dR_multiplyFinite_115 rfl ?_
  refine z_lushr (pc := 117) hZ dR_multiplyFinite_117 (fun v117_26 ev117_26 => ?_)
  refine z_lstore (pc := 118) hZ [(19, .long v117_26), (18, .int v110_25), (17, .int v101_24), (13, .long v89_21), (15, .long v81_20), (11, .long v46_11), (9, .long v34_8), (7, .long v24_6), (5, .long v15_4), (3, .long v6_2), (0, .ref a0), (1, .ref a1), (2, .int p2)] dR_multiplyFinite_118 (by decide) rfl ?_
  refine z_lload (pc := 120) hZ 0 dR_multiplyFinite_120 rfl ?_
  refine z_iload (pc := 122) hZ 1 dR_multiplyFinite_122 rfl ?_
  refine z_lshl (pc := 124) hZ dR_multiplyFinite_124 (fun v124_27 ev124_27 => ?_)
  refine z_lload (pc := 125) hZ 3 dR_multiplyFinite_125 rfl ?_
  refine z_lif_eq (pc := 127) hZ 135 dR_multiplyFinite_127 dR_multiplyFinite_128 (by decide) (fun c128_28 => ?_) (fun c128_28 => ?_)
  · refine z_iconst (pc := 135) hZ 0 dR_multiplyFinite_135 (by decide) ?_
    refine z_istore (pc := 136) hZ [(21, .int 0), (19, .long v117_26), (18, .int v110_25), (17, .int v101_24), (13, .long v89_21), (15, .long v81_20), (11, .long v46_11), (9, .long v34_8), (7, .long v24_6), (5, .long v15_4), (3, .long v6_2), (0, .ref a0), (1, .ref a1), (2, .int p2)] dR_multiplyFinite_136 (by decide) rfl ?_
    refine z_aload_n (pc := 138) hZ 11 dR_multiplyFinite_138 rfl rfl ?_
    refine z_iload_n (pc := 139) hZ 13 dR_multiplyFinite_139 rfl rfl ?_
    refine z_lload (pc := 140) hZ 5 dR_multiplyFinite_140 rfl ?_
    refine z_iload (pc := 142) hZ 3 dR_multiplyFinite_142 rfl ?_
    refine z_lshl (pc := 144) hZ dR_multiplyFinite_144 (fun v144_29 ev144_29 => ?_)
    refine z_lload (pc := 145) hZ 1 dR_multiplyFinite_145 rfl ?_
    refine z_ladd (pc := 147) hZ dR_multiplyFinite_147 (fun v147_30 ev147_30 => ?_)
    refine z_iload (pc := 148) hZ 0 dR_multiplyFinite_148 rfl ?_
    refine z_aload_n (pc := 150) hZ 11 dR_multiplyFinite_150 rfl rfl ?_
    refine z_pg2N (pc := 151) hZ h_a0 uc_V nf_R_57 dR_multiplyFinite_151 (fun v151_31 ev151_31 => ?_)
    refine z_aload_n (pc := 154) hZ 12 dR_multiplyFinite_154 rfl rfl ?_
    refine z_pg2N (pc := 155) hZ h_a1 uc_V nf_R_57 dR_multiplyFinite_155 (fun v155_32 ev155_32 => ?_)
    refine z_iadd (pc := 158) hZ dR_multiplyFinite_158 (fun v158_33 ev158_33 => ?_)
    refine z_iload (pc := 159) hZ 2 dR_multiplyFinite_159 rfl ?_
    refine z_iadd (pc := 161) hZ dR_multiplyFinite_161 (fun v161_34 ev161_34 => ?_)
    obtain ⟨q162_35, hq162_35⟩ := zp_at (X := X) (f := f) h_a0
    refine z_callVN (pc := 162) (As := [.int p2, .long v147_30, .int 0, .int v161_34]) (rest := []) hZ (cV_setNearest l D tys X LP f a0 h_a0 p2 v147_30 0 v161_34) zyV_setNearest (z_good co_V_setNearest) nl_R_64 (zb in_V) (zb im_V_setNearest) (zb se_V_setNearest) q162_35 hq162_35 rfl rfl rfl (by decide) rfl rfl (Nat.le_of_ble_eq_true rfl) ⟨Nat.zero_le _, Nat.zero_le _⟩ dR_multiplyFinite_162 (z_kv (fun w1 tys1 hp => ?_))
    obtain ⟨f162_35, rfl, rfl, p162_35⟩ := hp
    exact z_retv (pc := 165) hZ dR_multiplyFinite_165 rfl ⟨rfl, _, rfl, rfl, (by intro A B ha hb; have M := (mf_p (CN_e ha.2.1).1 (CN_e hb.2.1).1 p1_1 p9_3 p19_5 p28_7 ev6_2 ev15_4 ev24_6 ev34_8 ev40_9 ev45_10 ev46_11 ev53_12 ev59_13 ev62_14 ev63_15 ev69_16 ev74_17 ev75_18 ev80_19 ev81_20 ev89_21); have RR := mf_r p94_22 M.2.2 ev98_23 ev101_24; first | exact mf_e ha hb M.1 (mf_s 0 M.2.1 RR.1 RR.2 ev110_25 ev117_26 ev124_27 (Or.inl ⟨c128_28, rfl⟩) ev144_29 ev147_30) ev151_31 ev155_32 ev158_33 ev161_34 p162_35 | exact mf_e ha hb M.1 (mf_s 1 M.2.1 RR.1 RR.2 ev110_25 ev117_26 ev124_27 (Or.inr ⟨c128_28, rfl⟩) ev144_29 ev147_30) ev151_31 ev155_32 ev158_33 ev161_34 p162_35)⟩
  · refine z_iconst (pc := 131) hZ 1 dR_multiplyFinite_131 (by decide) ?_
    refine z_goto (pc := 132) hZ 136 dR_multiplyFinite_132 (by decide) ?_
    refine z_istore (pc := 136) hZ [(21, .int 1), (19, .long v117_26), (18, .int v110_25), (17, .int v101_24), (13, .long v89_21), (15, .long v81_20), (11, .long v46_11), (9, .long v34_8), (7, .long v24_6), (5, .long v15_4), (3, .long v6_2), (0, .ref a0), (1, .ref a1), (2, .int p2)] dR_multiplyFinite_136 (by decide) rfl ?_
    refine z_aload_n (pc := 138) hZ 11 dR_multiplyFinite_138 rfl rfl ?_
    refine z_iload_n (pc := 139) hZ 13 dR_multiplyFinite_139 rfl rfl ?_
    refine z_lload (pc := 140) hZ 5 dR_multiplyFinite_140 rfl ?_
    refine z_iload (pc := 142) hZ 3 dR_multiplyFinite_142 rfl ?_
    refine z_lshl (pc := 144) hZ dR_multiplyFinite_144 (fun v144_36 ev144_36 => ?_)
    refine z_lload (pc := 145) hZ 1 dR_multiplyFinite_145 rfl ?_
    refine z_ladd (pc := 147) hZ dR_multiplyFinite_147 (fun v147_37 ev147_37 => ?_)
    refine z_iload (pc := 148) hZ 0 dR_multiplyFinite_148 rfl ?_
    refine z_aload_n (pc := 150) hZ 11 dR_multiplyFinite_150 rfl rfl ?_
    refine z_pg2N (pc := 151) hZ h_a0 uc_V nf_R_57 dR_multiplyFinite_151 (fun v151_38 ev151_38 => ?_)
    refine z_aload_n (pc := 154) hZ 12 dR_multiplyFinite_154 rfl rfl ?_
    refine z_pg2N (pc := 155) hZ h_a1 uc_V nf_R_57 dR_multiplyFinite_155 (fun v155_39 ev155_39 => ?_)
    refine z_iadd (pc := 158) hZ dR_multiplyFinite_158 (fun v158_40 ev158_40 => ?_)
    refine z_iload (pc := 159) hZ 2 dR_multiplyFinite_159 rfl ?_
    refine z_iadd (pc := 161) hZ dR_multiplyFinite_161 (fun v161_41 ev161_41 => ?_)
    obtain ⟨q162_42, hq162_42⟩ := zp_at (X := X) (f := f) h_a0
    refine z_callVN (pc := 162) (As := [.int p2, .long v147_37, .int 1, .int v161_41]) (rest := []) hZ (cV_setNearest l D tys X LP f a0 h_a0 p2 v147_37 1 v161_41) zyV_setNearest (z_good co_V_setNearest) nl_R_64 (zb in_V) (zb im_V_setNearest) (zb se_V_setNearest) q162_42 hq162_42 rfl rfl rfl (by decide) rfl rfl (Nat.le_of_ble_eq_true rfl) ⟨Nat.zero_le _, Nat.zero_le _⟩ dR_multiplyFinite_162 (z_kv (fun w1 tys1 hp => ?_))
    obtain ⟨f162_42, rfl, rfl, p162_42⟩ := hp
    exact z_retv (pc := 165) hZ dR_multiplyFinite_165 rfl ⟨rfl, _, rfl, rfl, (by intro A B ha hb; have M := (mf_p (CN_e ha.2.1).1 (CN_e hb.2.1).1 p1_1 p9_3 p19_5 p28_7 ev6_2 ev15_4 ev24_6 ev34_8 ev40_9 ev45_10 ev46_11 ev53_12 ev59_13 ev62_14 ev63_15 ev69_16 ev74_17 ev75_18 ev80_19 ev81_20 ev89_21); have RR := mf_r p94_22 M.2.2 ev98_23 ev101_24; first | exact mf_e ha hb M.1 (mf_s 0 M.2.1 RR.1 RR.2 ev110_25 ev117_26 ev124_27 (Or.inl ⟨c128_28, rfl⟩) ev144_36 ev147_37) ev151_38 ev155_39 ev158_40 ev161_41 p162_42 | exact mf_e ha hb M.1 (mf_s 1 M.2.1 RR.1 RR.2 ev110_25 ev117_26 ev124_27 (Or.inr ⟨c128_28, rfl⟩) ev144_36 ev147_37) ev151_38 ev155_39 ev158_40 ev161_41 p162_42)⟩
set_option maxHeartbeats 4000000 in
set_option maxRecDepth 100000 in
theorem cR_multiply (l : Launch) (D : va_G) (tys : zT) (X : va_W) (LP : List Nat) (f : Nat → V3) (a0 : Nat) (h_a0 : a0 ∈ LP) (a1 : Nat) (h_a1 : a1 ∈ LP) : zM l D vwCl zNF zNM yR_multiply wsR_multiply { frames := 4, cells := 0, slots := 0, locals := 115 } [.ref a0, .ref a1] (X ++ PL LP f) tys (qV (fun w' tys' => ∃ f' : Nat → V3, X ++ PL LP f' = w' ∧ tys = tys' ∧ (∀ a b, CA (f a0) a → CA (f a1) b → nW a → nW b → UPD f f' a0 (mulR a b)))) := by
  refine z_met (cc := bR_multiply) (maxL := 3) (ret := none) (isI := false) (own := RR) (by decide +kernel) rfl rfl (fun h => by cases h) (Nat.le_of_ble_eq_true rfl) (fun Z hZ => ?_)
  show Z 0 0 tys 0 [(0, .ref a0), (1, .ref a1)] [] (X ++ PL LP f)
  refine z_aload_n (pc := 0) hZ 0 dR_multiply_0 rfl rfl ?_
  refine z_aload_n (pc := 1) hZ 1 dR_multiply_1 rfl rfl ?_
  refine z_callS (pc := 2) (As := [.ref a0, .ref a1]) (rest := []) hZ (cR_hasNoNumber l D tys X LP f a0 h_a0 a1 h_a1) zyR_hasNoNumber (z_goodS ml_R_17 st_R_hasNoNumber in_R co_R_hasNoNumber) rfl rfl (by decide) rfl rfl (Nat.le_of_ble_eq_true rfl) ⟨Nat.zero_le _, Nat.zero_le _⟩ dR_multiply_2 (z_ki (fun r2_1 w1 tys1 hp => ?_))
  obtain ⟨rfl, rfl, p2_1⟩ := hp
  refine z_if_eq (pc := 5) hZ 14 dR_multiply_5 (by decide) (fun c5_2 => ?_) (fun c5_2 => ?_)
  · refine z_aload_n (pc := 14) hZ 0 dR_multiply_14 rfl rfl ?_
    obtain ⟨q15_3, hq15_3⟩ := zp_at (X := X) (f := f) h_a0
    refine z_callVN (pc := 15) (As := []) (rest := []) hZ (cV_sign l D tys X LP f a0 h_a0) zyV_sign (z_good co_V_sign) nl_R_60 (zb in_V) (zb im_V_sign) (zb se_V_sign) q15_3 hq15_3 rfl rfl rfl (by decide) rfl rfl (Nat.le_of_ble_eq_true rfl) ⟨Nat.zero_le _, Nat.zero_le _⟩ dR_multiply_15 (z_ki (fun r15_3 w1 tys1 hp => ?_))
    obtain ⟨rfl, rfl, p15_3⟩ := hp
    refine z_aload_n (pc := 18) hZ 1 dR_multiply_18 rfl rfl ?_
    obtain ⟨q19_4, hq19_4⟩ := zp_at (X := X) (f := f) h_a1
    refine z_callVN (pc := 19) (As := []) (rest := [.int r15_3]) hZ (cV_sign l D tys X LP f a1 h_a1) zyV_sign (z_good co_V_sign) nl_R_60 (zb in_V) (zb im_V_sign) (zb se_V_sign) q19_4 hq19_4 rfl rfl rfl (by decide) rfl rfl (Nat.le_of_ble_eq_true rfl) ⟨Nat.zero_le _, Nat.zero_le _⟩ dR_multiply_19 (z_ki (fun r19_4 w1 tys1 hp => ?_))
    obtain ⟨rfl, rfl, p19_4⟩ := hp
    refine z_imul (pc := 22) hZ dR_multiply_22 (fun v22_5 ev22_5 => ?_)
    refine z_istore_n (pc := 23) hZ [(2, .int v22_5), (0, .ref a0), (1, .ref a1)] dR_multiply_23 rfl (by decide) rfl ?_
    refine z_aload_n (pc := 24) hZ 1 dR_multiply_24 rfl rfl ?_
    obtain ⟨q25_6, hq25_6⟩ := zp_at (X := X) (f := f) h_a0
    refine z_callVN (pc := 25) (As := []) (rest := []) hZ (cV_isInfinite l D tys X LP f a0 h_a0) zyV_isInfinite (z_good co_V_isInfinite) nl_R_25 (zb in_V) (zb im_V_isInfinite) (zb se_V_isInfinite) q25_6 hq25_6 rfl rfl rfl (by decide) rfl rfl (Nat.le_of_ble_eq_true rfl) ⟨Nat.zero_le _, Nat.zero_le _⟩ dR_multiply_25 (z_ki (fun r25_6 w1 tys1 hp => ?_))
    obtain ⟨rfl, rfl, p25_6⟩ := hp
    refine z_if_ne (pc := 28) hZ 55 dR_multiply_28 (by decide) (fun c28_7 => ?_) (fun c28_7 => ?_)
    · refine z_iload_n (pc := 55) hZ 0 dR_multiply_55 rfl rfl ?_
      refine z_if_ne (pc := 56) hZ 67 dR_multiply_56 (by decide) (fun c56_8 => ?_) (fun c56_8 => ?_)
      · refine z_aload_n (pc := 67) hZ 1 dR_multiply_67 rfl rfl ?_
        refine z_iload_n (pc := 68) hZ 0 dR_multiply_68 rfl rfl ?_
        refine z_if_ge (pc := 69) hZ 76 dR_multiply_69 (by decide) (fun c69_9 => ?_) (fun c69_9 => ?_)
        · refine z_iconst (pc := 76) hZ 0 dR_multiply_76 (by decide) ?_
          obtain ⟨q77_10, hq77_10⟩ := zp_at (X := X) (f := f) h_a0
          refine z_callVN (pc := 77) (As := [.int 0]) (rest := []) hZ (cV_setInfinity l D tys X LP f a0 h_a0 0) zyV_setInfinity (z_good co_V_setInfinity) nl_R_72 (zb in_V) (zb im_V_setInfinity) (zb se_V_setInfinity) q77_10 hq77_10 rfl rfl rfl (by decide) rfl rfl (Nat.le_of_ble_eq_true rfl) ⟨Nat.zero_le _, Nat.zero_le _⟩ dR_multiply_77 (z_kv (fun w1 tys1 hp => ?_))
          obtain ⟨f77_10, rfl, rfl, p77_10⟩ := hp
          exact z_retv (pc := 80) hZ dR_multiply_80 rfl ⟨rfl, _, rfl, rfl, (by intro a b ha hb wa wb; first | exact sp5 nokey_ (mulx (hnn_y ha hb p2_1 c5_2)) | exact mul_fin 0 ha hb wa wb (hnn_n ha hb p2_1 c5_2) p25_6 c28_7 nokey_ nokey_ (sg_mul (p15_3 _ ha) (p19_4 _ hb) ev22_5) (Or.inl ⟨nokey_, rfl⟩) nokey_ | exact mul_fin 1 ha hb wa wb (hnn_n ha hb p2_1 c5_2) p25_6 c28_7 nokey_ nokey_ (sg_mul (p15_3 _ ha) (p19_4 _ hb) ev22_5) (Or.inr ⟨nokey_, rfl⟩) nokey_ | exact sp5 nokey_ ((mul_i1 ha (hnn_n ha hb p2_1 c5_2) p25_6 c28_7).trans (inS_x (sg_mul (p15_3 _ ha) (p19_4 _ hb) ev22_5) c56_8)) | exact ⟨_, p77_10, (mul_i1 ha (hnn_n ha hb p2_1 c5_2) p25_6 c28_7) ▸ inS_v 0 (sg_mul (p15_3 _ ha) (p19_4 _ hb) ev22_5) c56_8 (Or.inl ⟨c69_9, rfl⟩)⟩ | exact ⟨_, p77_10, (mul_i1 ha (hnn_n ha hb p2_1 c5_2) p25_6 c28_7) ▸ inS_v 1 (sg_mul (p15_3 _ ha) (p19_4 _ hb) ev22_5) c56_8 (Or.inr ⟨c69_9, rfl⟩)⟩ | exact sp5 nokey_ ((mul_i2 hb (hnn_n ha hb p2_1 c5_2) nokey_ nokey_).trans (inS_x (sg_mul (p15_3 _ ha) (p19_4 _ hb) ev22_5) c56_8)) | exact ⟨_, p77_10, (mul_i2 hb (hnn_n ha hb p2_1 c5_2) nokey_ nokey_) ▸ inS_v 0 (sg_mul (p15_3 _ ha) (p19_4 _ hb) ev22_5) c56_8 (Or.inl ⟨c69_9, rfl⟩)⟩ | exact ⟨_, p77_10, (mul_i2 hb (hnn_n ha hb p2_1 c5_2) nokey_ nokey_) ▸ inS_v 1 (sg_mul (p15_3 _ ha) (p19_4 _ hb) ev22_5) c56_8 (Or.inr ⟨c69_9, rfl⟩)⟩)⟩
        · refine z_iconst (pc := 72) hZ 1 dR_multiply_72 (by decide) ?_
          refine z_goto (pc := 73) hZ 77 dR_multiply_73 (by decide) ?_
          obtain ⟨q77_11, hq77_11⟩ := zp_at (X := X) (f := f) h_a0
          refine z_callVN (pc := 77) (As := [.int 1]) (rest := []) hZ (cV_setInfinity l D tys X LP f a0 h_a0 1) zyV_setInfinity (z_good co_V_setInfinity) nl_R_72 (zb in_V) (zb im_V_setInfinity) (zb se_V_setInfinity) q77_11 hq77_11 rfl rfl rfl (by decide) rfl rfl (Nat.le_of_ble_eq_true rfl) ⟨Nat.zero_le _, Nat.zero_le _⟩ dR_multiply_77 (z_kv (fun w1 tys1 hp => ?_))
          obtain ⟨f77_11, rfl, rfl, p77_11⟩ := hp
          exact z_retv (pc := 80) hZ dR_multiply_80 rfl ⟨rfl, _, rfl, rfl, (by intro a b ha hb wa wb; first | exact sp5 nokey_ (mulx (hnn_y ha hb p2_1 c5_2)) | exact mul_fin 0 ha hb wa wb (hnn_n ha hb p2_1 c5_2) p25_6 c28_7 nokey_ nokey_ (sg_mul (p15_3 _ ha) (p19_4 _ hb) ev22_5) (Or.inl ⟨nokey_, rfl⟩) nokey_ | exact mul_fin 1 ha hb wa wb (hnn_n ha hb p2_1 c5_2) p25_6 c28_7 nokey_ nokey_ (sg_mul (p15_3 _ ha) (p19_4 _ hb) ev22_5) (Or.inr ⟨nokey_, rfl⟩) nokey_ | exact sp5 nokey_ ((mul_i1 ha (hnn_n ha hb p2_1 c5_2) p25_6 c28_7).trans (inS_x (sg_mul (p15_3 _ ha) (p19_4 _ hb) ev22_5) c56_8)) | exact ⟨_, p77_11, (mul_i1 ha (hnn_n ha hb p2_1 c5_2) p25_6 c28_7) ▸ inS_v 0 (sg_mul (p15_3 _ ha) (p19_4 _ hb) ev22_5) c56_8 (Or.inl ⟨c69_9, rfl⟩)⟩ | exact ⟨_, p77_11, (mul_i1 ha (hnn_n ha hb p2_1 c5_2) p25_6 c28_7) ▸ inS_v 1 (sg_mul (p15_3 _ ha) (p19_4 _ hb) ev22_5) c56_8 (Or.inr ⟨c69_9, rfl⟩)⟩ | exact sp5 nokey_ ((mul_i2 hb (hnn_n ha hb p2_1 c5_2) nokey_ nokey_).trans (inS_x (sg_mul (p15_3 _ ha) (p19_4 _ hb) ev22_5) c56_8)) | exact ⟨_, p77_11, (mul_i2 hb (hnn_n ha hb p2_1 c5_2) nokey_ nokey_) ▸ inS_v 0 (sg_mul (p15_3 _ ha) (p19_4 _ hb) ev22_5) c56_8 (Or.inl ⟨c69_9, rfl⟩)⟩ | exact ⟨_, p77_11, (mul_i2 hb (hnn_n ha hb p2_1 c5_2) nokey_ nokey_) ▸ inS_v 1 (sg_mul (p15_3 _ ha) (p19_4 _ hb) ev22_5) c56_8 (Or.inr ⟨c69_9, rfl⟩)⟩)⟩
      · refine z_aload_n (pc := 59) hZ 1 dR_multiply_59 rfl rfl ?_
        refine z_iconst (pc := 60) hZ 5 dR_multiply_60 (by decide) ?_
        obtain ⟨q61_12, hq61_12⟩ := zp_at (X := X) (f := f) h_a0
        refine z_callVN (pc := 61) (As := [.int 5]) (rest := []) hZ (cV_setSpecial l D tys X LP f a0 h_a0 5) zyV_setSpecial (z_good co_V_setSpecial) nl_R_21 (zb in_V) (zb im_V_setSpecial) (zb se_V_setSpecial) q61_12 hq61_12 rfl rfl rfl (by decide) rfl rfl (Nat.le_of_ble_eq_true rfl) ⟨Nat.zero_le _, Nat.zero_le _⟩ dR_multiply_61 (z_kv (fun w1 tys1 hp => ?_))
        obtain ⟨f61_12, rfl, rfl, p61_12⟩ := hp
        refine z_goto (pc := 64) hZ 80 dR_multiply_64 (by decide) ?_
        exact z_retv (pc := 80) hZ dR_multiply_80 rfl ⟨rfl, _, rfl, rfl, (by intro a b ha hb wa wb; first | exact sp5 nokey_ (mulx (hnn_y ha hb p2_1 c5_2)) | exact mul_fin 0 ha hb wa wb (hnn_n ha hb p2_1 c5_2) p25_6 c28_7 nokey_ nokey_ (sg_mul (p15_3 _ ha) (p19_4 _ hb) ev22_5) (Or.inl ⟨nokey_, rfl⟩) nokey_ | exact mul_fin 1 ha hb wa wb (hnn_n ha hb p2_1 c5_2) p25_6 c28_7 nokey_ nokey_ (sg_mul (p15_3 _ ha) (p19_4 _ hb) ev22_5) (Or.inr ⟨nokey_, rfl⟩) nokey_ | exact sp5 p61_12 ((mul_i1 ha (hnn_n ha hb p2_1 c5_2) p25_6 c28_7).trans (inS_x (sg_mul (p15_3 _ ha) (p19_4 _ hb) ev22_5) c56_8)) | exact ⟨_, nokey_, (mul_i1 ha (hnn_n ha hb p2_1 c5_2) p25_6 c28_7) ▸ inS_v 0 (sg_mul (p15_3 _ ha) (p19_4 _ hb) ev22_5) c56_8 (Or.inl ⟨nokey_, rfl⟩)⟩ | exact ⟨_, nokey_, (mul_i1 ha (hnn_n ha hb p2_1 c5_2) p25_6 c28_7) ▸ inS_v 1 (sg_mul (p15_3 _ ha) (p19_4 _ hb) ev22_5) c56_8 (Or.inr ⟨nokey_, rfl⟩)⟩ | exact sp5 p61_12 ((mul_i2 hb (hnn_n ha hb p2_1 c5_2) nokey_ nokey_).trans (inS_x (sg_mul (p15_3 _ ha) (p19_4 _ hb) ev22_5) c56_8)) | exact ⟨_, nokey_, (mul_i2 hb (hnn_n ha hb p2_1 c5_2) nokey_ nokey_) ▸ inS_v 0 (sg_mul (p15_3 _ ha) (p19_4 _ hb) ev22_5) c56_8 (Or.inl ⟨nokey_, rfl⟩)⟩ | exact ⟨_, nokey_, (mul_i2 hb (hnn_n ha hb p2_1 c5_2) nokey_ nokey_) ▸ inS_v 1 (sg_mul (p15_3 _ ha) (p19_4 _ hb) ev22_5) c56_8 (Or.inr ⟨nokey_, rfl⟩)⟩)⟩
    · refine z_aload_n (pc := 31) hZ 2 dR_multiply_31 rfl rfl ?_
      obtain ⟨q32_13, hq32_13⟩ := zp_at (X := X) (f := f) h_a1
      refine z_callVN (pc := 32) (As := []) (rest := []) hZ (cV_isInfinite l D tys X LP f a1 h_a1) zyV_isInfinite (z_good co_V_isInfinite) nl_R_25 (zb in_V) (zb im_V_isInfinite) (zb se_V_isInfinite) q32_13 hq32_13 rfl rfl rfl (by decide) rfl rfl (Nat.le_of_ble_eq_true rfl) ⟨Nat.zero_le _, Nat.zero_le _⟩ dR_multiply_32 (z_ki (fun r32_13 w1 tys1 hp => ?_))
      obtain ⟨rfl, rfl, p32_13⟩ := hp
      refine z_if_ne (pc := 35) hZ 55 dR_multiply_35 (by decide) (fun c35_14 => ?_) (fun c35_14 => ?_)
      · refine z_iload_n (pc := 55) hZ 0 dR_multiply_55 rfl rfl ?_
        refine z_if_ne (pc := 56) hZ 67 dR_multiply_56 (by decide) (fun c56_15 => ?_) (fun c56_15 => ?_)
        · refine z_aload_n (pc := 67) hZ 1 dR_multiply_67 rfl rfl ?_
          refine z_iload_n (pc := 68) hZ 0 dR_multiply_68 rfl rfl ?_
          refine z_if_ge (pc := 69) hZ 76 dR_multiply_69 (by decide) (fun c69_16 => ?_) (fun c69_16 => ?_)
          · refine z_iconst (pc := 76) hZ 0 dR_multiply_76 (by decide) ?_
            obtain ⟨q77_17, hq77_17⟩ := zp_at (X := X) (f := f) h_a0
            refine z_callVN (pc := 77) (As := [.int 0]) (rest := []) hZ (cV_setInfinity l D tys X LP f a0 h_a0 0) zyV_setInfinity (z_good co_V_setInfinity) nl_R_72 (zb in_V) (zb im_V_setInfinity) (zb se_V_setInfinity) q77_17 hq77_17 rfl rfl rfl (by decide) rfl rfl (Nat.le_of_ble_eq_true rfl) ⟨Nat.zero_le _, Nat.zero_le _⟩ dR_multiply_77 (z_kv (fun w1 tys1 hp => ?_))
            obtain ⟨f77_17, rfl, rfl, p77_17⟩ := hp
            exact z_retv (pc := 80) hZ dR_multiply_80 rfl ⟨rfl, _, rfl, rfl, (by intro a b ha hb wa wb; first | exact sp5 nokey_ (mulx (hnn_y ha hb p2_1 c5_2)) | exact mul_fin 0 ha hb wa wb (hnn_n ha hb p2_1 c5_2) p25_6 c28_7 p32_13 c35_14 (sg_mul (p15_3 _ ha) (p19_4 _ hb) ev22_5) (Or.inl ⟨nokey_, rfl⟩) nokey_ | exact mul_fin 1 ha hb wa wb (hnn_n ha hb p2_1 c5_2) p25_6 c28_7 p32_13 c35_14 (sg_mul (p15_3 _ ha) (p19_4 _ hb) ev22_5) (Or.inr ⟨nokey_, rfl⟩) nokey_ | exact sp5 nokey_ ((mul_i1 ha (hnn_n ha hb p2_1 c5_2) p25_6 c28_7).trans (inS_x (sg_mul (p15_3 _ ha) (p19_4 _ hb) ev22_5) c56_15)) | exact ⟨_, p77_17, (mul_i1 ha (hnn_n ha hb p2_1 c5_2) p25_6 c28_7) ▸ inS_v 0 (sg_mul (p15_3 _ ha) (p19_4 _ hb) ev22_5) c56_15 (Or.inl ⟨c69_16, rfl⟩)⟩ | exact ⟨_, p77_17, (mul_i1 ha (hnn_n ha hb p2_1 c5_2) p25_6 c28_7) ▸ inS_v 1 (sg_mul (p15_3 _ ha) (p19_4 _ hb) ev22_5) c56_15 (Or.inr ⟨c69_16, rfl⟩)⟩ | exact sp5 nokey_ ((mul_i2 hb (hnn_n ha hb p2_1 c5_2) p32_13 c35_14).trans (inS_x (sg_mul (p15_3 _ ha) (p19_4 _ hb) ev22_5) c56_15)) | exact ⟨_, p77_17, (mul_i2 hb (hnn_n ha hb p2_1 c5_2) p32_13 c35_14) ▸ inS_v 0 (sg_mul (p15_3 _ ha) (p19_4 _ hb) ev22_5) c56_15 (Or.inl ⟨c69_16, rfl⟩)⟩ | exact ⟨_, p77_17, (mul_i2 hb (hnn_n ha hb p2_1 c5_2) p32_13 c35_14) ▸ inS_v 1 (sg_mul (p15_3 _ ha) (p19_4 _ hb) ev22_5) c56_15 (Or.inr ⟨c69_16, rfl⟩)⟩)⟩
          · refine z_iconst (pc := 72) hZ 1 dR_multiply_72 (by decide) ?_
            refine z_goto (pc := 73) hZ 77 dR_multiply_73 (by decide) ?_
            obtain ⟨q77_18, hq77_18⟩ := zp_at (X := X) (f := f) h_a0
            refine z_callVN (pc := 77) (As := [.int 1]) (rest := []) hZ (cV_setInfinity l D tys X LP f a0 h_a0 1) zyV_setInfinity (z_good co_V_setInfinity) nl_R_72 (zb in_V) (zb im_V_setInfinity) (zb se_V_setInfinity) q77_18 hq77_18 rfl rfl rfl (by decide) rfl rfl (Nat.le_of_ble_eq_true rfl) ⟨Nat.zero_le _, Nat.zero_le _⟩ dR_multiply_77 (z_kv (fun w1 tys1 hp => ?_))
            obtain ⟨f77_18, rfl, rfl, p77_18⟩ := hp
            exact z_retv (pc := 80) hZ dR_multiply_80 rfl ⟨rfl, _, rfl, rfl, (by intro a b ha hb wa wb; first | exact sp5 nokey_ (mulx (hnn_y ha hb p2_1 c5_2)) | exact mul_fin 0 ha hb wa wb (hnn_n ha hb p2_1 c5_2) p25_6 c28_7 p32_13 c35_14 (sg_mul (p15_3 _ ha) (p19_4 _ hb) ev22_5) (Or.inl ⟨nokey_, rfl⟩) nokey_ | exact mul_fin 1 ha hb wa wb (hnn_n ha hb p2_1 c5_2) p25_6 c28_7 p32_13 c35_14 (sg_mul (p15_3 _ ha) (p19_4 _ hb) ev22_5) (Or.inr ⟨nokey_, rfl⟩) nokey_ | exact sp5 nokey_ ((mul_i1 ha (hnn_n ha hb p2_1 c5_2) p25_6 c28_7).trans (inS_x (sg_mul (p15_3 _ ha) (p19_4 _ hb) ev22_5) c56_15)) | exact ⟨_, p77_18, (mul_i1 ha (hnn_n ha hb p2_1 c5_2) p25_6 c28_7) ▸ inS_v 0 (sg_mul (p15_3 _ ha) (p19_4 _ hb) ev22_5) c56_15 (Or.inl ⟨c69_16, rfl⟩)⟩ | exact ⟨_, p77_18, (mul_i1 ha (hnn_n ha hb p2_1 c5_2) p25_6 c28_7) ▸ inS_v 1 (sg_mul (p15_3 _ ha) (p19_4 _ hb) ev22_5) c56_15 (Or.inr ⟨c69_16, rfl⟩)⟩ | exact sp5 nokey_ ((mul_i2 hb (hnn_n ha hb p2_1 c5_2) p32_13 c35_14).trans (inS_x (sg_mul (p15_3 _ ha) (p19_4 _ hb) ev22_5) c56_15)) | exact ⟨_, p77_18, (mul_i2 hb (hnn_n ha hb p2_1 c5_2) p32_13 c35_14) ▸ inS_v 0 (sg_mul (p15_3 _ ha) (p19_4 _ hb) ev22_5) c56_15 (Or.inl ⟨c69_16, rfl⟩)⟩ | exact ⟨_, p77_18, (mul_i2 hb (hnn_n ha hb p2_1 c5_2) p32_13 c35_14) ▸ inS_v 1 (sg_mul (p15_3 _ ha) (p19_4 _ hb) ev22_5) c56_15 (Or.inr ⟨c69_16, rfl⟩)⟩)⟩
        · refine z_aload_n (pc := 59) hZ 1 dR_multiply_59 rfl rfl ?_
          refine z_iconst (pc := 60) hZ 5 dR_multiply_60 (by decide) ?_
          obtain ⟨q61_19, hq61_19⟩ := zp_at (X := X) (f := f) h_a0
          refine z_callVN (pc := 61) (As := [.int 5]) (rest := []) hZ (cV_setSpecial l D tys X LP f a0 h_a0 5) zyV_setSpecial (z_good co_V_setSpecial) nl_R_21 (zb in_V) (zb im_V_setSpecial) (zb se_V_setSpecial) q61_19 hq61_19 rfl rfl rfl (by decide) rfl rfl (Nat.le_of_ble_eq_true rfl) ⟨Nat.zero_le _, Nat.zero_le _⟩ dR_multiply_61 (z_kv (fun w1 tys1 hp => ?_))
          obtain ⟨f61_19, rfl, rfl, p61_19⟩ := hp
          refine z_goto (pc := 64) hZ 80 dR_multiply_64 (by decide) ?_
          exact z_retv (pc := 80) hZ dR_multiply_80 rfl ⟨rfl, _, rfl, rfl, (by intro a b ha hb wa wb; first | exact sp5 nokey_ (mulx (hnn_y ha hb p2_1 c5_2)) | exact mul_fin 0 ha hb wa wb (hnn_n ha hb p2_1 c5_2) p25_6 c28_7 p32_13 c35_14 (sg_mul (p15_3 _ ha) (p19_4 _ hb) ev22_5) (Or.inl ⟨nokey_, rfl⟩) nokey_ | exact mul_fin 1 ha hb wa wb (hnn_n ha hb p2_1 c5_2) p25_6 c28_7 p32_13 c35_14 (sg_mul (p15_3 _ ha) (p19_4 _ hb) ev22_5) (Or.inr ⟨nokey_, rfl⟩) nokey_ | exact sp5 p61_19 ((mul_i1 ha (hnn_n ha hb p2_1 c5_2) p25_6 c28_7).trans (inS_x (sg_mul (p15_3 _ ha) (p19_4 _ hb) ev22_5) c56_15)) | exact ⟨_, nokey_, (mul_i1 ha (hnn_n ha hb p2_1 c5_2) p25_6 c28_7) ▸ inS_v 0 (sg_mul (p15_3 _ ha) (p19_4 _ hb) ev22_5) c56_15 (Or.inl ⟨nokey_, rfl⟩)⟩ | exact ⟨_, nokey_, (mul_i1 ha (hnn_n ha hb p2_1 c5_2) p25_6 c28_7) ▸ inS_v 1 (sg_mul (p15_3 _ ha) (p19_4 _ hb) ev22_5) c56_15 (Or.inr ⟨nokey_, rfl⟩)⟩ | exact sp5 p61_19 ((mul_i2 hb (hnn_n ha hb p2_1 c5_2) p32_13 c35_14).trans (inS_x (sg_mul (p15_3 _ ha) (p19_4 _ hb) ev22_5) c56_15)) | exact ⟨_, nokey_, (mul_i2 hb (hnn_n ha hb p2_1 c5_2) p32_13 c35_14) ▸ inS_v 0 (sg_mul (p15_3 _ ha) (p19_4 _ hb) ev22_5) c56_15 (Or.inl ⟨nokey_, rfl⟩)⟩ | exact ⟨_, nokey_, (mul_i2 hb (hnn_n ha hb p2_1 c5_2) p32_13 c35_14) ▸ inS_v 1 (sg_mul (p15_3 _ ha) (p19_4 _ hb) ev22_5) c56_15 (Or.inr ⟨nokey_, rfl⟩)⟩)⟩
      · refine z_aload_n (pc := 38) hZ 1 dR_multiply_38 rfl rfl ?_
        refine z_aload_n (pc := 39) hZ 2 dR_multiply_39 rfl rfl ?_
        refine z_iload_n (pc := 40) hZ 0 dR_multiply_40 rfl rfl ?_
        refine z_if_ge (pc := 41) hZ 48 dR_multiply_41 (by decide) (fun c41_20 => ?_) (fun c41_20 => ?_)
        · refine z_iconst (pc := 48) hZ 0 dR_multiply_48 (by decide) ?_
          refine z_callS (pc := 49) (As := [.ref a0, .ref a1, .int 0]) (rest := []) hZ (cR_multiplyFinite l D tys X LP f a0 h_a0 a1 h_a1 0) zyR_multiplyFinite (z_goodS ml_R_68 st_R_multiplyFinite in_R co_R_multiplyFinite) rfl rfl (by decide) rfl rfl (Nat.le_of_ble_eq_true rfl) ⟨Nat.zero_le _, Nat.zero_le _⟩ dR_multiply_49 (z_kv (fun w1 tys1 hp => ?_))
          obtain ⟨f49_21, rfl, rfl, p49_21⟩ := hp
          refine z_goto (pc := 52) hZ 80 dR_multiply_52 (by decide) ?_
          exact z_retv (pc := 80) hZ dR_multiply_80 rfl ⟨rfl, _, rfl, rfl, (by intro a b ha hb wa wb; first | exact sp5 nokey_ (mulx (hnn_y ha hb p2_1 c5_2)) | exact mul_fin 0 ha hb wa wb (hnn_n ha hb p2_1 c5_2) p25_6 c28_7 p32_13 c35_14 (sg_mul (p15_3 _ ha) (p19_4 _ hb) ev22_5) (Or.inl ⟨c41_20, rfl⟩) p49_21 | exact mul_fin 1 ha hb wa wb (hnn_n ha hb p2_1 c5_2) p25_6 c28_7 p32_13 c35_14 (sg_mul (p15_3 _ ha) (p19_4 _ hb) ev22_5) (Or.inr ⟨c41_20, rfl⟩) p49_21 | exact sp5 nokey_ ((mul_i1 ha (hnn_n ha hb p2_1 c5_2) p25_6 c28_7).trans (inS_x (sg_mul (p15_3 _ ha) (p19_4 _ hb) ev22_5) nokey_)) | exact ⟨_, nokey_, (mul_i1 ha (hnn_n ha hb p2_1 c5_2) p25_6 c28_7) ▸ inS_v 0 (sg_mul (p15_3 _ ha) (p19_4 _ hb) ev22_5) nokey_ (Or.inl ⟨nokey_, rfl⟩)⟩ | exact ⟨_, nokey_, (mul_i1 ha (hnn_n ha hb p2_1 c5_2) p25_6 c28_7) ▸ inS_v 1 (sg_mul (p15_3 _ ha) (p19_4 _ hb) ev22_5) nokey_ (Or.inr ⟨nokey_, rfl⟩)⟩ | exact sp5 nokey_ ((mul_i2 hb (hnn_n ha hb p2_1 c5_2) p32_13 c35_14).trans (inS_x (sg_mul (p15_3 _ ha) (p19_4 _ hb) ev22_5) nokey_)) | exact ⟨_, nokey_, (mul_i2 hb (hnn_n ha hb p2_1 c5_2) p32_13 c35_14) ▸ inS_v 0 (sg_mul (p15_3 _ ha) (p19_4 _ hb) ev22_5) nokey_ (Or.inl ⟨nokey_, rfl⟩)⟩ | exact ⟨_, nokey_, (mul_i2 hb (hnn_n ha hb p2_1 c5_2) p32_13 c35_14) ▸ inS_v 1 (sg_mul (p15_3 _ ha) (p19_4 _ hb) ev22_5) nokey_ (Or.inr ⟨nokey_, rfl⟩)⟩)⟩
        · refine z_iconst (pc := 44) hZ 1 dR_multiply_44 (by decide) ?_
          refine z_goto (pc := 45) hZ 49 dR_multiply_45 (by decide) ?_
          refine z_callS (pc := 49) (As := [.ref a0, .ref a1, .int 1]) (rest := []) hZ (cR_multiplyFinite l D tys X LP f a0 h_a0 a1 h_a1 1) zyR_multiplyFinite (z_goodS ml_R_68 st_R_multiplyFinite in_R co_R_multiplyFinite) rfl rfl (by decide) rfl rfl (Nat.le_of_ble_eq_true rfl) ⟨Nat.zero_le _, Nat.zero_le _⟩ dR_multiply_49 (z_kv (fun w1 tys1 hp => ?_))
          obtain ⟨f49_22, rfl, rfl, p49_22⟩ := hp
          refine z_goto (pc := 52) hZ 80 dR_multiply_52 (by decide) ?_
          exact z_retv (pc := 80) hZ dR_multiply_80 rfl ⟨rfl, _, rfl, rfl, (by intro a b ha hb wa wb; first | exact sp5 nokey_ (mulx (hnn_y ha hb p2_1 c5_2)) | exact mul_fin 0 ha hb wa wb (hnn_n ha hb p2_1 c5_2) p25_6 c28_7 p32_13 c35_14 (sg_mul (p15_3 _ ha) (p19_4 _ hb) ev22_5) (Or.inl ⟨c41_20, rfl⟩) p49_22 | exact mul_fin 1 ha hb wa wb (hnn_n ha hb p2_1 c5_2) p25_6 c28_7 p32_13 c35_14 (sg_mul (p15_3 _ ha) (p19_4 _ hb) ev22_5) (Or.inr ⟨c41_20, rfl⟩) p49_22 | exact sp5 nokey_ ((mul_i1 ha (hnn_n ha hb p2_1 c5_2) p25_6 c28_7).trans (inS_x (sg_mul (p15_3 _ ha) (p19_4 _ hb) ev22_5) nokey_)) | exact ⟨_, nokey_, (mul_i1 ha (hnn_n ha hb p2_1 c5_2) p25_6 c28_7) ▸ inS_v 0 (sg_mul (p15_3 _ ha) (p19_4 _ hb) ev22_5) nokey_ (Or.inl ⟨nokey_, rfl⟩)⟩ | exact ⟨_, nokey_, (mul_i1 ha (hnn_n ha hb p2_1 c5_2) p25_6 c28_7) ▸ inS_v 1 (sg_mul (p15_3 _ ha) (p19_4 _ hb) ev22_5) nokey_ (Or.inr ⟨nokey_, rfl⟩)⟩ | exact sp5 nokey_ ((mul_i2 hb (hnn_n ha hb p2_1 c5_2) p32_13 c35_14).trans (inS_x (sg_mul (p15_3 _ ha) (p19_4 _ hb) ev22_5) nokey_)) | exact ⟨_, nokey_, (mul_i2 hb (hnn_n ha hb p2_1 c5_2) p32_13 c35_14) ▸ inS_v 0 (sg_mul (p15_3 _ ha) (p19_4 _ hb) ev22_5) nokey_ (Or.inl ⟨nokey_, rfl⟩)⟩ | exact ⟨_, nokey_, (mul_i2 hb (hnn_n ha hb p2_1 c5_2) p32_13 c35_14) ▸ inS_v 1 (sg_mul (p15_3 _ ha) (p19_4 _ hb) ev22_5) nokey_ (Or.inr ⟨nokey_, rfl⟩)⟩)⟩
  · refine z_aload_n (pc := 8) hZ 0 dR_multiply_8 rfl rfl ?_
    refine z_iconst (pc := 9) hZ 5 dR_multiply_9 (by decide) ?_
    obtain ⟨q10_23, hq10_23⟩ := zp_at (X := X) (f := f) h_a0
    refine z_callVN (pc := 10) (As := [.int 5]) (rest := []) hZ (cV_setSpecial l D tys X LP f a0 h_a0 5) zyV_setSpecial (z_good co_V_setSpecial) nl_R_21 (zb in_V) (zb im_V_setSpecial) (zb se_V_setSpecial) q10_23 hq10_23 rfl rfl rfl (by decide) rfl rfl (Nat.le_of_ble_eq_true rfl) ⟨Nat.zero_le _, Nat.zero_le _⟩ dR_multiply_10 (z_kv (fun w1 tys1 hp => ?_))
    obtain ⟨f10_23, rfl, rfl, p10_23⟩ := hp
    exact z_retv (pc := 13) hZ dR_multiply_13 rfl ⟨rfl, _, rfl, rfl, (by intro a b ha hb wa wb; first | exact sp5 p10_23 (mulx (hnn_y ha hb p2_1 c5_2)) | exact mul_fin 0 ha hb wa wb (hnn_n ha hb p2_1 c5_2) nokey_ nokey_ nokey_ nokey_ (sg_mul (nokey_ _ ha) (nokey_ _ hb) nokey_) (Or.inl ⟨nokey_, rfl⟩) nokey_ | exact mul_fin 1 ha hb wa wb (hnn_n ha hb p2_1 c5_2) nokey_ nokey_ nokey_ nokey_ (sg_mul (nokey_ _ ha) (nokey_ _ hb) nokey_) (Or.inr ⟨nokey_, rfl⟩) nokey_ | exact sp5 nokey_ ((mul_i1 ha (hnn_n ha hb p2_1 c5_2) nokey_ nokey_).trans (inS_x (sg_mul (nokey_ _ ha) (nokey_ _ hb) nokey_) nokey_)) | exact ⟨_, nokey_, (mul_i1 ha (hnn_n ha hb p2_1 c5_2) nokey_ nokey_) ▸ inS_v 0 (sg_mul (nokey_ _ ha) (nokey_ _ hb) nokey_) nokey_ (Or.inl ⟨nokey_, rfl⟩)⟩ | exact ⟨_, nokey_, (mul_i1 ha (hnn_n ha hb p2_1 c5_2) nokey_ nokey_) ▸ inS_v 1 (sg_mul (nokey_ _ ha) (nokey_ _ hb) nokey_) nokey_ (Or.inr ⟨nokey_, rfl⟩)⟩ | exact sp5 nokey_ ((mul_i2 hb (hnn_n ha hb p2_1 c5_2) nokey_ nokey_).trans (inS_x (sg_mul (nokey_ _ ha) (nokey_ _ hb) nokey_) nokey_)) | exact ⟨_, nokey_, (mul_i2 hb (hnn_n ha hb p2_1 c5_2) nokey_ nokey_) ▸ inS_v 0 (sg_mul (nokey_ _ ha) (nokey_ _ hb) nokey_) nokey_ (Or.inl ⟨nokey_, rfl⟩)⟩ | exact ⟨_, nokey_, (mul_i2 hb (hnn_n ha hb p2_1 c5_2) nokey_ nokey_) ▸ inS_v 1 (sg_mul (nokey_ _ ha) (nokey_ _ hb) nokey_) nokey_ (Or.inr ⟨nokey_, rfl⟩)⟩)⟩
set_option maxHeartbeats 4000000 in
set_option maxRecDepth 100000 in
theorem cR_divideByZero (l : Launch) (D : va_G) (tys : zT) (X : va_W) (LP : List Nat) (f : Nat → V3) (a0 : Nat) (h_a0 : a0 ∈ LP) : zM l D vwCl zNF zNM yR_divideByZero wsR_divideByZero { frames := 2, cells := 0, slots := 0, locals := 41 } [.ref a0] (X ++ PL LP f) tys (qV (fun w' tys' => ∃ f' : Nat → V3, X ++ PL LP f' = w' ∧ tys = tys' ∧ (∀ a, CA (f a0) a → UPD f f' a0 (inS (sg a))))) := by
  refine z_met (cc := bR_divideByZero) (maxL := 1) (ret := none) (isI := false) (own := RR) (by decide +kernel) rfl rfl (fun h => by cases h) (Nat.le_of_ble_eq_true rfl) (fun Z hZ => ?_)
  show Z 0 0 tys 0 [(0, .ref a0)] [] (X ++ PL LP f)
  refine z_aload_n (pc := 0) hZ 0 dR_divideByZero_0 rfl rfl ?_
  obtain ⟨q1_1, hq1_1⟩ := zp_at (X := X) (f := f) h_a0
  refine z_callVN (pc := 1) (As := []) (rest := []) hZ (cV_sign l D tys X LP f a0 h_a0) zyV_sign (z_good co_V_sign) nl_R_60 (zb in_V) (zb im_V_sign) (zb se_V_sign) q1_1 hq1_1 rfl rfl rfl (by decide) rfl rfl (Nat.le_of_ble_eq_true rfl) ⟨Nat.zero_le _, Nat.zero_le _⟩ dR_divideByZero_1 (z_ki (fun r1_1 w1 tys1 hp => ?_))
  obtain ⟨rfl, rfl, p1_1⟩ := hp
  refine z_if_ne (pc := 4) hZ 15 dR_divideByZero_4 (by decide) (fun c4_2 => ?_) (fun c4_2 => ?_)
  · refine z_aload_n (pc := 15) hZ 0 dR_divideByZero_15 rfl rfl ?_
    refine z_aload_n (pc := 16) hZ 0 dR_divideByZero_16 rfl rfl ?_
    obtain ⟨q17_3, hq17_3⟩ := zp_at (X := X) (f := f) h_a0
    refine z_callVN (pc := 17) (As := []) (rest := [.ref a0]) hZ (cV_sign l D tys X LP f a0 h_a0) zyV_sign (z_good co_V_sign) nl_R_60 (zb in_V) (zb im_V_sign) (zb se_V_sign) q17_3 hq17_3 rfl rfl rfl (by decide) rfl rfl (Nat.le_of_ble_eq_true rfl) ⟨Nat.zero_le _, Nat.zero_le _⟩ dR_divideByZero_17 (z_ki (fun r17_3 w1 tys1 hp => ?_))
    obtain ⟨rfl, rfl, p17_3⟩ := hp
    refine z_if_ge (pc := 20) hZ 27 dR_divideByZero_20 (by decide) (fun c20_4 => ?_) (fun c20_4 => ?_)
    · refine z_iconst (pc := 27) hZ 0 dR_divideByZero_27 (by decide) ?_
      obtain ⟨q28_5, hq28_5⟩ := zp_at (X := X) (f := f) h_a0
      refine z_callVN (pc := 28) (As := [.int 0]) (rest := []) hZ (cV_setInfinity l D tys X LP f a0 h_a0 0) zyV_setInfinity (z_good co_V_setInfinity) nl_R_72 (zb in_V) (zb im_V_setInfinity) (zb se_V_setInfinity) q28_5 hq28_5 rfl rfl rfl (by decide) rfl rfl (Nat.le_of_ble_eq_true rfl) ⟨Nat.zero_le _, Nat.zero_le _⟩ dR_divideByZero_28 (z_kv (fun w1 tys1 hp => ?_))
      obtain ⟨f28_5, rfl, rfl, p28_5⟩ := hp
      exact z_retv (pc := 31) hZ dR_divideByZero_31 rfl ⟨rfl, _, rfl, rfl, (by intro a h; first | exact sp5 nokey_ (dz_x (p1_1 _ h) c4_2) | exact ⟨_, p28_5, inS_v 0 (SG_t (p17_3 _ h) (sg_3 a)) (dz_n (p1_1 _ h) c4_2 (p17_3 _ h)) (Or.inl ⟨c20_4, rfl⟩)⟩ | exact ⟨_, p28_5, inS_v 1 (SG_t (p17_3 _ h) (sg_3 a)) (dz_n (p1_1 _ h) c4_2 (p17_3 _ h)) (Or.inr ⟨c20_4, rfl⟩)⟩)⟩
    · refine z_iconst (pc := 23) hZ 1 dR_divideByZero_23 (by decide) ?_
      refine z_goto (pc := 24) hZ 28 dR_divideByZero_24 (by decide) ?_
      obtain ⟨q28_6, hq28_6⟩ := zp_at (X := X) (f := f) h_a0
      refine z_callVN (pc := 28) (As := [.int 1]) (rest := []) hZ (cV_setInfinity l D tys X LP f a0 h_a0 1) zyV_setInfinity (z_good co_V_setInfinity) nl_R_72 (zb in_V) (zb im_V_setInfinity) (zb se_V_setInfinity) q28_6 hq28_6 rfl rfl rfl (by decide) rfl rfl (Nat.le_of_ble_eq_true rfl) ⟨Nat.zero_le _, Nat.zero_le _⟩ dR_divideByZero_28 (z_kv (fun w1 tys1 hp => ?_))
      obtain ⟨f28_6, rfl, rfl, p28_6⟩ := hp
      exact z_retv (pc := 31) hZ dR_divideByZero_31 rfl ⟨rfl, _, rfl, rfl, (by intro a h; first | exact sp5 nokey_ (dz_x (p1_1 _ h) c4_2) | exact ⟨_, p28_6, inS_v 0 (SG_t (p17_3 _ h) (sg_3 a)) (dz_n (p1_1 _ h) c4_2 (p17_3 _ h)) (Or.inl ⟨c20_4, rfl⟩)⟩ | exact ⟨_, p28_6, inS_v 1 (SG_t (p17_3 _ h) (sg_3 a)) (dz_n (p1_1 _ h) c4_2 (p17_3 _ h)) (Or.inr ⟨c20_4, rfl⟩)⟩)⟩
  · refine z_aload_n (pc := 7) hZ 0 dR_divideByZero_7 rfl rfl ?_
    refine z_iconst (pc := 8) hZ 5 dR_divideByZero_8 (by decide) ?_
    obtain ⟨q9_7, hq9_7⟩ := zp_at (X := X) (f := f) h_a0
    refine z_callVN (pc := 9) (As := [.int 5]) (rest := []) hZ (cV_setSpecial l D tys X LP f a0 h_a0 5) zyV_setSpecial (z_good co_V_setSpecial) nl_R_21 (zb in_V) (zb im_V_setSpecial) (zb se_V_setSpecial) q9_7 hq9_7 rfl rfl rfl (by decide) rfl rfl (Nat.le_of_ble_eq_true rfl) ⟨Nat.zero_le _, Nat.zero_le _⟩ dR_divideByZero_9 (z_kv (fun w1 tys1 hp => ?_))
    obtain ⟨f9_7, rfl, rfl, p9_7⟩ := hp
    refine z_goto (pc := 12) hZ 31 dR_divideByZero_12 (by decide) ?_
    exact z_retv (pc := 31) hZ dR_divideByZero_31 rfl ⟨rfl, _, rfl, rfl, (by intro a h; first | exact sp5 p9_7 (dz_x (p1_1 _ h) c4_2) | exact ⟨_, nokey_, inS_v 0 (SG_t (nokey_ _ h) (sg_3 a)) (dz_n (p1_1 _ h) c4_2 (nokey_ _ h)) (Or.inl ⟨nokey_, rfl⟩)⟩ | exact ⟨_, nokey_, inS_v 1 (SG_t (nokey_ _ h) (sg_3 a)) (dz_n (p1_1 _ h) c4_2 (nokey_ _ h)) (Or.inr ⟨nokey_, rfl⟩)⟩)⟩
set_option maxHeartbeats 4000000 in
set_option maxRecDepth 100000 in
theorem cR_divideFinite (l : Launch) (D : va_G) (tys : zT) (X : va_W) (LP : List Nat) (f : Nat → V3) (a0 : Nat) (h_a0 : a0 ∈ LP) (a1 : Nat) (h_a1 : a1 ∈ LP) : zM l D vwCl zNF zNM yR_divideFinite wsR_divideFinite { frames := 3, cells := 0, slots := 0, locals := 74 } [.ref a0, .ref a1] (X ++ PL LP f) tys (qV (fun w' tys' => ∃ f' : Nat → V3, X ++ PL LP f' = w' ∧ tys = tys' ∧ (∀ A B, CA (f a0) (.inr (.inl A)) → CA (f a1) (.inr (.inl B)) → A ≠ 0 → B ≠ 0 → UPD f f' a0 (rnd (decide (A.sign ≠ B.sign)) (A.natAbs * W1 / B.natAbs) (decide (A.natAbs * W1 % B.natAbs ≠ 0)))))) := by
  refine z_met (cc := bR_divideFinite) (maxL := 13) (ret := none) (isI := false) (own := RR) (by decide +kernel) rfl rfl (fun h => by cases h) (Nat.le_of_ble_eq_true rfl) (fun Z hZ => ?_)
  show Z 0 0 tys 0 [(0, .ref a0), (1, .ref a1)] [] (X ++ PL LP f)
  refine z_aload_n (pc := 0) hZ 0 dR_divideFinite_0 rfl rfl ?_
  obtain ⟨q1_1, hq1_1⟩ := zp_at (X := X) (f := f) h_a0
  refine z_callVN (pc := 1) (As := []) (rest := []) hZ (cV_size l D tys X LP f a0 h_a0) zyV_size (z_good co_V_size) nl_R_47 (zb in_V) (zb im_V_size) (zb se_V_size) q1_1 hq1_1 rfl rfl rfl (by decide) rfl rfl (Nat.le_of_ble_eq_true rfl) ⟨Nat.zero_le _, Nat.zero_le _⟩ dR_divideFinite_1 (z_kl (fun r1_1 w1 tys1 hp => ?_))
  obtain ⟨rfl, rfl, p1_1⟩ := hp
  refine z_callS (pc := 4) (As := [.long r1_1]) (rest := []) hZ (cJL_numberOfLeadingZeros l D tys (X ++ PL LP f) r1_1) zyJL_numberOfLeadingZeros (z_goodS ml_R_51 st_JL_numberOfLeadingZeros in_JL co_JL_numberOfLeadingZeros) rfl rfl (by decide) rfl rfl (Nat.le_of_ble_eq_true rfl) ⟨Nat.zero_le _, Nat.zero_le _⟩ dR_divideFinite_4 (z_ki (fun r4_2 w1 tys1 hp => ?_))
  obtain ⟨rfl, rfl, p4_2⟩ := hp
  refine z_bipush (pc := 7) hZ 11 dR_divideFinite_7 (by decide) ?_
  refine z_isub (pc := 9) hZ dR_divideFinite_9 (fun v9_3 ev9_3 => ?_)
  refine z_istore_n (pc := 10) hZ [(2, .int v9_3), (0, .ref a0), (1, .ref a1)] dR_divideFinite_10 rfl (by decide) rfl ?_
  refine z_aload_n (pc := 11) hZ 2 dR_divideFinite_11 rfl rfl ?_
  obtain ⟨q12_4, hq12_4⟩ := zp_at (X := X) (f := f) h_a1
  refine z_callVN (pc := 12) (As := []) (rest := []) hZ (cV_size l D tys X LP f a1 h_a1) zyV_size (z_good co_V_size) nl_R_47 (zb in_V) (zb im_V_size) (zb se_V_size) q12_4 hq12_4 rfl rfl rfl (by decide) rfl rfl (Nat.le_of_ble_eq_true rfl) ⟨Nat.zero_le _, Nat.zero_le _⟩ dR_divideFinite_12 (z_kl (fun r12_4 w1 tys1 hp => ?_))
  obtain ⟨rfl, rfl, p12_4⟩ := hp
  refine z_callS (pc := 15) (As := [.long r12_4]) (rest := []) hZ (cJL_numberOfLeadingZeros l D tys (X ++ PL LP f) r12_4) zyJL_numberOfLeadingZeros (z_goodS ml_R_51 st_JL_numberOfLeadingZeros in_JL co_JL_numberOfLeadingZeros) rfl rfl (by decide) rfl rfl (Nat.le_of_ble_eq_true rfl) ⟨Nat.zero_le _, Nat.zero_le _⟩ dR_divideFinite_15 (z_ki (fun r15_5 w1 tys1 hp => ?_))
  obtain ⟨rfl, rfl, p15_5⟩ := hp
  refine z_bipush (pc := 18) hZ 11 dR_divideFinite_18 (by decide) ?_
  refine z_isub (pc := 20) hZ dR_divideFinite_20 (fun v20_6 ev20_6 => ?_)
  refine z_istore_n (pc := 21) hZ [(3, .int v20_6), (2, .int v9_3), (0, .ref a0), (1, .ref a1)] dR_divideFinite_21 rfl (by decide) rfl ?_
  refine z_aload_n (pc := 22) hZ 3 dR_divideFinite_22 rfl rfl ?_
  obtain ⟨q23_7, hq23_7⟩ := zp_at (X := X) (f := f) h_a1
  refine z_callVN (pc := 23) (As := []) (rest := []) hZ (cV_size l D tys X LP f a1 h_a1) zyV_size (z_good co_V_size) nl_R_47 (zb in_V) (zb im_V_size) (zb se_V_size) q23_7 hq23_7 rfl rfl rfl (by decide) rfl rfl (Nat.le_of_ble_eq_true rfl) ⟨Nat.zero_le _, Nat.zero_le _⟩ dR_divideFinite_23 (z_kl (fun r23_7 w1 tys1 hp => ?_))
  obtain ⟨rfl, rfl, p23_7⟩ := hp
  refine z_iload_n (pc := 26) hZ 0 dR_divideFinite_26 rfl rfl ?_
  refine z_lshl (pc := 27) hZ dR_divideFinite_27 (fun v27_8 ev27_8 => ?_)
  refine z_lstore (pc := 28) hZ [(4, .long v27_8), (3, .int v20_6), (2, .int v9_3), (0, .ref a0), (1, .ref a1)] dR_divideFinite_28 (by decide) rfl ?_
  refine z_lload (pc := 30) hZ 0 dR_divideFinite_30 rfl ?_
  refine z_lconst (pc := 32) hZ 0 dR_divideFinite_32 (by decide) ?_
  refine z_lif_ne (pc := 33) hZ 38 dR_divideFinite_33 dR_divideFinite_34 (by decide) (fun c34_9 => ?_) (fun c34_9 => ?_)
  · refine z_aload_n (pc := 38) hZ 3 dR_divideFinite_38 rfl rfl ?_
    obtain ⟨q39_10, hq39_10⟩ := zp_at (X := X) (f := f) h_a0
    refine z_callVN (pc := 39) (As := []) (rest := []) hZ (cV_sign l D tys X LP f a0 h_a0) zyV_sign (z_good co_V_sign) nl_R_60 (zb in_V) (zb im_V_sign) (zb se_V_sign) q39_10 hq39_10 rfl rfl rfl (by decide) rfl rfl (Nat.le_of_ble_eq_true rfl) ⟨Nat.zero_le _, Nat.zero_le _⟩ dR_divideFinite_39 (z_ki (fun r39_10 w1 tys1 hp => ?_))
    obtain ⟨rfl, rfl, p39_10⟩ := hp
    refine z_aload_n (pc := 42) hZ 4 dR_divideFinite_42 rfl rfl ?_
    obtain ⟨q43_11, hq43_11⟩ := zp_at (X := X) (f := f) h_a1
    refine z_callVN (pc := 43) (As := []) (rest := [.int r39_10]) hZ (cV_sign l D tys X LP f a1 h_a1) zyV_sign (z_good co_V_sign) nl_R_60 (zb in_V) (zb im_V_sign) (zb se_V_sign) q43_11 hq43_11 rfl rfl rfl (by decide) rfl rfl (Nat.le_of_ble_eq_true rfl) ⟨Nat.zero_le _, Nat.zero_le _⟩ dR_divideFinite_43 (z_ki (fun r43_11 w1 tys1 hp => ?_))
    obtain ⟨rfl, rfl, p43_11⟩ := hp
    refine z_icmp_eq (pc := 46) hZ 53 dR_divideFinite_46 (by decide) (fun c46_12 => ?_) (fun c46_12 => ?_)
    · refine z_iconst (pc := 53) hZ 0 dR_divideFinite_53 (by decide) ?_
      refine z_istore (pc := 54) hZ [(6, .int 0), (4, .long v27_8), (3, .int v20_6), (2, .int v9_3), (0, .ref a0), (1, .ref a1)] dR_divideFinite_54 (by decide) rfl ?_
      refine z_aload_n (pc := 56) hZ 4 dR_divideFinite_56 rfl rfl ?_
      refine z_pg2N (pc := 57) hZ h_a0 uc_V nf_R_57 dR_divideFinite_57 (fun v57_13 ev57_13 => ?_)
      refine z_iload_n (pc := 60) hZ 3 dR_divideFinite_60 rfl rfl ?_
      refine z_isub (pc := 61) hZ dR_divideFinite_61 (fun v61_14 ev61_14 => ?_)
      refine z_aload_n (pc := 62) hZ 5 dR_divideFinite_62 rfl rfl ?_
      refine z_pg2N (pc := 63) hZ h_a1 uc_V nf_R_57 dR_divideFinite_63 (fun v63_15 ev63_15 => ?_)
      refine z_iload_n (pc := 66) hZ 2 dR_divideFinite_66 rfl rfl ?_
      refine z_isub (pc := 67) hZ dR_divideFinite_67 (fun v67_16 ev67_16 => ?_)
      refine z_isub (pc := 68) hZ dR_divideFinite_68 (fun v68_17 ev68_17 => ?_)
      refine z_bipush (pc := 69) hZ 60 dR_divideFinite_69 (by decide) ?_
      refine z_isub (pc := 71) hZ dR_divideFinite_71 (fun v71_18 ev71_18 => ?_)
      refine z_istore (pc := 72) hZ [(7, .int v71_18), (6, .int 0), (4, .long v27_8), (3, .int v20_6), (2, .int v9_3), (0, .ref a0), (1, .ref a1)] dR_divideFinite_72 (by decide) rfl ?_
      refine z_aload_n (pc := 74) hZ 5 dR_divideFinite_74 rfl rfl ?_
      obtain ⟨q75_19, hq75_19⟩ := zp_at (X := X) (f := f) h_a0
      refine z_callVN (pc := 75) (As := []) (rest := []) hZ (cV_size l D tys X LP f a0 h_a0) zyV_size (z_good co_V_size) nl_R_47 (zb in_V) (zb im_V_size) (zb se_V_size) q75_19 hq75_19 rfl rfl rfl (by decide) rfl rfl (Nat.le_of_ble_eq_true rfl) ⟨Nat.zero_le _, Nat.zero_le _⟩ dR_divideFinite_75 (z_kl (fun r75_19 w1 tys1 hp => ?_))
      obtain ⟨rfl, rfl, p75_19⟩ := hp
      refine z_iload_n (pc := 78) hZ 4 dR_divideFinite_78 rfl rfl ?_
      refine z_lshl (pc := 79) hZ dR_divideFinite_79 (fun v79_20 ev79_20 => ?_)
      refine z_lstore (pc := 80) hZ [(8, .long v79_20), (7, .int v71_18), (6, .int 0), (4, .long v27_8), (3, .int v20_6), (2, .int v9_3), (0, .ref a0), (1, .ref a1)] dR_divideFinite_80 (by decide) rfl ?_
      refine z_lload (pc := 82) hZ 0 dR_divideFinite_82 rfl ?_
      refine z_lload (pc := 84) hZ 3 dR_divideFinite_84 rfl ?_
      refine z_ldiv (pc := 86) hZ dR_divideFinite_86 (by assumption) (fun v86_21 ev86_21 => ?_)
      refine z_lstore (pc := 87) hZ [(10, .long v86_21), (8, .long v79_20), (7, .int v71_18), (6, .int 0), (4, .long v27_8), (3, .int v20_6), (2, .int v9_3), (0, .ref a0), (1, .ref a1)] dR_divideFinite_87 (by decide) rfl ?_
      refine z_lload (pc := 89) hZ 1 dR_divideFinite_89 rfl ?_
      refine z_lload (pc := 91) hZ 4 dR_divideFinite_91 rfl ?_
      refine z_lrem (pc := 93) hZ dR_divideFinite_93 (by assumption) (fun v93_22 ev93_22 => ?_)
      refine z_lstore (pc := 94) hZ [(8, .long v93_22), (10, .long v86_21), (7, .int v71_18), (6, .int 0), (4, .long v27_8), (3, .int v20_6), (2, .int v9_3), (0, .ref a0), (1, .ref a1)] dR_divideFinite_94 (by decide) rfl ?_
      refine z_iconst (pc := 96) hZ 0 dR_divideFinite_96 (by decide) ?_
      refine z_istore (pc := 97) hZ [(12, .int 0), (8, .long v93_22), (10, .long v86_21), (7, .int v71_18), (6, .int 0), (4, .long v27_8), (3, .int v20_6), (2, .int v9_3), (0, .ref a0), (1, .ref a1)] dR_divideFinite_97 (by decide) rfl ?_
      have L99 : ∀ (N99 : Nat) (x12_99 : Int32) (x8_99 : Int64) (x10_99 : Int64), (((6 : Int32)).toInt - x12_99.toInt).toNat < N99 → (DVI v79_20 v27_8 x10_99 x8_99 x12_99) → Z 0 0 tys 99 [(12, .int x12_99), (8, .long x8_99), (10, .long x10_99), (7, .int v71_18), (6, .int 0), (4, .long v27_8), (0, .ref a0)] [] (X ++ PL LP f) := by
        intro N99
        induction N99 with
        | zero => intro x12_99 x8_99 x10_99 m99; exact absurd m99 (Nat.not_lt_zero _)
        | succ N99 ih99 =>
          intro x12_99 x8_99 x10_99 m99 d99
          refine z_iload (pc := 99) hZ 0 dR_divideFinite_99 rfl ?_
          refine z_bipush (pc := 101) hZ 6 dR_divideFinite_101 (by decide) ?_
          refine z_icmp_ge (pc := 103) hZ 139 dR_divideFinite_103 (by decide) (fun c103_23 => ?_) (fun c103_23 => ?_)
          · refine z_aload_n (pc := 139) hZ 6 dR_divideFinite_139 rfl rfl ?_
            refine z_iload (pc := 140) hZ 4 dR_divideFinite_140 rfl ?_
            refine z_lload (pc := 142) hZ 2 dR_divideFinite_142 rfl ?_
            refine z_lload (pc := 144) hZ 1 dR_divideFinite_144 rfl ?_
            refine z_lconst (pc := 146) hZ 0 dR_divideFinite_146 (by decide) ?_
            refine z_lif_eq (pc := 147) hZ 155 dR_divideFinite_147 dR_divideFinite_148 (by decide) (fun c148_24 => ?_) (fun c148_24 => ?_)
            · refine z_iconst (pc := 155) hZ 0 dR_divideFinite_155 (by decide) ?_
              refine z_iload (pc := 156) hZ 3 dR_divideFinite_156 rfl ?_
              obtain ⟨q158_25, hq158_25⟩ := zp_at (X := X) (f := f) h_a0
              refine z_callVN (pc := 158) (As := [.int 0, .long x10_99, .int 0, .int v71_18]) (rest := []) hZ (cV_setNearest l D tys X LP f a0 h_a0 0 x10_99 0 v71_18) zyV_setNearest (z_good co_V_setNearest) nl_R_64 (zb in_V) (zb im_V_setNearest) (zb se_V_setNearest) q158_25 hq158_25 rfl rfl rfl (by decide) rfl rfl (Nat.le_of_ble_eq_true rfl) ⟨Nat.zero_le _, Nat.zero_le _⟩ dR_divideFinite_158 (z_kv (fun w1 tys1 hp => ?_))
              obtain ⟨f158_25, rfl, rfl, p158_25⟩ := hp
              exact z_retv (pc := 161) hZ dR_divideFinite_161 rfl ⟨rfl, _, rfl, rfl, (by intro A B ha hb a0 b0; first | exact df_e 0 0 ha hb a0 b0 p1_1 p4_2 ev9_3 p12_4 p15_5 ev20_6 p23_7 ev27_8 (p39_10 _ ha) (p43_11 _ hb) (Or.inl ⟨c46_12, rfl⟩) ev57_13 ev61_14 ev63_15 ev67_16 ev68_17 ev71_18 p75_19 ev79_20 d99 c103_23 (Or.inl ⟨c148_24, rfl⟩) p158_25 | exact df_e 0 1 ha hb a0 b0 p1_1 p4_2 ev9_3 p12_4 p15_5 ev20_6 p23_7 ev27_8 (p39_10 _ ha) (p43_11 _ hb) (Or.inl ⟨c46_12, rfl⟩) ev57_13 ev61_14 ev63_15 ev67_16 ev68_17 ev71_18 p75_19 ev79_20 d99 c103_23 (Or.inr ⟨c148_24, rfl⟩) p158_25 | exact df_e 1 0 ha hb a0 b0 p1_1 p4_2 ev9_3 p12_4 p15_5 ev20_6 p23_7 ev27_8 (p39_10 _ ha) (p43_11 _ hb) (Or.inr ⟨c46_12, rfl⟩) ev57_13 ev61_14 ev63_15 ev67_16 ev68_17 ev71_18 p75_19 ev79_20 d99 c103_23 (Or.inl ⟨c148_24, rfl⟩) p158_25 | exact df_e 1 1 ha hb a0 b0 p1_1 p4_2 ev9_3 p12_4 p15_5 ev20_6 p23_7 ev27_8 (p39_10 _ ha) (p43_11 _ hb) (Or.inr ⟨c46_12, rfl⟩) ev57_13 ev61_14 ev63_15 ev67_16 ev68_17 ev71_18 p75_19 ev79_20 d99 c103_23 (Or.inr ⟨c148_24, rfl⟩) p158_25)⟩
            · refine z_iconst (pc := 151) hZ 1 dR_divideFinite_151 (by decide) ?_
              refine z_goto (pc := 152) hZ 156 dR_divideFinite_152 (by decide) ?_
              refine z_iload (pc := 156) hZ 3 dR_divideFinite_156 rfl ?_
              obtain ⟨q158_26, hq158_26⟩ := zp_at (X := X) (f := f) h_a0
              refine z_callVN (pc := 158) (As := [.int 0, .long x10_99, .int 1, .int v71_18]) (rest := []) hZ (cV_setNearest l D tys X LP f a0 h_a0 0 x10_99 1 v71_18) zyV_setNearest (z_good co_V_setNearest) nl_R_64 (zb in_V) (zb im_V_setNearest) (zb se_V_setNearest) q158_26 hq158_26 rfl rfl rfl (by decide) rfl rfl (Nat.le_of_ble_eq_true rfl) ⟨Nat.zero_le _, Nat.zero_le _⟩ dR_divideFinite_158 (z_kv (fun w1 tys1 hp => ?_))
              obtain ⟨f158_26, rfl, rfl, p158_26⟩ := hp
              exact z_retv (pc := 161) hZ dR_divideFinite_161 rfl ⟨rfl, _, rfl, rfl, (by intro A B ha hb a0 b0; first | exact df_e 0 0 ha hb a0 b0 p1_1 p4_2 ev9_3 p12_4 p15_5 ev20_6 p23_7 ev27_8 (p39_10 _ ha) (p43_11 _ hb) (Or.inl ⟨c46_12, rfl⟩) ev57_13 ev61_14 ev63_15 ev67_16 ev68_17 ev71_18 p75_19 ev79_20 d99 c103_23 (Or.inl ⟨c148_24, rfl⟩) p158_26 | exact df_e 0 1 ha hb a0 b0 p1_1 p4_2 ev9_3 p12_4 p15_5 ev20_6 p23_7 ev27_8 (p39_10 _ ha) (p43_11 _ hb) (Or.inl ⟨c46_12, rfl⟩) ev57_13 ev61_14 ev63_15 ev67_16 ev68_17 ev71_18 p75_19 ev79_20 d99 c103_23 (Or.inr ⟨c148_24, rfl⟩) p158_26 | exact df_e 1 0 ha hb a0 b0 p1_1 p4_2 ev9_3 p12_4 p15_5 ev20_6 p23_7 ev27_8 (p39_10 _ ha) (p43_11 _ hb) (Or.inr ⟨c46_12, rfl⟩) ev57_13 ev61_14 ev63_15 ev67_16 ev68_17 ev71_18 p75_19 ev79_20 d99 c103_23 (Or.inl ⟨c148_24, rfl⟩) p158_26 | exact df_e 1 1 ha hb a0 b0 p1_1 p4_2 ev9_3 p12_4 p15_5 ev20_6 p23_7 ev27_8 (p39_10 _ ha) (p43_11 _ hb) (Or.inr ⟨c46_12, rfl⟩) ev57_13 ev61_14 ev63_15 ev67_16 ev68_17 ev71_18 p75_19 ev79_20 d99 c103_23 (Or.inr ⟨c148_24, rfl⟩) p158_26)⟩
          · refine z_lload (pc := 106) hZ 1 dR_divideFinite_106 rfl ?_
            refine z_bipush (pc := 108) hZ 10 dR_divideFinite_108 (by decide) ?_
            refine z_lshl (pc := 110) hZ dR_divideFinite_110 (fun v110_27 ev110_27 => ?_)
            refine z_lstore (pc := 111) hZ [(8, .long v110_27), (12, .int x12_99), (10, .long x10_99), (7, .int v71_18), (6, .int 0), (4, .long v27_8), (0, .ref a0)] dR_divideFinite_111 (by decide) rfl ?_
            refine z_lload (pc := 113) hZ 2 dR_divideFinite_113 rfl ?_
            refine z_bipush (pc := 115) hZ 10 dR_divideFinite_115 (by decide) ?_
            refine z_lshl (pc := 117) hZ dR_divideFinite_117 (fun v117_28 ev117_28 => ?_)
            refine z_lload (pc := 118) hZ 0 dR_divideFinite_118 rfl ?_
            refine z_lload (pc := 120) hZ 5 dR_divideFinite_120 rfl ?_
            refine z_ldiv (pc := 122) hZ dR_divideFinite_122 (by assumption) (fun v122_29 ev122_29 => ?_)
            refine z_ladd (pc := 123) hZ dR_divideFinite_123 (fun v123_30 ev123_30 => ?_)
            refine z_lstore (pc := 124) hZ [(10, .long v123_30), (8, .long v110_27), (12, .int x12_99), (7, .int v71_18), (6, .int 0), (4, .long v27_8), (0, .ref a0)] dR_divideFinite_124 (by decide) rfl ?_
            refine z_lload (pc := 126) hZ 1 dR_divideFinite_126 rfl ?_
            refine z_lload (pc := 128) hZ 5 dR_divideFinite_128 rfl ?_
            refine z_lrem (pc := 130) hZ dR_divideFinite_130 (by assumption) (fun v130_31 ev130_31 => ?_)
            refine z_lstore (pc := 131) hZ [(8, .long v130_31), (10, .long v123_30), (12, .int x12_99), (7, .int v71_18), (6, .int 0), (4, .long v27_8), (0, .ref a0)] dR_divideFinite_131 (by decide) rfl ?_
            refine z_iinc (pc := 133) hZ 2 (fun v9 => [(12, .int v9), (8, .long v130_31), (10, .long v123_30), (7, .int v71_18), (6, .int 0), (4, .long v27_8), (0, .ref a0)]) dR_divideFinite_133 rfl (by decide) (fun _ => rfl) (fun v133_32 ev133_32 => ?_)
            refine z_goto (pc := 136) hZ 99 dR_divideFinite_136 (by decide) ?_
            exact z_sub (pc := 99) hZ [0, 1, 2, 3, 4, 5, 6] rfl (ih99 v133_32 v130_31 v123_30 (by exact Nat.lt_of_lt_of_le (dec_up (x := x12_99) (b := (6 : Int32)) (by assumption) (by assumption)) (Nat.le_of_lt_succ m99)) (by exact dvi_s d99 c103_23 ev110_27 ev117_28 ev122_29 ev123_30 ev130_31 ev133_32))
      exact z_sub (pc := 99) hZ [0, 1, 2, 3, 4, 5, 8] rfl (L99 _ 0 v93_22 v86_21 (Nat.lt_succ_self _) (by exact dvi_0 ev86_21 ev93_22))
    · refine z_iconst (pc := 49) hZ 1 dR_divideFinite_49 (by decide) ?_
      refine z_goto (pc := 50) hZ 54 dR_divideFinite_50 (by decide) ?_
      refine z_istore (pc := 54) hZ [(6, .int 1), (4, .long v27_8), (3, .int v20_6), (2, .int v9_3), (0, .ref a0), (1, .ref a1)] dR_divideFinite_54 (by decide) rfl ?_
      refine z_aload_n (pc := 56) hZ 4 dR_divideFinite_56 rfl rfl ?_
      refine z_pg2N (pc := 57) hZ h_a0 uc_V nf_R_57 dR_divideFinite_57 (fun v57_33 ev57_33 => ?_)
      refine z_iload_n (pc := 60) hZ 3 dR_divideFinite_60 rfl rfl ?_
      refine z_isub (pc := 61) hZ dR_divideFinite_61 (fun v61_34 ev61_34 => ?_)
      refine z_aload_n (pc := 62) hZ 5 dR_divideFinite_62 rfl rfl ?_
      refine z_pg2N (pc := 63) hZ h_a1 uc_V nf_R_57 dR_divideFinite_63 (fun v63_35 ev63_35 => ?_)
      refine z_iload_n (pc := 66) hZ 2 dR_divideFinite_66 rfl rfl ?_
      refine z_isub (pc := 67) hZ dR_divideFinite_67 (fun v67_36 ev67_36 => ?_)
      refine z_isub (pc := 68) hZ dR_divideFinite_68 (fun v68_37 ev68_37 => ?_)
      refine z_bipush (pc := 69) hZ 60 dR_divideFinite_69 (by decide) ?_
      refine z_isub (pc := 71) hZ dR_divideFinite_71 (fun v71_38 ev71_38 => ?_)
      refine z_istore (pc := 72) hZ [(7, .int v71_38), (6, .int 1), (4, .long v27_8), (3, .int v20_6), (2, .int v9_3), (0, .ref a0), (1, .ref a1)] dR_divideFinite_72 (by decide) rfl ?_
      refine z_aload_n (pc := 74) hZ 5 dR_divideFinite_74 rfl rfl ?_
      obtain ⟨q75_39, hq75_39⟩ := zp_at (X := X) (f := f) h_a0
      refine z_callVN (pc := 75) (As := []) (rest := []) hZ (cV_size l D tys X LP f a0 h_a0) zyV_size (z_good co_V_size) nl_R_47 (zb in_V) (zb im_V_size) (zb se_V_size) q75_39 hq75_39 rfl rfl rfl (by decide) rfl rfl (Nat.le_of_ble_eq_true rfl) ⟨Nat.zero_le _, Nat.zero_le _⟩ dR_divideFinite_75 (z_kl (fun r75_39 w1 tys1 hp => ?_))
      obtain ⟨rfl, rfl, p75_39⟩ := hp
      refine z_iload_n (pc := 78) hZ 4 dR_divideFinite_78 rfl rfl ?_
      refine z_lshl (pc := 79) hZ dR_divideFinite_79 (fun v79_40 ev79_40 => ?_)
      refine z_lstore (pc := 80) hZ [(8, .long v79_40), (7, .int v71_38), (6, .int 1), (4, .long v27_8), (3, .int v20_6), (2, .int v9_3), (0, .ref a0), (1, .ref a1)] dR_divideFinite_80 (by decide) rfl ?_
      refine z_lload (pc := 82) hZ 0 dR_divideFinite_82 rfl ?_
      refine z_lload (pc := 84) hZ 3 dR_divideFinite_84 rfl ?_
      refine z_ldiv (pc := 86) hZ dR_divideFinite_86 (by assumption) (fun v86_41 ev86_41 => ?_)
      refine z_lstore (pc := 87) hZ [(10, .long v86_41), (8, .long v79_40), (7, .int v71_38), (6, .int 1), (4, .long v27_8), (3, .int v20_6), (2, .int v9_3), (0, .ref a0), (1, .ref a1)] dR_divideFinite_87 (by decide) rfl ?_
      refine z_lload (pc := 89) hZ 1 dR_divideFinite_89 rfl ?_
      refine z_lload (pc := 91) hZ 4 dR_divideFinite_91 rfl ?_
      refine z_lrem (pc := 93) hZ dR_divideFinite_93 (by assumption) (fun v93_42 ev93_42 => ?_)
      refine z_lstore (pc := 94) hZ [(8, .long v93_42), (10, .long v86_41), (7, .int v71_38), (6, .int 1), (4, .long v27_8), (3, .int v20_6), (2, .int v9_3), (0, .ref a0), (1, .ref a1)] dR_divideFinite_94 (by decide) rfl ?_
      refine z_iconst (pc := 96) hZ 0 dR_divideFinite_96 (by decide) ?_
      refine z_istore (pc := 97) hZ [(12, .int 0), (8, .long v93_42), (10, .long v86_41), (7, .int v71_38), (6, .int 1), (4, .long v27_8), (3, .int v20_6), (2, .int v9_3), (0, .ref a0), (1, .ref a1)] dR_divideFinite_97 (by decide) rfl ?_
      have L99 : ∀ (N99 : Nat) (x12_99 : Int32) (x8_99 : Int64) (x10_99 : Int64), (((6 : Int32)).toInt - x12_99.toInt).toNat < N99 → (DVI v79_40 v27_8 x10_99 x8_99 x12_99) → Z 0 0 tys 99 [(12, .int x12_99), (8, .long x8_99), (10, .long x10_99), (7, .int v71_38), (6, .int 1), (4, .long v27_8), (0, .ref a0)] [] (X ++ PL LP f) := by
        intro N99
        induction N99 with
        | zero => intro x12_99 x8_99 x10_99 m99; exact absurd m99 (Nat.not_lt_zero _)
        | succ N99 ih99 =>
          intro x12_99 x8_99 x10_99 m99 d99
          refine z_iload (pc := 99) hZ 0 dR_divideFinite_99 rfl ?_
          refine z_bipush (pc := 101) hZ 6 dR_divideFinite_101 (by decide) ?_
          refine z_icmp_ge (pc := 103) hZ 139 dR_divideFinite_103 (by decide) (fun c103_43 => ?_) (fun c103_43 => ?_)
          · refine z_aload_n (pc := 139) hZ 6 dR_divideFinite_139 rfl rfl ?_
            refine z_iload (pc := 140) hZ 4 dR_divideFinite_140 rfl ?_
            refine z_lload (pc := 142) hZ 2 dR_divideFinite_142 rfl ?_
            refine z_lload (pc := 144) hZ 1 dR_divideFinite_144 rfl ?_
            refine z_lconst (pc := 146) hZ 0 dR_divideFinite_146 (by decide) ?_
            refine z_lif_eq (pc := 147) hZ 155 dR_divideFinite_147 dR_divideFinite_148 (by decide) (fun c148_44 => ?_) (fun c148_44 => ?_)
            · refine z_iconst (pc := 155) hZ 0 dR_divideFinite_155 (by decide) ?_
              refine z_iload (pc := 156) hZ 3 dR_divideFinite_156 rfl ?_
              obtain ⟨q158_45, hq158_45⟩ := zp_at (X := X) (f := f) h_a0
              refine z_callVN (pc := 158) (As := [.int 1, .long x10_99, .int 0, .int v71_38]) (rest := []) hZ (cV_setNearest l D tys X LP f a0 h_a0 1 x10_99 0 v71_38) zyV_setNearest (z_good co_V_setNearest) nl_R_64 (zb in_V) (zb im_V_setNearest) (zb se_V_setNearest) q158_45 hq158_45 rfl rfl rfl (by decide) rfl rfl (Nat.le_of_ble_eq_true rfl) ⟨Nat.zero_le _, Nat.zero_le _⟩ dR_divideFinite_158 (z_kv (fun w1 tys1 hp => ?_))
              obtain ⟨f158_45, rfl, rfl, p158_45⟩ := hp
              exact z_retv (pc := 161) hZ dR_divideFinite_161 rfl ⟨rfl, _, rfl, rfl, (by intro A B ha hb a0 b0; first | exact df_e 0 0 ha hb a0 b0 p1_1 p4_2 ev9_3 p12_4 p15_5 ev20_6 p23_7 ev27_8 (p39_10 _ ha) (p43_11 _ hb) (Or.inl ⟨c46_12, rfl⟩) ev57_33 ev61_34 ev63_35 ev67_36 ev68_37 ev71_38 p75_39 ev79_40 d99 c103_43 (Or.inl ⟨c148_44, rfl⟩) p158_45 | exact df_e 0 1 ha hb a0 b0 p1_1 p4_2 ev9_3 p12_4 p15_5 ev20_6 p23_7 ev27_8 (p39_10 _ ha) (p43_11 _ hb) (Or.inl ⟨c46_12, rfl⟩) ev57_33 ev61_34 ev63_35 ev67_36 ev68_37 ev71_38 p75_39 ev79_40 d99 c103_43 (Or.inr ⟨c148_44, rfl⟩) p158_45 | exact df_e 1 0 ha hb a0 b0 p1_1 p4_2 ev9_3 p12_4 p15_5 ev20_6 p23_7 ev27_8 (p39_10 _ ha) (p43_11 _ hb) (Or.inr ⟨c46_12, rfl⟩) ev57_33 ev61_34 ev63_35 ev67_36 ev68_37 ev71_38 p75_39 ev79_40 d99 c103_43 (Or.inl ⟨c148_44, rfl⟩) p158_45 | exact df_e 1 1 ha hb a0 b0 p1_1 p4_2 ev9_3 p12_4 p15_5 ev20_6 p23_7 ev27_8 (p39_10 _ ha) (p43_11 _ hb) (Or.inr ⟨c46_12, rfl⟩) ev57_33 ev61_34 ev63_35 ev67_36 ev68_37 ev71_38 p75_39 ev79_40 d99 c103_43 (Or.inr ⟨c148_44, rfl⟩) p158_45)⟩
            · refine z_iconst (pc := 151) hZ 1 dR_divideFinite_151 (by decide) ?_
              refine z_goto (pc := 152) hZ 156 dR_divideFinite_152 (by decide) ?_
              refine z_iload (pc := 156) hZ 3 dR_divideFinite_156 rfl ?_
              obtain ⟨q158_46, hq158_46⟩ := zp_at (X := X) (f := f) h_a0
              refine z_callVN (pc := 158) (As := [.int 1, .long x10_99, .int 1, .int v71_38]) (rest := []) hZ (cV_setNearest l D tys X LP f a0 h_a0 1 x10_99 1 v71_38) zyV_setNearest (z_good co_V_setNearest) nl_R_64 (zb in_V) (zb im_V_setNearest) (zb se_V_setNearest) q158_46 hq158_46 rfl rfl rfl (by decide) rfl rfl (Nat.le_of_ble_eq_true rfl) ⟨Nat.zero_le _, Nat.zero_le _⟩ dR_divideFinite_158 (z_kv (fun w1 tys1 hp => ?_))
              obtain ⟨f158_46, rfl, rfl, p158_46⟩ := hp
              exact z_retv (pc := 161) hZ dR_divideFinite_161 rfl ⟨rfl, _, rfl, rfl, (by intro A B ha hb a0 b0; first | exact df_e 0 0 ha hb a0 b0 p1_1 p4_2 ev9_3 p12_4 p15_5 ev20_6 p23_7 ev27_8 (p39_10 _ ha) (p43_11 _ hb) (Or.inl ⟨c46_12, rfl⟩) ev57_33 ev61_34 ev63_35 ev67_36 ev68_37 ev71_38 p75_39 ev79_40 d99 c103_43 (Or.inl ⟨c148_44, rfl⟩) p158_46 | exact df_e 0 1 ha hb a0 b0 p1_1 p4_2 ev9_3 p12_4 p15_5 ev20_6 p23_7 ev27_8 (p39_10 _ ha) (p43_11 _ hb) (Or.inl ⟨c46_12, rfl⟩) ev57_33 ev61_34 ev63_35 ev67_36 ev68_37 ev71_38 p75_39 ev79_40 d99 c103_43 (Or.inr ⟨c148_44, rfl⟩) p158_46 | exact df_e 1 0 ha hb a0 b0 p1_1 p4_2 ev9_3 p12_4 p15_5 ev20_6 p23_7 ev27_8 (p39_10 _ ha) (p43_11 _ hb) (Or.inr ⟨c46_12, rfl⟩) ev57_33 ev61_34 ev63_35 ev67_36 ev68_37 ev71_38 p75_39 ev79_40 d99 c103_43 (Or.inl ⟨c148_44, rfl⟩) p158_46 | exact df_e 1 1 ha hb a0 b0 p1_1 p4_2 ev9_3 p12_4 p15_5 ev20_6 p23_7 ev27_8 (p39_10 _ ha) (p43_11 _ hb) (Or.inr ⟨c46_12, rfl⟩) ev57_33 ev61_34 ev63_35 ev67_36 ev68_37 ev71_38 p75_39 ev79_40 d99 c103_43 (Or.inr ⟨c148_44, rfl⟩) p158_46)⟩
          · refine z_lload (pc := 106) hZ 1 dR_divideFinite_106 rfl ?_
            refine z_bipush (pc := 108) hZ 10 dR_divideFinite_108 (by decide) ?_
            refine z_lshl (pc := 110) hZ dR_divideFinite_110 (fun v110_47 ev110_47 => ?_)
            refine z_lstore (pc := 111) hZ [(8, .long v110_47), (12, .int x12_99), (10, .long x10_99), (7, .int v71_38), (6, .int 1), (4, .long v27_8), (0, .ref a0)] dR_divideFinite_111 (by decide) rfl ?_
            refine z_lload (pc := 113) hZ 2 dR_divideFinite_113 rfl ?_
            refine z_bipush (pc := 115) hZ 10 dR_divideFinite_115 (by decide) ?_
            refine z_lshl (pc := 117) hZ dR_divideFinite_117 (fun v117_48 ev117_48 => ?_)
            refine z_lload (pc := 118) hZ 0 dR_divideFinite_118 rfl ?_
            refine z_lload (pc := 120) hZ 5 dR_divideFinite_120 rfl ?_
            refine z_ldiv (pc := 122) hZ dR_divideFinite_122 (by assumption) (fun v122_49 ev122_49 => ?_)
            refine z_ladd (pc := 123) hZ dR_divideFinite_123 (fun v123_50 ev123_50 => ?_)
            refine z_lstore (pc := 124) hZ [(10, .long v123_50), (8, .long v110_47), (12, .int x12_99), (7, .int v71_38), (6, .int 1), (4, .long v27_8), (0, .ref a0)] dR_divideFinite_124 (by decide) rfl ?_
            refine z_lload (pc := 126) hZ 1 dR_divideFinite_126 rfl ?_
            refine z_lload (pc := 128) hZ 5 dR_divideFinite_128 rfl ?_
            refine z_lrem (pc := 130) hZ dR_divideFinite_130 (by assumption) (fun v130_51 ev130_51 => ?_)
            refine z_lstore (pc := 131) hZ [(8, .long v130_51), (10, .long v123_50), (12, .int x12_99), (7, .int v71_38), (6, .int 1), (4, .long v27_8), (0, .ref a0)] dR_divideFinite_131 (by decide) rfl ?_
            refine z_iinc (pc := 133) hZ 2 (fun v9 => [(12, .int v9), (8, .long v130_51), (10, .long v123_50), (7, .int v71_38), (6, .int 1), (4, .long v27_8), (0, .ref a0)]) dR_divideFinite_133 rfl (by decide) (fun _ => rfl) (fun v133_52 ev133_52 => ?_)
            refine z_goto (pc := 136) hZ 99 dR_divideFinite_136 (by decide) ?_
            exact z_sub (pc := 99) hZ [0, 1, 2, 3, 4, 5, 6] rfl (ih99 v133_52 v130_51 v123_50 (by exact Nat.lt_of_lt_of_le (dec_up (x := x12_99) (b := (6 : Int32)) (by assumption) (by assumption)) (Nat.le_of_lt_succ m99)) (by exact dvi_s d99 c103_43 ev110_47 ev117_48 ev122_49 ev123_50 ev130_51 ev133_52))
      exact z_sub (pc := 99) hZ [0, 1, 2, 3, 4, 5, 8] rfl (L99 _ 0 v93_42 v86_41 (Nat.lt_succ_self _) (by exact dvi_0 ev86_41 ev93_42))
  · exact z_retv (pc := 37) hZ dR_divideFinite_37 rfl ⟨rfl, _, rfl, rfl, (by exact fun A B ha hb a0 b0 => absurd c34_9 (df_ne hb b0 p23_7 _ p12_4 p15_5 ev20_6 ev27_8))⟩
set_option maxHeartbeats 4000000 in
set_option maxRecDepth 100000 in
theorem cR_divide (l : Launch) (D : va_G) (tys : zT) (X : va_W) (LP : List Nat) (f : Nat → V3) (a0 : Nat) (h_a0 : a0 ∈ LP) (a1 : Nat) (h_a1 : a1 ∈ LP) : zM l D vwCl zNF zNM yR_divide wsR_divide { frames := 4, cells := 0, slots := 0, locals := 106 } [.ref a0, .ref a1] (X ++ PL LP f) tys (qV (fun w' tys' => ∃ f' : Nat → V3, X ++ PL LP f' = w' ∧ tys = tys' ∧ (∀ a b, CA (f a0) a → CA (f a1) b → nW a → nW b → UPD f f' a0 (divR a b)))) := by
  refine z_met (cc := bR_divide) (maxL := 2) (ret := none) (isI := false) (own := RR) (by decide +kernel) rfl rfl (fun h => by cases h) (Nat.le_of_ble_eq_true rfl) (fun Z hZ => ?_)
  show Z 0 0 tys 0 [(0, .ref a0), (1, .ref a1)] [] (X ++ PL LP f)
  refine z_aload_n (pc := 0) hZ 0 dR_divide_0 rfl rfl ?_
  refine z_aload_n (pc := 1) hZ 1 dR_divide_1 rfl rfl ?_
  refine z_callS (pc := 2) (As := [.ref a0, .ref a1]) (rest := []) hZ (cR_hasNoNumber l D tys X LP f a0 h_a0 a1 h_a1) zyR_hasNoNumber (z_goodS ml_R_17 st_R_hasNoNumber in_R co_R_hasNoNumber) rfl rfl (by decide) rfl rfl (Nat.le_of_ble_eq_true rfl) ⟨Nat.zero_le _, Nat.zero_le _⟩ dR_divide_2 (z_ki (fun r2_1 w1 tys1 hp => ?_))
  obtain ⟨rfl, rfl, p2_1⟩ := hp
  refine z_if_ne (pc := 5) hZ 22 dR_divide_5 (by decide) (fun c5_2 => ?_) (fun c5_2 => ?_)
  · refine z_aload_n (pc := 22) hZ 0 dR_divide_22 rfl rfl ?_
    refine z_iconst (pc := 23) hZ 5 dR_divide_23 (by decide) ?_
    obtain ⟨q24_3, hq24_3⟩ := zp_at (X := X) (f := f) h_a0
    refine z_callVN (pc := 24) (As := [.int 5]) (rest := []) hZ (cV_setSpecial l D tys X LP f a0 h_a0 5) zyV_setSpecial (z_good co_V_setSpecial) nl_R_21 (zb in_V) (zb im_V_setSpecial) (zb se_V_setSpecial) q24_3 hq24_3 rfl rfl rfl (by decide) rfl rfl (Nat.le_of_ble_eq_true rfl) ⟨Nat.zero_le _, Nat.zero_le _⟩ dR_divide_24 (z_kv (fun w1 tys1 hp => ?_))
    obtain ⟨f24_3, rfl, rfl, p24_3⟩ := hp
    refine z_goto (pc := 27) hZ 104 dR_divide_27 (by decide) ?_
    exact z_retv (pc := 104) hZ dR_divide_104 rfl ⟨rfl, _, rfl, rfl, (by intro a b ha hb wa wb; first | exact sp5 p24_3 (divx (hnn_y ha hb p2_1 c5_2)) | exact sp5 p24_3 (div_ii ha hb nokey_ nokey_ nokey_ nokey_) | exact up_z nokey_ (div_fi ha hb wa (hnn_n ha hb p2_1 c5_2).1 nokey_ nokey_ nokey_ nokey_) | exact up_z nokey_ (dv_no nokey_ nokey_ nokey_ nokey_) | exact div_z ha hb wa wb (hnn_n ha hb p2_1 c5_2) nokey_ nokey_ nokey_ nokey_ nokey_ | exact ⟨_, nokey_, div_if 0 ha hb wb (hnn_n ha hb p2_1 c5_2).2 nokey_ nokey_ nokey_ nokey_ nokey_ nokey_ (nokey_ _ ha) (nokey_ _ hb) (Or.inl ⟨nokey_, rfl⟩)⟩ | exact ⟨_, nokey_, div_if 1 ha hb wb (hnn_n ha hb p2_1 c5_2).2 nokey_ nokey_ nokey_ nokey_ nokey_ nokey_ (nokey_ _ ha) (nokey_ _ hb) (Or.inr ⟨nokey_, rfl⟩)⟩ | exact div_ff ha hb wa wb (hnn_n ha hb p2_1 c5_2) nokey_ nokey_ nokey_ nokey_ nokey_ nokey_ nokey_ (Or.inl ⟨nokey_, rfl⟩) | exact div_ff ha hb wa wb (hnn_n ha hb p2_1 c5_2) nokey_ nokey_ nokey_ nokey_ nokey_ nokey_ nokey_ (Or.inr ⟨nokey_, nokey_⟩))⟩
  · refine z_aload_n (pc := 8) hZ 0 dR_divide_8 rfl rfl ?_
    obtain ⟨q9_4, hq9_4⟩ := zp_at (X := X) (f := f) h_a0
    refine z_callVN (pc := 9) (As := []) (rest := []) hZ (cV_isInfinite l D tys X LP f a0 h_a0) zyV_isInfinite (z_good co_V_isInfinite) nl_R_25 (zb in_V) (zb im_V_isInfinite) (zb se_V_isInfinite) q9_4 hq9_4 rfl rfl rfl (by decide) rfl rfl (Nat.le_of_ble_eq_true rfl) ⟨Nat.zero_le _, Nat.zero_le _⟩ dR_divide_9 (z_ki (fun r9_4 w1 tys1 hp => ?_))
    obtain ⟨rfl, rfl, p9_4⟩ := hp
    refine z_if_eq (pc := 12) hZ 30 dR_divide_12 (by decide) (fun c12_5 => ?_) (fun c12_5 => ?_)
    · refine z_aload_n (pc := 30) hZ 1 dR_divide_30 rfl rfl ?_
      obtain ⟨q31_6, hq31_6⟩ := zp_at (X := X) (f := f) h_a1
      refine z_callVN (pc := 31) (As := []) (rest := []) hZ (cV_isInfinite l D tys X LP f a1 h_a1) zyV_isInfinite (z_good co_V_isInfinite) nl_R_25 (zb in_V) (zb im_V_isInfinite) (zb se_V_isInfinite) q31_6 hq31_6 rfl rfl rfl (by decide) rfl rfl (Nat.le_of_ble_eq_true rfl) ⟨Nat.zero_le _, Nat.zero_le _⟩ dR_divide_31 (z_ki (fun r31_6 w1 tys1 hp => ?_))
      obtain ⟨rfl, rfl, p31_6⟩ := hp
      refine z_if_eq (pc := 34) hZ 44 dR_divide_34 (by decide) (fun c34_7 => ?_) (fun c34_7 => ?_)
      · refine z_aload_n (pc := 44) hZ 1 dR_divide_44 rfl rfl ?_
        refine z_pg1N (pc := 45) hZ h_a1 uc_V nf_R_29 dR_divide_45 (fun v45_8 ev45_8 => ?_)
        refine z_lconst (pc := 48) hZ 0 dR_divide_48 (by decide) ?_
        refine z_lif_ne (pc := 49) hZ 60 dR_divide_49 dR_divide_50 (by decide) (fun c50_9 => ?_) (fun c50_9 => ?_)
        · refine z_aload_n (pc := 60) hZ 0 dR_divide_60 rfl rfl ?_
          obtain ⟨q61_10, hq61_10⟩ := zp_at (X := X) (f := f) h_a0
          refine z_callVN (pc := 61) (As := []) (rest := []) hZ (cV_isInfinite l D tys X LP f a0 h_a0) zyV_isInfinite (z_good co_V_isInfinite) nl_R_25 (zb in_V) (zb im_V_isInfinite) (zb se_V_isInfinite) q61_10 hq61_10 rfl rfl rfl (by decide) rfl rfl (Nat.le_of_ble_eq_true rfl) ⟨Nat.zero_le _, Nat.zero_le _⟩ dR_divide_61 (z_ki (fun r61_10 w1 tys1 hp => ?_))
          obtain ⟨rfl, rfl, p61_10⟩ := hp
          refine z_if_eq (pc := 64) hZ 90 dR_divide_64 (by decide) (fun c64_11 => ?_) (fun c64_11 => ?_)
          · refine z_aload_n (pc := 90) hZ 0 dR_divide_90 rfl rfl ?_
            refine z_pg1N (pc := 91) hZ h_a0 uc_V nf_R_29 dR_divide_91 (fun v91_12 ev91_12 => ?_)
            refine z_lconst (pc := 94) hZ 0 dR_divide_94 (by decide) ?_
            refine z_lif_eq (pc := 95) hZ 104 dR_divide_95 dR_divide_96 (by decide) (fun c96_13 => ?_) (fun c96_13 => ?_)
            · exact z_retv (pc := 104) hZ dR_divide_104 rfl ⟨rfl, _, rfl, rfl, (by intro a b ha hb wa wb; first | exact sp5 nokey_ (divx (hnn_y ha hb p2_1 c5_2)) | exact sp5 nokey_ (div_ii ha hb p9_4 c12_5 nokey_ nokey_) | exact up_z nokey_ (div_fi ha hb wa (hnn_n ha hb p2_1 c5_2).1 p9_4 c12_5 p31_6 c34_7) | exact up_z nokey_ (dv_no nokey_ nokey_ p31_6 c34_7) | exact div_z ha hb wa wb (hnn_n ha hb p2_1 c5_2) p31_6 c34_7 ev45_8 c50_9 nokey_ | exact ⟨_, nokey_, div_if 0 ha hb wb (hnn_n ha hb p2_1 c5_2).2 p61_10 c64_11 p31_6 c34_7 ev45_8 c50_9 (nokey_ _ ha) (nokey_ _ hb) (Or.inl ⟨nokey_, rfl⟩)⟩ | exact ⟨_, nokey_, div_if 1 ha hb wb (hnn_n ha hb p2_1 c5_2).2 p61_10 c64_11 p31_6 c34_7 ev45_8 c50_9 (nokey_ _ ha) (nokey_ _ hb) (Or.inr ⟨nokey_, rfl⟩)⟩ | exact div_ff ha hb wa wb (hnn_n ha hb p2_1 c5_2) p61_10 c64_11 p31_6 c34_7 ev45_8 c50_9 ev91_12 (Or.inl ⟨c96_13, rfl⟩) | exact div_ff ha hb wa wb (hnn_n ha hb p2_1 c5_2) p61_10 c64_11 p31_6 c34_7 ev45_8 c50_9 ev91_12 (Or.inr ⟨c96_13, nokey_⟩))⟩
            · refine z_aload_n (pc := 99) hZ 0 dR_divide_99 rfl rfl ?_
              refine z_aload_n (pc := 100) hZ 1 dR_divide_100 rfl rfl ?_
              refine z_callS (pc := 101) (As := [.ref a0, .ref a1]) (rest := []) hZ (cR_divideFinite l D tys X LP f a0 h_a0 a1 h_a1) zyR_divideFinite (z_goodS ml_R_92 st_R_divideFinite in_R co_R_divideFinite) rfl rfl (by decide) rfl rfl (Nat.le_of_ble_eq_true rfl) ⟨Nat.zero_le _, Nat.zero_le _⟩ dR_divide_101 (z_kv (fun w1 tys1 hp => ?_))
              obtain ⟨f101_14, rfl, rfl, p101_14⟩ := hp
              exact z_retv (pc := 104) hZ dR_divide_104 rfl ⟨rfl, _, rfl, rfl, (by intro a b ha hb wa wb; first | exact sp5 nokey_ (divx (hnn_y ha hb p2_1 c5_2)) | exact sp5 nokey_ (div_ii ha hb p9_4 c12_5 nokey_ nokey_) | exact up_z nokey_ (div_fi ha hb wa (hnn_n ha hb p2_1 c5_2).1 p9_4 c12_5 p31_6 c34_7) | exact up_z nokey_ (dv_no nokey_ nokey_ p31_6 c34_7) | exact div_z ha hb wa wb (hnn_n ha hb p2_1 c5_2) p31_6 c34_7 ev45_8 c50_9 nokey_ | exact ⟨_, nokey_, div_if 0 ha hb wb (hnn_n ha hb p2_1 c5_2).2 p61_10 c64_11 p31_6 c34_7 ev45_8 c50_9 (nokey_ _ ha) (nokey_ _ hb) (Or.inl ⟨nokey_, rfl⟩)⟩ | exact ⟨_, nokey_, div_if 1 ha hb wb (hnn_n ha hb p2_1 c5_2).2 p61_10 c64_11 p31_6 c34_7 ev45_8 c50_9 (nokey_ _ ha) (nokey_ _ hb) (Or.inr ⟨nokey_, rfl⟩)⟩ | exact div_ff ha hb wa wb (hnn_n ha hb p2_1 c5_2) p61_10 c64_11 p31_6 c34_7 ev45_8 c50_9 ev91_12 (Or.inl ⟨c96_13, rfl⟩) | exact div_ff ha hb wa wb (hnn_n ha hb p2_1 c5_2) p61_10 c64_11 p31_6 c34_7 ev45_8 c50_9 ev91_12 (Or.inr ⟨c96_13, p101_14⟩))⟩
          · refine z_aload_n (pc := 67) hZ 0 dR_divide_67 rfl rfl ?_
            refine z_aload_n (pc := 68) hZ 0 dR_divide_68 rfl rfl ?_
            obtain ⟨q69_15, hq69_15⟩ := zp_at (X := X) (f := f) h_a0
            refine z_callVN (pc := 69) (As := []) (rest := [.ref a0]) hZ (cV_sign l D tys X LP f a0 h_a0) zyV_sign (z_good co_V_sign) nl_R_60 (zb in_V) (zb im_V_sign) (zb se_V_sign) q69_15 hq69_15 rfl rfl rfl (by decide) rfl rfl (Nat.le_of_ble_eq_true rfl) ⟨Nat.zero_le _, Nat.zero_le _⟩ dR_divide_69 (z_ki (fun r69_15 w1 tys1 hp => ?_))
            obtain ⟨rfl, rfl, p69_15⟩ := hp
            refine z_aload_n (pc := 72) hZ 1 dR_divide_72 rfl rfl ?_
            obtain ⟨q73_16, hq73_16⟩ := zp_at (X := X) (f := f) h_a1
            refine z_callVN (pc := 73) (As := []) (rest := [.int r69_15, .ref a0]) hZ (cV_sign l D tys X LP f a1 h_a1) zyV_sign (z_good co_V_sign) nl_R_60 (zb in_V) (zb im_V_sign) (zb se_V_sign) q73_16 hq73_16 rfl rfl rfl (by decide) rfl rfl (Nat.le_of_ble_eq_true rfl) ⟨Nat.zero_le _, Nat.zero_le _⟩ dR_divide_73 (z_ki (fun r73_16 w1 tys1 hp => ?_))
            obtain ⟨rfl, rfl, p73_16⟩ := hp
            refine z_icmp_eq (pc := 76) hZ 83 dR_divide_76 (by decide) (fun c76_17 => ?_) (fun c76_17 => ?_)
            · refine z_iconst (pc := 83) hZ 0 dR_divide_83 (by decide) ?_
              obtain ⟨q84_18, hq84_18⟩ := zp_at (X := X) (f := f) h_a0
              refine z_callVN (pc := 84) (As := [.int 0]) (rest := []) hZ (cV_setInfinity l D tys X LP f a0 h_a0 0) zyV_setInfinity (z_good co_V_setInfinity) nl_R_72 (zb in_V) (zb im_V_setInfinity) (zb se_V_setInfinity) q84_18 hq84_18 rfl rfl rfl (by decide) rfl rfl (Nat.le_of_ble_eq_true rfl) ⟨Nat.zero_le _, Nat.zero_le _⟩ dR_divide_84 (z_kv (fun w1 tys1 hp => ?_))
              obtain ⟨f84_18, rfl, rfl, p84_18⟩ := hp
              refine z_goto (pc := 87) hZ 104 dR_divide_87 (by decide) ?_
              exact z_retv (pc := 104) hZ dR_divide_104 rfl ⟨rfl, _, rfl, rfl, (by intro a b ha hb wa wb; first | exact sp5 nokey_ (divx (hnn_y ha hb p2_1 c5_2)) | exact sp5 nokey_ (div_ii ha hb p9_4 c12_5 nokey_ nokey_) | exact up_z nokey_ (div_fi ha hb wa (hnn_n ha hb p2_1 c5_2).1 p9_4 c12_5 p31_6 c34_7) | exact up_z nokey_ (dv_no nokey_ nokey_ p31_6 c34_7) | exact div_z ha hb wa wb (hnn_n ha hb p2_1 c5_2) p31_6 c34_7 ev45_8 c50_9 nokey_ | exact ⟨_, p84_18, div_if 0 ha hb wb (hnn_n ha hb p2_1 c5_2).2 p61_10 c64_11 p31_6 c34_7 ev45_8 c50_9 (p69_15 _ ha) (p73_16 _ hb) (Or.inl ⟨c76_17, rfl⟩)⟩ | exact ⟨_, p84_18, div_if 1 ha hb wb (hnn_n ha hb p2_1 c5_2).2 p61_10 c64_11 p31_6 c34_7 ev45_8 c50_9 (p69_15 _ ha) (p73_16 _ hb) (Or.inr ⟨c76_17, rfl⟩)⟩ | exact div_ff ha hb wa wb (hnn_n ha hb p2_1 c5_2) p61_10 c64_11 p31_6 c34_7 ev45_8 c50_9 nokey_ (Or.inl ⟨nokey_, rfl⟩) | exact div_ff ha hb wa wb (hnn_n ha hb p2_1 c5_2) p61_10 c64_11 p31_6 c34_7 ev45_8 c50_9 nokey_ (Or.inr ⟨nokey_, nokey_⟩))⟩
            · refine z_iconst (pc := 79) hZ 1 dR_divide_79 (by decide) ?_
              refine z_goto (pc := 80) hZ 84 dR_divide_80 (by decide) ?_
              obtain ⟨q84_19, hq84_19⟩ := zp_at (X := X) (f := f) h_a0
              refine z_callVN (pc := 84) (As := [.int 1]) (rest := []) hZ (cV_setInfinity l D tys X LP f a0 h_a0 1) zyV_setInfinity (z_good co_V_setInfinity) nl_R_72 (zb in_V) (zb im_V_setInfinity) (zb se_V_setInfinity) q84_19 hq84_19 rfl rfl rfl (by decide) rfl rfl (Nat.le_of_ble_eq_true rfl) ⟨Nat.zero_le _, Nat.zero_le _⟩ dR_divide_84 (z_kv (fun w1 tys1 hp => ?_))
              obtain ⟨f84_19, rfl, rfl, p84_19⟩ := hp
              refine z_goto (pc := 87) hZ 104 dR_divide_87 (by decide) ?_
              exact z_retv (pc := 104) hZ dR_divide_104 rfl ⟨rfl, _, rfl, rfl, (by intro a b ha hb wa wb; first | exact sp5 nokey_ (divx (hnn_y ha hb p2_1 c5_2)) | exact sp5 nokey_ (div_ii ha hb p9_4 c12_5 nokey_ nokey_) | exact up_z nokey_ (div_fi ha hb wa (hnn_n ha hb p2_1 c5_2).1 p9_4 c12_5 p31_6 c34_7) | exact up_z nokey_ (dv_no nokey_ nokey_ p31_6 c34_7) | exact div_z ha hb wa wb (hnn_n ha hb p2_1 c5_2) p31_6 c34_7 ev45_8 c50_9 nokey_ | exact ⟨_, p84_19, div_if 0 ha hb wb (hnn_n ha hb p2_1 c5_2).2 p61_10 c64_11 p31_6 c34_7 ev45_8 c50_9 (p69_15 _ ha) (p73_16 _ hb) (Or.inl ⟨c76_17, rfl⟩)⟩ | exact ⟨_, p84_19, div_if 1 ha hb wb (hnn_n ha hb p2_1 c5_2).2 p61_10 c64_11 p31_6 c34_7 ev45_8 c50_9 (p69_15 _ ha) (p73_16 _ hb) (Or.inr ⟨c76_17, rfl⟩)⟩ | exact div_ff ha hb wa wb (hnn_n ha hb p2_1 c5_2) p61_10 c64_11 p31_6 c34_7 ev45_8 c50_9 nokey_ (Or.inl ⟨nokey_, rfl⟩) | exact div_ff ha hb wa wb (hnn_n ha hb p2_1 c5_2) p61_10 c64_11 p31_6 c34_7 ev45_8 c50_9 nokey_ (Or.inr ⟨nokey_, nokey_⟩))⟩
        · refine z_aload_n (pc := 53) hZ 0 dR_divide_53 rfl rfl ?_
          refine z_callS (pc := 54) (As := [.ref a0]) (rest := []) hZ (cR_divideByZero l D tys X LP f a0 h_a0) zyR_divideByZero (z_goodS ml_R_89 st_R_divideByZero in_R co_R_divideByZero) rfl rfl (by decide) rfl rfl (Nat.le_of_ble_eq_true rfl) ⟨Nat.zero_le _, Nat.zero_le _⟩ dR_divide_54 (z_kv (fun w1 tys1 hp => ?_))
          obtain ⟨f54_20, rfl, rfl, p54_20⟩ := hp
          refine z_goto (pc := 57) hZ 104 dR_divide_57 (by decide) ?_
          exact z_retv (pc := 104) hZ dR_divide_104 rfl ⟨rfl, _, rfl, rfl, (by intro a b ha hb wa wb; first | exact sp5 nokey_ (divx (hnn_y ha hb p2_1 c5_2)) | exact sp5 nokey_ (div_ii ha hb p9_4 c12_5 nokey_ nokey_) | exact up_z nokey_ (div_fi ha hb wa (hnn_n ha hb p2_1 c5_2).1 p9_4 c12_5 p31_6 c34_7) | exact up_z nokey_ (dv_no nokey_ nokey_ p31_6 c34_7) | exact div_z ha hb wa wb (hnn_n ha hb p2_1 c5_2) p31_6 c34_7 ev45_8 c50_9 p54_20 | exact ⟨_, nokey_, div_if 0 ha hb wb (hnn_n ha hb p2_1 c5_2).2 nokey_ nokey_ p31_6 c34_7 ev45_8 c50_9 (nokey_ _ ha) (nokey_ _ hb) (Or.inl ⟨nokey_, rfl⟩)⟩ | exact ⟨_, nokey_, div_if 1 ha hb wb (hnn_n ha hb p2_1 c5_2).2 nokey_ nokey_ p31_6 c34_7 ev45_8 c50_9 (nokey_ _ ha) (nokey_ _ hb) (Or.inr ⟨nokey_, rfl⟩)⟩ | exact div_ff ha hb wa wb (hnn_n ha hb p2_1 c5_2) nokey_ nokey_ p31_6 c34_7 ev45_8 c50_9 nokey_ (Or.inl ⟨nokey_, rfl⟩) | exact div_ff ha hb wa wb (hnn_n ha hb p2_1 c5_2) nokey_ nokey_ p31_6 c34_7 ev45_8 c50_9 nokey_ (Or.inr ⟨nokey_, nokey_⟩))⟩
      · refine z_aload_n (pc := 37) hZ 0 dR_divide_37 rfl rfl ?_
        obtain ⟨q38_21, hq38_21⟩ := zp_at (X := X) (f := f) h_a0
        refine z_callVN (pc := 38) (As := []) (rest := []) hZ (cV_setZero l D tys X LP f a0 h_a0) zyV_setZero (z_good co_V_setZero) nl_R_86 (zb in_V) (zb im_V_setZero) (zb se_V_setZero) q38_21 hq38_21 rfl rfl rfl (by decide) rfl rfl (Nat.le_of_ble_eq_true rfl) ⟨Nat.zero_le _, Nat.zero_le _⟩ dR_divide_38 (z_kv (fun w1 tys1 hp => ?_))
        obtain ⟨f38_21, rfl, rfl, p38_21⟩ := hp
        refine z_goto (pc := 41) hZ 104 dR_divide_41 (by decide) ?_
        exact z_retv (pc := 104) hZ dR_divide_104 rfl ⟨rfl, _, rfl, rfl, (by intro a b ha hb wa wb; first | exact sp5 nokey_ (divx (hnn_y ha hb p2_1 c5_2)) | exact sp5 nokey_ (div_ii ha hb p9_4 c12_5 nokey_ nokey_) | exact up_z p38_21 (div_fi ha hb wa (hnn_n ha hb p2_1 c5_2).1 p9_4 c12_5 p31_6 c34_7) | exact up_z p38_21 (dv_no nokey_ nokey_ p31_6 c34_7) | exact div_z ha hb wa wb (hnn_n ha hb p2_1 c5_2) p31_6 c34_7 nokey_ nokey_ nokey_ | exact ⟨_, nokey_, div_if 0 ha hb wb (hnn_n ha hb p2_1 c5_2).2 nokey_ nokey_ p31_6 c34_7 nokey_ nokey_ (nokey_ _ ha) (nokey_ _ hb) (Or.inl ⟨nokey_, rfl⟩)⟩ | exact ⟨_, nokey_, div_if 1 ha hb wb (hnn_n ha hb p2_1 c5_2).2 nokey_ nokey_ p31_6 c34_7 nokey_ nokey_ (nokey_ _ ha) (nokey_ _ hb) (Or.inr ⟨nokey_, rfl⟩)⟩ | exact div_ff ha hb wa wb (hnn_n ha hb p2_1 c5_2) nokey_ nokey_ p31_6 c34_7 nokey_ nokey_ nokey_ (Or.inl ⟨nokey_, rfl⟩) | exact div_ff ha hb wa wb (hnn_n ha hb p2_1 c5_2) nokey_ nokey_ p31_6 c34_7 nokey_ nokey_ nokey_ (Or.inr ⟨nokey_, nokey_⟩))⟩
    · refine z_aload_n (pc := 15) hZ 1 dR_divide_15 rfl rfl ?_
      obtain ⟨q16_22, hq16_22⟩ := zp_at (X := X) (f := f) h_a1
      refine z_callVN (pc := 16) (As := []) (rest := []) hZ (cV_isInfinite l D tys X LP f a1 h_a1) zyV_isInfinite (z_good co_V_isInfinite) nl_R_25 (zb in_V) (zb im_V_isInfinite) (zb se_V_isInfinite) q16_22 hq16_22 rfl rfl rfl (by decide) rfl rfl (Nat.le_of_ble_eq_true rfl) ⟨Nat.zero_le _, Nat.zero_le _⟩ dR_divide_16 (z_ki (fun r16_22 w1 tys1 hp => ?_))
      obtain ⟨rfl, rfl, p16_22⟩ := hp
      refine z_if_eq (pc := 19) hZ 30 dR_divide_19 (by decide) (fun c19_23 => ?_) (fun c19_23 => ?_)
      · refine z_aload_n (pc := 30) hZ 1 dR_divide_30 rfl rfl ?_
        obtain ⟨q31_24, hq31_24⟩ := zp_at (X := X) (f := f) h_a1
        refine z_callVN (pc := 31) (As := []) (rest := []) hZ (cV_isInfinite l D tys X LP f a1 h_a1) zyV_isInfinite (z_good co_V_isInfinite) nl_R_25 (zb in_V) (zb im_V_isInfinite) (zb se_V_isInfinite) q31_24 hq31_24 rfl rfl rfl (by decide) rfl rfl (Nat.le_of_ble_eq_true rfl) ⟨Nat.zero_le _, Nat.zero_le _⟩ dR_divide_31 (z_ki (fun r31_24 w1 tys1 hp => ?_))
        obtain ⟨rfl, rfl, p31_24⟩ := hp
        refine z_if_eq (pc := 34) hZ 44 dR_divide_34 (by decide) (fun c34_25 => ?_) (fun c34_25 => ?_)
        · refine z_aload_n (pc := 44) hZ 1 dR_divide_44 rfl rfl ?_
          refine z_pg1N (pc := 45) hZ h_a1 uc_V nf_R_29 dR_divide_45 (fun v45_26 ev45_26 => ?_)
          refine z_lconst (pc := 48) hZ 0 dR_divide_48 (by decide) ?_
          refine z_lif_ne (pc := 49) hZ 60 dR_divide_49 dR_divide_50 (by decide) (fun c50_27 => ?_) (fun c50_27 => ?_)
          · refine z_aload_n (pc := 60) hZ 0 dR_divide_60 rfl rfl ?_
            obtain ⟨q61_28, hq61_28⟩ := zp_at (X := X) (f := f) h_a0
            refine z_callVN (pc := 61) (As := []) (rest := []) hZ (cV_isInfinite l D tys X LP f a0 h_a0) zyV_isInfinite (z_good co_V_isInfinite) nl_R_25 (zb in_V) (zb im_V_isInfinite) (zb se_V_isInfinite) q61_28 hq61_28 rfl rfl rfl (by decide) rfl rfl (Nat.le_of_ble_eq_true rfl) ⟨Nat.zero_le _, Nat.zero_le _⟩ dR_divide_61 (z_ki (fun r61_28 w1 tys1 hp => ?_))
            obtain ⟨rfl, rfl, p61_28⟩ := hp
            refine z_if_eq (pc := 64) hZ 90 dR_divide_64 (by decide) (fun c64_29 => ?_) (fun c64_29 => ?_)
            · refine z_aload_n (pc := 90) hZ 0 dR_divide_90 rfl rfl ?_
              refine z_pg1N (pc := 91) hZ h_a0 uc_V nf_R_29 dR_divide_91 (fun v91_30 ev91_30 => ?_)
              refine z_lconst (pc := 94) hZ 0 dR_divide_94 (by decide) ?_
              refine z_lif_eq (pc := 95) hZ 104 dR_divide_95 dR_divide_96 (by decide) (fun c96_31 => ?_) (fun c96_31 => ?_)
              · exact z_retv (pc := 104) hZ dR_divide_104 rfl ⟨rfl, _, rfl, rfl, (by intro a b ha hb wa wb; first | exact sp5 nokey_ (divx (hnn_y ha hb p2_1 c5_2)) | exact sp5 nokey_ (div_ii ha hb p9_4 c12_5 p16_22 c19_23) | exact up_z nokey_ (div_fi ha hb wa (hnn_n ha hb p2_1 c5_2).1 p9_4 c12_5 p31_24 c34_25) | exact up_z nokey_ (dv_no p16_22 c19_23 p31_24 c34_25) | exact div_z ha hb wa wb (hnn_n ha hb p2_1 c5_2) p31_24 c34_25 ev45_26 c50_27 nokey_ | exact ⟨_, nokey_, div_if 0 ha hb wb (hnn_n ha hb p2_1 c5_2).2 p61_28 c64_29 p31_24 c34_25 ev45_26 c50_27 (nokey_ _ ha) (nokey_ _ hb) (Or.inl ⟨nokey_, rfl⟩)⟩ | exact ⟨_, nokey_, div_if 1 ha hb wb (hnn_n ha hb p2_1 c5_2).2 p61_28 c64_29 p31_24 c34_25 ev45_26 c50_27 (nokey_ _ ha) (nokey_ _ hb) (Or.inr ⟨nokey_, rfl⟩)⟩ | exact div_ff ha hb wa wb (hnn_n ha hb p2_1 c5_2) p61_28 c64_29 p31_24 c34_25 ev45_26 c50_27 ev91_30 (Or.inl ⟨c96_31, rfl⟩) | exact div_ff ha hb wa wb (hnn_n ha hb p2_1 c5_2) p61_28 c64_29 p31_24 c34_25 ev45_26 c50_27 ev91_30 (Or.inr ⟨c96_31, nokey_⟩))⟩
              · refine z_aload_n (pc := 99) hZ 0 dR_divide_99 rfl rfl ?_
                refine z_aload_n (pc := 100) hZ 1 dR_divide_100 rfl rfl ?_
                refine z_callS (pc := 101) (As := [.ref a0, .ref a1]) (rest := []) hZ (cR_divideFinite l D tys X LP f a0 h_a0 a1 h_a1) zyR_divideFinite (z_goodS ml_R_92 st_R_divideFinite in_R co_R_divideFinite) rfl rfl (by decide) rfl rfl (Nat.le_of_ble_eq_true rfl) ⟨Nat.zero_le _, Nat.zero_le _⟩ dR_divide_101 (z_kv (fun w1 tys1 hp => ?_))
                obtain ⟨f101_32, rfl, rfl, p101_32⟩ := hp
                exact z_retv (pc := 104) hZ dR_divide_104 rfl ⟨rfl, _, rfl, rfl, (by intro a b ha hb wa wb; first | exact sp5 nokey_ (divx (hnn_y ha hb p2_1 c5_2)) | exact sp5 nokey_ (div_ii ha hb p9_4 c12_5 p16_22 c19_23) | exact up_z nokey_ (div_fi ha hb wa (hnn_n ha hb p2_1 c5_2).1 p9_4 c12_5 p31_24 c34_25) | exact up_z nokey_ (dv_no p16_22 c19_23 p31_24 c34_25) | exact div_z ha hb wa wb (hnn_n ha hb p2_1 c5_2) p31_24 c34_25 ev45_26 c50_27 nokey_ | exact ⟨_, nokey_, div_if 0 ha hb wb (hnn_n ha hb p2_1 c5_2).2 p61_28 c64_29 p31_24 c34_25 ev45_26 c50_27 (nokey_ _ ha) (nokey_ _ hb) (Or.inl ⟨nokey_, rfl⟩)⟩ | exact ⟨_, nokey_, div_if 1 ha hb wb (hnn_n ha hb p2_1 c5_2).2 p61_28 c64_29 p31_24 c34_25 ev45_26 c50_27 (nokey_ _ ha) (nokey_ _ hb) (Or.inr ⟨nokey_, rfl⟩)⟩ | exact div_ff ha hb wa wb (hnn_n ha hb p2_1 c5_2) p61_28 c64_29 p31_24 c34_25 ev45_26 c50_27 ev91_30 (Or.inl ⟨c96_31, rfl⟩) | exact div_ff ha hb wa wb (hnn_n ha hb p2_1 c5_2) p61_28 c64_29 p31_24 c34_25 ev45_26 c50_27 ev91_30 (Or.inr ⟨c96_31, p101_32⟩))⟩
            · refine z_aload_n (pc := 67) hZ 0 dR_divide_67 rfl rfl ?_
              refine z_aload_n (pc := 68) hZ 0 dR_divide_68 rfl rfl ?_
              obtain ⟨q69_33, hq69_33⟩ := zp_at (X := X) (f := f) h_a0
              refine z_callVN (pc := 69) (As := []) (rest := [.ref a0]) hZ (cV_sign l D tys X LP f a0 h_a0) zyV_sign (z_good co_V_sign) nl_R_60 (zb in_V) (zb im_V_sign) (zb se_V_sign) q69_33 hq69_33 rfl rfl rfl (by decide) rfl rfl (Nat.le_of_ble_eq_true rfl) ⟨Nat.zero_le _, Nat.zero_le _⟩ dR_divide_69 (z_ki (fun r69_33 w1 tys1 hp => ?_))
              obtain ⟨rfl, rfl, p69_33⟩ := hp
              refine z_aload_n (pc := 72) hZ 1 dR_divide_72 rfl rfl ?_
              obtain ⟨q73_34, hq73_34⟩ := zp_at (X := X) (f := f) h_a1
              refine z_callVN (pc := 73) (As := []) (rest := [.int r69_33, .ref a0]) hZ (cV_sign l D tys X LP f a1 h_a1) zyV_sign (z_good co_V_sign) nl_R_60 (zb in_V) (zb im_V_sign) (zb se_V_sign) q73_34 hq73_34 rfl rfl rfl (by decide) rfl rfl (Nat.le_of_ble_eq_true rfl) ⟨Nat.zero_le _, Nat.zero_le _⟩ dR_divide_73 (z_ki (fun r73_34 w1 tys1 hp => ?_))
              obtain ⟨rfl, rfl, p73_34⟩ := hp
              refine z_icmp_eq (pc := 76) hZ 83 dR_divide_76 (by decide) (fun c76_35 => ?_) (fun c76_35 => ?_)
              · refine z_iconst (pc := 83) hZ 0 dR_divide_83 (by decide) ?_
                obtain ⟨q84_36, hq84_36⟩ := zp_at (X := X) (f := f) h_a0
                refine z_callVN (pc := 84) (As := [.int 0]) (rest := []) hZ (cV_setInfinity l D tys X LP f a0 h_a0 0) zyV_setInfinity (z_good co_V_setInfinity) nl_R_72 (zb in_V) (zb im_V_setInfinity) (zb se_V_setInfinity) q84_36 hq84_36 rfl rfl rfl (by decide) rfl rfl (Nat.le_of_ble_eq_true rfl) ⟨Nat.zero_le _, Nat.zero_le _⟩ dR_divide_84 (z_kv (fun w1 tys1 hp => ?_))
                obtain ⟨f84_36, rfl, rfl, p84_36⟩ := hp
                refine z_goto (pc := 87) hZ 104 dR_divide_87 (by decide) ?_
                exact z_retv (pc := 104) hZ dR_divide_104 rfl ⟨rfl, _, rfl, rfl, (by intro a b ha hb wa wb; first | exact sp5 nokey_ (divx (hnn_y ha hb p2_1 c5_2)) | exact sp5 nokey_ (div_ii ha hb p9_4 c12_5 p16_22 c19_23) | exact up_z nokey_ (div_fi ha hb wa (hnn_n ha hb p2_1 c5_2).1 p9_4 c12_5 p31_24 c34_25) | exact up_z nokey_ (dv_no p16_22 c19_23 p31_24 c34_25) | exact div_z ha hb wa wb (hnn_n ha hb p2_1 c5_2) p31_24 c34_25 ev45_26 c50_27 nokey_ | exact ⟨_, p84_36, div_if 0 ha hb wb (hnn_n ha hb p2_1 c5_2).2 p61_28 c64_29 p31_24 c34_25 ev45_26 c50_27 (p69_33 _ ha) (p73_34 _ hb) (Or.inl ⟨c76_35, rfl⟩)⟩ | exact ⟨_, p84_36, div_if 1 ha hb wb (hnn_n ha hb p2_1 c5_2).2 p61_28 c64_29 p31_24 c34_25 ev45_26 c50_27 (p69_33 _ ha) (p73_34 _ hb) (Or.inr ⟨c76_35, rfl⟩)⟩ | exact div_ff ha hb wa wb (hnn_n ha hb p2_1 c5_2) p61_28 c64_29 p31_24 c34_25 ev45_26 c50_27 nokey_ (Or.inl ⟨nokey_, rfl⟩) | exact div_ff ha hb wa wb (hnn_n ha hb p2_1 c5_2) p61_28 c64_29 p31_24 c34_25 ev45_26 c50_27 nokey_ (Or.inr ⟨nokey_, nokey_⟩))⟩
              · refine z_iconst (pc := 79) hZ 1 dR_divide_79 (by decide) ?_
                refine z_goto (pc := 80) hZ 84 dR_divide_80 (by decide) ?_
                obtain ⟨q84_37, hq84_37⟩ := zp_at (X := X) (f := f) h_a0
                refine z_callVN (pc := 84) (As := [.int 1]) (rest := []) hZ (cV_setInfinity l D tys X LP f a0 h_a0 1) zyV_setInfinity (z_good co_V_setInfinity) nl_R_72 (zb in_V) (zb im_V_setInfinity) (zb se_V_setInfinity) q84_37 hq84_37 rfl rfl rfl (by decide) rfl rfl (Nat.le_of_ble_eq_true rfl) ⟨Nat.zero_le _, Nat.zero_le _⟩ dR_divide_84 (z_kv (fun w1 tys1 hp => ?_))
                obtain ⟨f84_37, rfl, rfl, p84_37⟩ := hp
                refine z_goto (pc := 87) hZ 104 dR_divide_87 (by decide) ?_
                exact z_retv (pc := 104) hZ dR_divide_104 rfl ⟨rfl, _, rfl, rfl, (by intro a b ha hb wa wb; first | exact sp5 nokey_ (divx (hnn_y ha hb p2_1 c5_2)) | exact sp5 nokey_ (div_ii ha hb p9_4 c12_5 p16_22 c19_23) | exact up_z nokey_ (div_fi ha hb wa (hnn_n ha hb p2_1 c5_2).1 p9_4 c12_5 p31_24 c34_25) | exact up_z nokey_ (dv_no p16_22 c19_23 p31_24 c34_25) | exact div_z ha hb wa wb (hnn_n ha hb p2_1 c5_2) p31_24 c34_25 ev45_26 c50_27 nokey_ | exact ⟨_, p84_37, div_if 0 ha hb wb (hnn_n ha hb p2_1 c5_2).2 p61_28 c64_29 p31_24 c34_25 ev45_26 c50_27 (p69_33 _ ha) (p73_34 _ hb) (Or.inl ⟨c76_35, rfl⟩)⟩ | exact ⟨_, p84_37, div_if 1 ha hb wb (hnn_n ha hb p2_1 c5_2).2 p61_28 c64_29 p31_24 c34_25 ev45_26 c50_27 (p69_33 _ ha) (p73_34 _ hb) (Or.inr ⟨c76_35, rfl⟩)⟩ | exact div_ff ha hb wa wb (hnn_n ha hb p2_1 c5_2) p61_28 c64_29 p31_24 c34_25 ev45_26 c50_27 nokey_ (Or.inl ⟨nokey_, rfl⟩) | exact div_ff ha hb wa wb (hnn_n ha hb p2_1 c5_2) p61_28 c64_29 p31_24 c34_25 ev45_26 c50_27 nokey_ (Or.inr ⟨nokey_, nokey_⟩))⟩
          · refine z_aload_n (pc := 53) hZ 0 dR_divide_53 rfl rfl ?_
            refine z_callS (pc := 54) (As := [.ref a0]) (rest := []) hZ (cR_divideByZero l D tys X LP f a0 h_a0) zyR_divideByZero (z_goodS ml_R_89 st_R_divideByZero in_R co_R_divideByZero) rfl rfl (by decide) rfl rfl (Nat.le_of_ble_eq_true rfl) ⟨Nat.zero_le _, Nat.zero_le _⟩ dR_divide_54 (z_kv (fun w1 tys1 hp => ?_))
            obtain ⟨f54_38, rfl, rfl, p54_38⟩ := hp
            refine z_goto (pc := 57) hZ 104 dR_divide_57 (by decide) ?_
            exact z_retv (pc := 104) hZ dR_divide_104 rfl ⟨rfl, _, rfl, rfl, (by intro a b ha hb wa wb; first | exact sp5 nokey_ (divx (hnn_y ha hb p2_1 c5_2)) | exact sp5 nokey_ (div_ii ha hb p9_4 c12_5 p16_22 c19_23) | exact up_z nokey_ (div_fi ha hb wa (hnn_n ha hb p2_1 c5_2).1 p9_4 c12_5 p31_24 c34_25) | exact up_z nokey_ (dv_no p16_22 c19_23 p31_24 c34_25) | exact div_z ha hb wa wb (hnn_n ha hb p2_1 c5_2) p31_24 c34_25 ev45_26 c50_27 p54_38 | exact ⟨_, nokey_, div_if 0 ha hb wb (hnn_n ha hb p2_1 c5_2).2 nokey_ nokey_ p31_24 c34_25 ev45_26 c50_27 (nokey_ _ ha) (nokey_ _ hb) (Or.inl ⟨nokey_, rfl⟩)⟩ | exact ⟨_, nokey_, div_if 1 ha hb wb (hnn_n ha hb p2_1 c5_2).2 nokey_ nokey_ p31_24 c34_25 ev45_26 c50_27 (nokey_ _ ha) (nokey_ _ hb) (Or.inr ⟨nokey_, rfl⟩)⟩ | exact div_ff ha hb wa wb (hnn_n ha hb p2_1 c5_2) nokey_ nokey_ p31_24 c34_25 ev45_26 c50_27 nokey_ (Or.inl ⟨nokey_, rfl⟩) | exact div_ff ha hb wa wb (hnn_n ha hb p2_1 c5_2) nokey_ nokey_ p31_24 c34_25 ev45_26 c50_27 nokey_ (Or.inr ⟨nokey_, nokey_⟩))⟩
        · refine z_aload_n (pc := 37) hZ 0 dR_divide_37 rfl rfl ?_
          obtain ⟨q38_39, hq38_39⟩ := zp_at (X := X) (f := f) h_a0
          refine z_callVN (pc := 38) (As := []) (rest := []) hZ (cV_setZero l D tys X LP f a0 h_a0) zyV_setZero (z_good co_V_setZero) nl_R_86 (zb in_V) (zb im_V_setZero) (zb se_V_setZero) q38_39 hq38_39 rfl rfl rfl (by decide) rfl rfl (Nat.le_of_ble_eq_true rfl) ⟨Nat.zero_le _, Nat.zero_le _⟩ dR_divide_38 (z_kv (fun w1 tys1 hp => ?_))
          obtain ⟨f38_39, rfl, rfl, p38_39⟩ := hp
          refine z_goto (pc := 41) hZ 104 dR_divide_41 (by decide) ?_
          exact z_retv (pc := 104) hZ dR_divide_104 rfl ⟨rfl, _, rfl, rfl, (by intro a b ha hb wa wb; first | exact sp5 nokey_ (divx (hnn_y ha hb p2_1 c5_2)) | exact sp5 nokey_ (div_ii ha hb p9_4 c12_5 p16_22 c19_23) | exact up_z p38_39 (div_fi ha hb wa (hnn_n ha hb p2_1 c5_2).1 p9_4 c12_5 p31_24 c34_25) | exact up_z p38_39 (dv_no p16_22 c19_23 p31_24 c34_25) | exact div_z ha hb wa wb (hnn_n ha hb p2_1 c5_2) p31_24 c34_25 nokey_ nokey_ nokey_ | exact ⟨_, nokey_, div_if 0 ha hb wb (hnn_n ha hb p2_1 c5_2).2 nokey_ nokey_ p31_24 c34_25 nokey_ nokey_ (nokey_ _ ha) (nokey_ _ hb) (Or.inl ⟨nokey_, rfl⟩)⟩ | exact ⟨_, nokey_, div_if 1 ha hb wb (hnn_n ha hb p2_1 c5_2).2 nokey_ nokey_ p31_24 c34_25 nokey_ nokey_ (nokey_ _ ha) (nokey_ _ hb) (Or.inr ⟨nokey_, rfl⟩)⟩ | exact div_ff ha hb wa wb (hnn_n ha hb p2_1 c5_2) nokey_ nokey_ p31_24 c34_25 nokey_ nokey_ nokey_ (Or.inl ⟨nokey_, rfl⟩) | exact div_ff ha hb wa wb (hnn_n ha hb p2_1 c5_2) nokey_ nokey_ p31_24 c34_25 nokey_ nokey_ nokey_ (Or.inr ⟨nokey_, nokey_⟩))⟩
      · refine z_aload_n (pc := 22) hZ 0 dR_divide_22 rfl rfl ?_
        refine z_iconst (pc := 23) hZ 5 dR_divide_23 (by decide) ?_
        obtain ⟨q24_40, hq24_40⟩ := zp_at (X := X) (f := f) h_a0
        refine z_callVN (pc := 24) (As := [.int 5]) (rest := []) hZ (cV_setSpecial l D tys X LP f a0 h_a0 5) zyV_setSpecial (z_good co_V_setSpecial) nl_R_21 (zb in_V) (zb im_V_setSpecial) (zb se_V_setSpecial) q24_40 hq24_40 rfl rfl rfl (by decide) rfl rfl (Nat.le_of_ble_eq_true rfl) ⟨Nat.zero_le _, Nat.zero_le _⟩ dR_divide_24 (z_kv (fun w1 tys1 hp => ?_))
        obtain ⟨f24_40, rfl, rfl, p24_40⟩ := hp
        refine z_goto (pc := 27) hZ 104 dR_divide_27 (by decide) ?_
        exact z_retv (pc := 104) hZ dR_divide_104 rfl ⟨rfl, _, rfl, rfl, (by intro a b ha hb wa wb; first | exact sp5 p24_40 (divx (hnn_y ha hb p2_1 c5_2)) | exact sp5 p24_40 (div_ii ha hb p9_4 c12_5 p16_22 c19_23) | exact up_z nokey_ (div_fi ha hb wa (hnn_n ha hb p2_1 c5_2).1 p9_4 c12_5 nokey_ nokey_) | exact up_z nokey_ (dv_no p16_22 c19_23 nokey_ nokey_) | exact div_z ha hb wa wb (hnn_n ha hb p2_1 c5_2) nokey_ nokey_ nokey_ nokey_ nokey_ | exact ⟨_, nokey_, div_if 0 ha hb wb (hnn_n ha hb p2_1 c5_2).2 nokey_ nokey_ nokey_ nokey_ nokey_ nokey_ (nokey_ _ ha) (nokey_ _ hb) (Or.inl ⟨nokey_, rfl⟩)⟩ | exact ⟨_, nokey_, div_if 1 ha hb wb (hnn_n ha hb p2_1 c5_2).2 nokey_ nokey_ nokey_ nokey_ nokey_ nokey_ (nokey_ _ ha) (nokey_ _ hb) (Or.inr ⟨nokey_, rfl⟩)⟩ | exact div_ff ha hb wa wb (hnn_n ha hb p2_1 c5_2) nokey_ nokey_ nokey_ nokey_ nokey_ nokey_ nokey_ (Or.inl ⟨nokey_, rfl⟩) | exact div_ff ha hb wa wb (hnn_n ha hb p2_1 c5_2) nokey_ nokey_ nokey_ nokey_ nokey_ nokey_ nokey_ (Or.inr ⟨nokey_, nokey_⟩))⟩
set_option maxHeartbeats 4000000 in
set_option maxRecDepth 100000 in
theorem cR_remainderAbove (l : Launch) (D : va_G) (tys : zT) (w : va_W) (p0 : Int64) (p1 : Int32) (p2 : Int64) : zM l D vwCl zNF zNM yR_remainderAbove wsR_remainderAbove { frames := 1, cells := 0, slots := 0, locals := 21 } [.long p0, .int p1, .long p2] (w) tys (qL (fun r w' tys' => w = w' ∧ tys = tys' ∧ (RAC p0 p2 p1 → un r = un p0 * 2 ^ p1.toInt.toNat % un p2))) := by
  refine z_met (cc := bR_remainderAbove) (maxL := 8) (ret := (some .long)) (isI := false) (own := RR) (by decide +kernel) rfl rfl (fun h => by cases h) (Nat.le_of_ble_eq_true rfl) (fun Z hZ => ?_)
  show Z 0 0 tys 0 [(0, .long p0), (2, .int p1), (3, .long p2)] [] (w)
  refine z_lload_n (pc := 0) hZ 2 dR_remainderAbove_0 rfl rfl ?_
  refine z_lconst (pc := 1) hZ 0 dR_remainderAbove_1 (by decide) ?_
  refine z_lif_ne (pc := 2) hZ 8 dR_remainderAbove_2 dR_remainderAbove_3 (by decide) (fun c3_1 => ?_) (fun c3_1 => ?_)
  · refine z_lload_n (pc := 8) hZ 0 dR_remainderAbove_8 rfl rfl ?_
    refine z_lload_n (pc := 9) hZ 2 dR_remainderAbove_9 rfl rfl ?_
    refine z_lrem (pc := 10) hZ dR_remainderAbove_10 (by assumption) (fun v10_2 ev10_2 => ?_)
    refine z_lstore (pc := 11) hZ [(5, .long v10_2), (0, .long p0), (2, .int p1), (3, .long p2)] dR_remainderAbove_11 (by decide) rfl ?_
    refine z_iload_n (pc := 13) hZ 2 dR_remainderAbove_13 rfl rfl ?_
    refine z_istore (pc := 14) hZ [(7, .int p1), (5, .long v10_2), (0, .long p0), (2, .int p1), (3, .long p2)] dR_remainderAbove_14 (by decide) rfl ?_
    have L16 : ∀ (N16 : Nat) (x7_16 : Int32) (x5_16 : Int64), x7_16.toInt.toNat < N16 → (RAI p0 p2 p1 x5_16 x7_16) → Z 0 0 tys 16 [(7, .int x7_16), (5, .long x5_16), (3, .long p2)] [] (w) := by
      intro N16
      induction N16 with
      | zero => intro x7_16 x5_16 m16; exact absurd m16 (Nat.not_lt_zero _)
      | succ N16 ih16 =>
        intro x7_16 x5_16 m16 q16
        refine z_iload (pc := 16) hZ 0 dR_remainderAbove_16 rfl ?_
        refine z_if_le (pc := 18) hZ 41 dR_remainderAbove_18 (by decide) (fun c18_3 => ?_) (fun c18_3 => ?_)
        · refine z_lload (pc := 41) hZ 1 dR_remainderAbove_41 rfl ?_
          exact z_retl (pc := 43) hZ dR_remainderAbove_43 rfl ⟨_, rfl, rfl, rfl, (by exact ra_e q16 c18_3)⟩
        · refine z_lload (pc := 21) hZ 1 dR_remainderAbove_21 rfl ?_
          refine z_iload (pc := 23) hZ 0 dR_remainderAbove_23 rfl ?_
          refine z_bipush (pc := 25) hZ 10 dR_remainderAbove_25 (by decide) ?_
          refine z_mmin (pc := 27) hZ (zb ml_R_80) (zb st_JM_min) (zb in_Math) (zb co_JM_min) (by decide) (Nat.le_of_ble_eq_true rfl) (Nat.zero_le _) (Nat.zero_le _) dR_remainderAbove_27 (fun v27_4 ev27_4 => ?_)
          refine z_lshl (pc := 30) hZ dR_remainderAbove_30 (fun v30_5 ev30_5 => ?_)
          refine z_lload_n (pc := 31) hZ 2 dR_remainderAbove_31 rfl rfl ?_
          refine z_lrem (pc := 32) hZ dR_remainderAbove_32 (by assumption) (fun v32_6 ev32_6 => ?_)
          refine z_lstore (pc := 33) hZ [(5, .long v32_6), (7, .int x7_16), (3, .long p2)] dR_remainderAbove_33 (by decide) rfl ?_
          refine z_iinc (pc := 35) hZ 1 (fun v9 => [(7, .int v9), (5, .long v32_6), (3, .long p2)]) dR_remainderAbove_35 rfl (by decide) (fun _ => rfl) (fun v35_7 ev35_7 => ?_)
          refine z_goto (pc := 38) hZ 16 dR_remainderAbove_38 (by decide) ?_
          exact z_sub (pc := 16) hZ [0, 1, 2] rfl (ih16 v35_7 v32_6 (by exact Nat.lt_of_lt_of_le (dec_dn (x := x7_16) (-10) (by decide) (by decide) (by assumption) (by assumption)) (Nat.le_of_lt_succ m16)) (by exact ra_s q16 c18_3 ev27_4 ev30_5 ev32_6 ev35_7))
    exact z_sub (pc := 16) hZ [0, 1, 4] rfl (L16 _ p1 v10_2 (Nat.lt_succ_self _) (by exact ra_0 ev10_2))
  · refine z_lconst (pc := 6) hZ 0 dR_remainderAbove_6 (by decide) ?_
    exact z_retl (pc := 7) hZ dR_remainderAbove_7 rfl ⟨_, rfl, rfl, rfl, (by exact fun h => absurd (un_0.mp c3_1) h.2.2.1)⟩
set_option maxHeartbeats 4000000 in
set_option maxRecDepth 100000 in
theorem cR_remainderOfSizes (l : Launch) (D : va_G) (tys : zT) (X : va_W) (LP : List Nat) (f : Nat → V3) (a0 : Nat) (h_a0 : a0 ∈ LP) (a1 : Nat) (h_a1 : a1 ∈ LP) : zM l D vwCl zNF zNM yR_remainderOfSizes wsR_remainderOfSizes { frames := 3, cells := 0, slots := 0, locals := 74 } [.ref a0, .ref a1] (X ++ PL LP f) tys (qV (fun w' tys' => ∃ f' : Nat → V3, X ++ PL LP f' = w' ∧ tys = tys' ∧ (∀ A B, CA (f a0) (.inr (.inl A)) → CA (f a1) (.inr (.inl B)) → B ≠ 0 → UPD f f' a0 (.inr (.inl (A.tmod B)))))) := by
  refine z_met (cc := bR_remainderOfSizes) (maxL := 5) (ret := none) (isI := false) (own := RR) (by decide +kernel) rfl rfl (fun h => by cases h) (Nat.le_of_ble_eq_true rfl) (fun Z hZ => ?_)
  show Z 0 0 tys 0 [(0, .ref a0), (1, .ref a1)] [] (X ++ PL LP f)
  refine z_aload_n (pc := 0) hZ 0 dR_remainderOfSizes_0 rfl rfl ?_
  refine z_pg2N (pc := 1) hZ h_a0 uc_V nf_R_57 dR_remainderOfSizes_1 (fun v1_1 ev1_1 => ?_)
  refine z_aload_n (pc := 4) hZ 1 dR_remainderOfSizes_4 rfl rfl ?_
  refine z_pg2N (pc := 5) hZ h_a1 uc_V nf_R_57 dR_remainderOfSizes_5 (fun v5_2 ev5_2 => ?_)
  refine z_isub (pc := 8) hZ dR_remainderOfSizes_8 (fun v8_3 ev8_3 => ?_)
  refine z_istore_n (pc := 9) hZ [(2, .int v8_3), (0, .ref a0), (1, .ref a1)] dR_remainderOfSizes_9 rfl (by decide) rfl ?_
  refine z_iload_n (pc := 10) hZ 0 dR_remainderOfSizes_10 rfl rfl ?_
  refine z_if_lt (pc := 11) hZ 54 dR_remainderOfSizes_11 (by decide) (fun c11_4 => ?_) (fun c11_4 => ?_)
  · refine z_iload_n (pc := 54) hZ 0 dR_remainderOfSizes_54 rfl rfl ?_
    refine z_ineg (pc := 55) hZ dR_remainderOfSizes_55 (fun v55_5 ev55_5 => ?_)
    refine z_aload_n (pc := 56) hZ 2 dR_remainderOfSizes_56 rfl rfl ?_
    obtain ⟨q57_6, hq57_6⟩ := zp_at (X := X) (f := f) h_a1
    refine z_callVN (pc := 57) (As := []) (rest := [.int v55_5]) hZ (cV_size l D tys X LP f a1 h_a1) zyV_size (z_good co_V_size) nl_R_47 (zb in_V) (zb im_V_size) (zb se_V_size) q57_6 hq57_6 rfl rfl rfl (by decide) rfl rfl (Nat.le_of_ble_eq_true rfl) ⟨Nat.zero_le _, Nat.zero_le _⟩ dR_remainderOfSizes_57 (z_kl (fun r57_6 w1 tys1 hp => ?_))
    obtain ⟨rfl, rfl, p57_6⟩ := hp
    refine z_callS (pc := 60) (As := [.long r57_6]) (rest := [.int v55_5]) hZ (cJL_numberOfLeadingZeros l D tys (X ++ PL LP f) r57_6) zyJL_numberOfLeadingZeros (z_goodS ml_R_51 st_JL_numberOfLeadingZeros in_JL co_JL_numberOfLeadingZeros) rfl rfl (by decide) rfl rfl (Nat.le_of_ble_eq_true rfl) ⟨Nat.zero_le _, Nat.zero_le _⟩ dR_remainderOfSizes_60 (z_ki (fun r60_7 w1 tys1 hp => ?_))
    obtain ⟨rfl, rfl, p60_7⟩ := hp
    refine z_icmp_ge (pc := 63) hZ 109 dR_remainderOfSizes_63 (by decide) (fun c63_8 => ?_) (fun c63_8 => ?_)
    · exact z_retv (pc := 109) hZ dR_remainderOfSizes_109 rfl ⟨rfl, _, rfl, rfl, (by intro A B ha hb b0; first | exact rz_1 (b := 0) ha hb b0 ev1_1 ev5_2 ev8_3 c11_4 nokey_ nokey_ nokey_ (ng_0 ha nokey_ nokey_) nokey_ nokey_ | exact rz_1 (b := 1) ha hb b0 ev1_1 ev5_2 ev8_3 c11_4 nokey_ nokey_ nokey_ (ng_1 ha nokey_ nokey_) nokey_ nokey_ | exact rz_2 (b := 0) ha hb b0 ev1_1 ev5_2 ev8_3 c11_4 ev55_5 p57_6 p60_7 c63_8 nokey_ nokey_ nokey_ nokey_ nokey_ (ng_0 ha nokey_ nokey_) nokey_ nokey_ | exact rz_2 (b := 1) ha hb b0 ev1_1 ev5_2 ev8_3 c11_4 ev55_5 p57_6 p60_7 c63_8 nokey_ nokey_ nokey_ nokey_ nokey_ (ng_1 ha nokey_ nokey_) nokey_ nokey_ | exact rz_3 ha hb b0 ev1_1 ev5_2 ev8_3 c11_4 ev55_5 p57_6 p60_7 c63_8 | exact rz_n hb b0 p57_6 p60_7 c11_4 ev55_5 c63_8 nokey_ nokey_ nokey_ nokey_)⟩
    · refine z_aload_n (pc := 66) hZ 2 dR_remainderOfSizes_66 rfl rfl ?_
      obtain ⟨q67_9, hq67_9⟩ := zp_at (X := X) (f := f) h_a1
      refine z_callVN (pc := 67) (As := []) (rest := []) hZ (cV_size l D tys X LP f a1 h_a1) zyV_size (z_good co_V_size) nl_R_47 (zb in_V) (zb im_V_size) (zb se_V_size) q67_9 hq67_9 rfl rfl rfl (by decide) rfl rfl (Nat.le_of_ble_eq_true rfl) ⟨Nat.zero_le _, Nat.zero_le _⟩ dR_remainderOfSizes_67 (z_kl (fun r67_9 w1 tys1 hp => ?_))
      obtain ⟨rfl, rfl, p67_9⟩ := hp
      refine z_iload_n (pc := 70) hZ 0 dR_remainderOfSizes_70 rfl rfl ?_
      refine z_ineg (pc := 71) hZ dR_remainderOfSizes_71 (fun v71_10 ev71_10 => ?_)
      refine z_lshl (pc := 72) hZ dR_remainderOfSizes_72 (fun v72_11 ev72_11 => ?_)
      refine z_lstore_n (pc := 73) hZ [(3, .long v72_11), (2, .int v8_3), (0, .ref a0), (1, .ref a1)] dR_remainderOfSizes_73 rfl (by decide) rfl ?_
      refine z_lload_n (pc := 74) hZ 0 dR_remainderOfSizes_74 rfl rfl ?_
      refine z_lconst (pc := 75) hZ 0 dR_remainderOfSizes_75 (by decide) ?_
      refine z_lif_eq (pc := 76) hZ 109 dR_remainderOfSizes_76 dR_remainderOfSizes_77 (by decide) (fun c77_12 => ?_) (fun c77_12 => ?_)
      · exact z_retv (pc := 109) hZ dR_remainderOfSizes_109 rfl ⟨rfl, _, rfl, rfl, (by intro A B ha hb b0; first | exact rz_1 (b := 0) ha hb b0 ev1_1 ev5_2 ev8_3 c11_4 nokey_ nokey_ nokey_ (ng_0 ha nokey_ nokey_) nokey_ nokey_ | exact rz_1 (b := 1) ha hb b0 ev1_1 ev5_2 ev8_3 c11_4 nokey_ nokey_ nokey_ (ng_1 ha nokey_ nokey_) nokey_ nokey_ | exact rz_2 (b := 0) ha hb b0 ev1_1 ev5_2 ev8_3 c11_4 ev55_5 p57_6 p60_7 c63_8 p67_9 ev71_10 ev72_11 nokey_ nokey_ (ng_0 ha nokey_ nokey_) nokey_ nokey_ | exact rz_2 (b := 1) ha hb b0 ev1_1 ev5_2 ev8_3 c11_4 ev55_5 p57_6 p60_7 c63_8 p67_9 ev71_10 ev72_11 nokey_ nokey_ (ng_1 ha nokey_ nokey_) nokey_ nokey_ | exact rz_3 ha hb b0 ev1_1 ev5_2 ev8_3 c11_4 ev55_5 p57_6 p60_7 c63_8 | exact rz_n hb b0 p57_6 p60_7 c11_4 ev55_5 c63_8 p67_9 ev71_10 ev72_11 c77_12)⟩
      · refine z_aload_n (pc := 80) hZ 2 dR_remainderOfSizes_80 rfl rfl ?_
        refine z_aload_n (pc := 81) hZ 2 dR_remainderOfSizes_81 rfl rfl ?_
        refine z_pg1N (pc := 82) hZ h_a0 uc_V nf_R_29 dR_remainderOfSizes_82 (fun v82_13 ev82_13 => ?_)
        refine z_lconst (pc := 85) hZ 0 dR_remainderOfSizes_85 (by decide) ?_
        refine z_lif_ge (pc := 86) hZ 94 dR_remainderOfSizes_86 dR_remainderOfSizes_87 (by decide) (fun c87_14 => ?_) (fun c87_14 => ?_)
        · refine z_iconst (pc := 94) hZ 0 dR_remainderOfSizes_94 (by decide) ?_
          refine z_aload_n (pc := 95) hZ 2 dR_remainderOfSizes_95 rfl rfl ?_
          obtain ⟨q96_15, hq96_15⟩ := zp_at (X := X) (f := f) h_a0
          refine z_callVN (pc := 96) (As := []) (rest := [.int 0, .ref a0]) hZ (cV_size l D tys X LP f a0 h_a0) zyV_size (z_good co_V_size) nl_R_47 (zb in_V) (zb im_V_size) (zb se_V_size) q96_15 hq96_15 rfl rfl rfl (by decide) rfl rfl (Nat.le_of_ble_eq_true rfl) ⟨Nat.zero_le _, Nat.zero_le _⟩ dR_remainderOfSizes_96 (z_kl (fun r96_15 w1 tys1 hp => ?_))
          obtain ⟨rfl, rfl, p96_15⟩ := hp
          refine z_lload_n (pc := 99) hZ 0 dR_remainderOfSizes_99 rfl rfl ?_
          refine z_lrem (pc := 100) hZ dR_remainderOfSizes_100 (by assumption) (fun v100_16 ev100_16 => ?_)
          refine z_iconst (pc := 101) hZ 0 dR_remainderOfSizes_101 (by decide) ?_
          refine z_aload_n (pc := 102) hZ 2 dR_remainderOfSizes_102 rfl rfl ?_
          refine z_pg2N (pc := 103) hZ h_a0 uc_V nf_R_57 dR_remainderOfSizes_103 (fun v103_17 ev103_17 => ?_)
          obtain ⟨q106_18, hq106_18⟩ := zp_at (X := X) (f := f) h_a0
          refine z_callVN (pc := 106) (As := [.int 0, .long v100_16, .int 0, .int v103_17]) (rest := []) hZ (cV_setNearest l D tys X LP f a0 h_a0 0 v100_16 0 v103_17) zyV_setNearest (z_good co_V_setNearest) nl_R_64 (zb in_V) (zb im_V_setNearest) (zb se_V_setNearest) q106_18 hq106_18 rfl rfl rfl (by decide) rfl rfl (Nat.le_of_ble_eq_true rfl) ⟨Nat.zero_le _, Nat.zero_le _⟩ dR_remainderOfSizes_106 (z_kv (fun w1 tys1 hp => ?_))
          obtain ⟨f106_18, rfl, rfl, p106_18⟩ := hp
          exact z_retv (pc := 109) hZ dR_remainderOfSizes_109 rfl ⟨rfl, _, rfl, rfl, (by intro A B ha hb b0; first | exact rz_1 (b := 0) ha hb b0 ev1_1 ev5_2 ev8_3 c11_4 nokey_ nokey_ nokey_ (ng_0 ha nokey_ nokey_) nokey_ nokey_ | exact rz_1 (b := 1) ha hb b0 ev1_1 ev5_2 ev8_3 c11_4 nokey_ nokey_ nokey_ (ng_1 ha nokey_ nokey_) nokey_ nokey_ | exact rz_2 (b := 0) ha hb b0 ev1_1 ev5_2 ev8_3 c11_4 ev55_5 p57_6 p60_7 c63_8 p67_9 ev71_10 ev72_11 p96_15 ev100_16 (ng_0 ha ev82_13 c87_14) ev103_17 p106_18 | exact rz_2 (b := 1) ha hb b0 ev1_1 ev5_2 ev8_3 c11_4 ev55_5 p57_6 p60_7 c63_8 p67_9 ev71_10 ev72_11 p96_15 ev100_16 (ng_1 ha ev82_13 c87_14) ev103_17 p106_18 | exact rz_3 ha hb b0 ev1_1 ev5_2 ev8_3 c11_4 ev55_5 p57_6 p60_7 c63_8 | exact rz_n hb b0 p57_6 p60_7 c11_4 ev55_5 c63_8 p67_9 ev71_10 ev72_11 c77_12)⟩
        · refine z_iconst (pc := 90) hZ 1 dR_remainderOfSizes_90 (by decide) ?_
          refine z_goto (pc := 91) hZ 95 dR_remainderOfSizes_91 (by decide) ?_
          refine z_aload_n (pc := 95) hZ 2 dR_remainderOfSizes_95 rfl rfl ?_
          obtain ⟨q96_19, hq96_19⟩ := zp_at (X := X) (f := f) h_a0
          refine z_callVN (pc := 96) (As := []) (rest := [.int 1, .ref a0]) hZ (cV_size l D tys X LP f a0 h_a0) zyV_size (z_good co_V_size) nl_R_47 (zb in_V) (zb im_V_size) (zb se_V_size) q96_19 hq96_19 rfl rfl rfl (by decide) rfl rfl (Nat.le_of_ble_eq_true rfl) ⟨Nat.zero_le _, Nat.zero_le _⟩ dR_remainderOfSizes_96 (z_kl (fun r96_19 w1 tys1 hp => ?_))
          obtain ⟨rfl, rfl, p96_19⟩ := hp
          refine z_lload_n (pc := 99) hZ 0 dR_remainderOfSizes_99 rfl rfl ?_
          refine z_lrem (pc := 100) hZ dR_remainderOfSizes_100 (by assumption) (fun v100_20 ev100_20 => ?_)
          refine z_iconst (pc := 101) hZ 0 dR_remainderOfSizes_101 (by decide) ?_
          refine z_aload_n (pc := 102) hZ 2 dR_remainderOfSizes_102 rfl rfl ?_
          refine z_pg2N (pc := 103) hZ h_a0 uc_V nf_R_57 dR_remainderOfSizes_103 (fun v103_21 ev103_21 => ?_)
          obtain ⟨q106_22, hq106_22⟩ := zp_at (X := X) (f := f) h_a0
          refine z_callVN (pc := 106) (As := [.int 1, .long v100_20, .int 0, .int v103_21]) (rest := []) hZ (cV_setNearest l D tys X LP f a0 h_a0 1 v100_20 0 v103_21) zyV_setNearest (z_good co_V_setNearest) nl_R_64 (zb in_V) (zb im_V_setNearest) (zb se_V_setNearest) q106_22 hq106_22 rfl rfl rfl (by decide) rfl rfl (Nat.le_of_ble_eq_true rfl) ⟨Nat.zero_le _, Nat.zero_le _⟩ dR_remainderOfSizes_106 (z_kv (fun w1 tys1 hp => ?_))
          obtain ⟨f106_22, rfl, rfl, p106_22⟩ := hp
          exact z_retv (pc := 109) hZ dR_remainderOfSizes_109 rfl ⟨rfl, _, rfl, rfl, (by intro A B ha hb b0; first | exact rz_1 (b := 0) ha hb b0 ev1_1 ev5_2 ev8_3 c11_4 nokey_ nokey_ nokey_ (ng_0 ha nokey_ nokey_) nokey_ nokey_ | exact rz_1 (b := 1) ha hb b0 ev1_1 ev5_2 ev8_3 c11_4 nokey_ nokey_ nokey_ (ng_1 ha nokey_ nokey_) nokey_ nokey_ | exact rz_2 (b := 0) ha hb b0 ev1_1 ev5_2 ev8_3 c11_4 ev55_5 p57_6 p60_7 c63_8 p67_9 ev71_10 ev72_11 p96_19 ev100_20 (ng_0 ha ev82_13 c87_14) ev103_21 p106_22 | exact rz_2 (b := 1) ha hb b0 ev1_1 ev5_2 ev8_3 c11_4 ev55_5 p57_6 p60_7 c63_8 p67_9 ev71_10 ev72_11 p96_19 ev100_20 (ng_1 ha ev82_13 c87_14) ev103_21 p106_22 | exact rz_3 ha hb b0 ev1_1 ev5_2 ev8_3 c11_4 ev55_5 p57_6 p60_7 c63_8 | exact rz_n hb b0 p57_6 p60_7 c11_4 ev55_5 c63_8 p67_9 ev71_10 ev72_11 c77_12)⟩
  · refine z_aload_n (pc := 14) hZ 1 dR_remainderOfSizes_14 rfl rfl ?_
    obtain ⟨q15_23, hq15_23⟩ := zp_at (X := X) (f := f) h_a0
    refine z_callVN (pc := 15) (As := []) (rest := []) hZ (cV_size l D tys X LP f a0 h_a0) zyV_size (z_good co_V_size) nl_R_47 (zb in_V) (zb im_V_size) (zb se_V_size) q15_23 hq15_23 rfl rfl rfl (by decide) rfl rfl (Nat.le_of_ble_eq_true rfl) ⟨Nat.zero_le _, Nat.zero_le _⟩ dR_remainderOfSizes_15 (z_kl (fun r15_23 w1 tys1 hp => ?_))
    obtain ⟨rfl, rfl, p15_23⟩ := hp
    refine z_iload_n (pc := 18) hZ 0 dR_remainderOfSizes_18 rfl rfl ?_
    refine z_aload_n (pc := 19) hZ 2 dR_remainderOfSizes_19 rfl rfl ?_
    obtain ⟨q20_24, hq20_24⟩ := zp_at (X := X) (f := f) h_a1
    refine z_callVN (pc := 20) (As := []) (rest := [.int v8_3, .long r15_23]) hZ (cV_size l D tys X LP f a1 h_a1) zyV_size (z_good co_V_size) nl_R_47 (zb in_V) (zb im_V_size) (zb se_V_size) q20_24 hq20_24 rfl rfl rfl (by decide) rfl rfl (Nat.le_of_ble_eq_true rfl) ⟨Nat.zero_le _, Nat.zero_le _⟩ dR_remainderOfSizes_20 (z_kl (fun r20_24 w1 tys1 hp => ?_))
    obtain ⟨rfl, rfl, p20_24⟩ := hp
    refine z_callS (pc := 23) (As := [.long r15_23, .int v8_3, .long r20_24]) (rest := []) hZ (cR_remainderAbove l D tys (X ++ PL LP f) r15_23 v8_3 r20_24) zyR_remainderAbove (z_goodS ml_R_99 st_R_remainderAbove in_R co_R_remainderAbove) rfl rfl (by decide) rfl rfl (Nat.le_of_ble_eq_true rfl) ⟨Nat.zero_le _, Nat.zero_le _⟩ dR_remainderOfSizes_23 (z_kl (fun r23_25 w1 tys1 hp => ?_))
    obtain ⟨rfl, rfl, p23_25⟩ := hp
    refine z_lstore_n (pc := 26) hZ [(3, .long r23_25), (2, .int v8_3), (0, .ref a0), (1, .ref a1)] dR_remainderOfSizes_26 rfl (by decide) rfl ?_
    refine z_aload_n (pc := 27) hZ 2 dR_remainderOfSizes_27 rfl rfl ?_
    refine z_aload_n (pc := 28) hZ 2 dR_remainderOfSizes_28 rfl rfl ?_
    refine z_pg1N (pc := 29) hZ h_a0 uc_V nf_R_29 dR_remainderOfSizes_29 (fun v29_26 ev29_26 => ?_)
    refine z_lconst (pc := 32) hZ 0 dR_remainderOfSizes_32 (by decide) ?_
    refine z_lif_ge (pc := 33) hZ 41 dR_remainderOfSizes_33 dR_remainderOfSizes_34 (by decide) (fun c34_27 => ?_) (fun c34_27 => ?_)
    · refine z_iconst (pc := 41) hZ 0 dR_remainderOfSizes_41 (by decide) ?_
      refine z_lload_n (pc := 42) hZ 0 dR_remainderOfSizes_42 rfl rfl ?_
      refine z_iconst (pc := 43) hZ 0 dR_remainderOfSizes_43 (by decide) ?_
      refine z_aload_n (pc := 44) hZ 3 dR_remainderOfSizes_44 rfl rfl ?_
      refine z_pg2N (pc := 45) hZ h_a1 uc_V nf_R_57 dR_remainderOfSizes_45 (fun v45_28 ev45_28 => ?_)
      obtain ⟨q48_29, hq48_29⟩ := zp_at (X := X) (f := f) h_a0
      refine z_callVN (pc := 48) (As := [.int 0, .long r23_25, .int 0, .int v45_28]) (rest := []) hZ (cV_setNearest l D tys X LP f a0 h_a0 0 r23_25 0 v45_28) zyV_setNearest (z_good co_V_setNearest) nl_R_64 (zb in_V) (zb im_V_setNearest) (zb se_V_setNearest) q48_29 hq48_29 rfl rfl rfl (by decide) rfl rfl (Nat.le_of_ble_eq_true rfl) ⟨Nat.zero_le _, Nat.zero_le _⟩ dR_remainderOfSizes_48 (z_kv (fun w1 tys1 hp => ?_))
      obtain ⟨f48_29, rfl, rfl, p48_29⟩ := hp
      refine z_goto (pc := 51) hZ 109 dR_remainderOfSizes_51 (by decide) ?_
      exact z_retv (pc := 109) hZ dR_remainderOfSizes_109 rfl ⟨rfl, _, rfl, rfl, (by intro A B ha hb b0; first | exact rz_1 (b := 0) ha hb b0 ev1_1 ev5_2 ev8_3 c11_4 p15_23 p20_24 p23_25 (ng_0 ha ev29_26 c34_27) ev45_28 p48_29 | exact rz_1 (b := 1) ha hb b0 ev1_1 ev5_2 ev8_3 c11_4 p15_23 p20_24 p23_25 (ng_1 ha ev29_26 c34_27) ev45_28 p48_29 | exact rz_2 (b := 0) ha hb b0 ev1_1 ev5_2 ev8_3 c11_4 nokey_ nokey_ nokey_ nokey_ nokey_ nokey_ nokey_ nokey_ nokey_ (ng_0 ha nokey_ nokey_) nokey_ nokey_ | exact rz_2 (b := 1) ha hb b0 ev1_1 ev5_2 ev8_3 c11_4 nokey_ nokey_ nokey_ nokey_ nokey_ nokey_ nokey_ nokey_ nokey_ (ng_1 ha nokey_ nokey_) nokey_ nokey_ | exact rz_3 ha hb b0 ev1_1 ev5_2 ev8_3 c11_4 nokey_ nokey_ nokey_ nokey_ | exact rz_n hb b0 nokey_ nokey_ c11_4 nokey_ nokey_ nokey_ nokey_ nokey_ nokey_)⟩
    · refine z_iconst (pc := 37) hZ 1 dR_remainderOfSizes_37 (by decide) ?_
      refine z_goto (pc := 38) hZ 42 dR_remainderOfSizes_38 (by decide) ?_
      refine z_lload_n (pc := 42) hZ 0 dR_remainderOfSizes_42 rfl rfl ?_
      refine z_iconst (pc := 43) hZ 0 dR_remainderOfSizes_43 (by decide) ?_
      refine z_aload_n (pc := 44) hZ 3 dR_remainderOfSizes_44 rfl rfl ?_
      refine z_pg2N (pc := 45) hZ h_a1 uc_V nf_R_57 dR_remainderOfSizes_45 (fun v45_30 ev45_30 => ?_)
      obtain ⟨q48_31, hq48_31⟩ := zp_at (X := X) (f := f) h_a0
      refine z_callVN (pc := 48) (As := [.int 1, .long r23_25, .int 0, .int v45_30]) (rest := []) hZ (cV_setNearest l D tys X LP f a0 h_a0 1 r23_25 0 v45_30) zyV_setNearest (z_good co_V_setNearest) nl_R_64 (zb in_V) (zb im_V_setNearest) (zb se_V_setNearest) q48_31 hq48_31 rfl rfl rfl (by decide) rfl rfl (Nat.le_of_ble_eq_true rfl) ⟨Nat.zero_le _, Nat.zero_le _⟩ dR_remainderOfSizes_48 (z_kv (fun w1 tys1 hp => ?_))
      obtain ⟨f48_31, rfl, rfl, p48_31⟩ := hp
      refine z_goto (pc := 51) hZ 109 dR_remainderOfSizes_51 (by decide) ?_
      exact z_retv (pc := 109) hZ dR_remainderOfSizes_109 rfl ⟨rfl, _, rfl, rfl, (by intro A B ha hb b0; first | exact rz_1 (b := 0) ha hb b0 ev1_1 ev5_2 ev8_3 c11_4 p15_23 p20_24 p23_25 (ng_0 ha ev29_26 c34_27) ev45_30 p48_31 | exact rz_1 (b := 1) ha hb b0 ev1_1 ev5_2 ev8_3 c11_4 p15_23 p20_24 p23_25 (ng_1 ha ev29_26 c34_27) ev45_30 p48_31 | exact rz_2 (b := 0) ha hb b0 ev1_1 ev5_2 ev8_3 c11_4 nokey_ nokey_ nokey_ nokey_ nokey_ nokey_ nokey_ nokey_ nokey_ (ng_0 ha nokey_ nokey_) nokey_ nokey_ | exact rz_2 (b := 1) ha hb b0 ev1_1 ev5_2 ev8_3 c11_4 nokey_ nokey_ nokey_ nokey_ nokey_ nokey_ nokey_ nokey_ nokey_ (ng_1 ha nokey_ nokey_) nokey_ nokey_ | exact rz_3 ha hb b0 ev1_1 ev5_2 ev8_3 c11_4 nokey_ nokey_ nokey_ nokey_ | exact rz_n hb b0 nokey_ nokey_ c11_4 nokey_ nokey_ nokey_ nokey_ nokey_ nokey_)⟩
set_option maxHeartbeats 4000000 in
set_option maxRecDepth 100000 in
theorem cR_remainder (l : Launch) (D : va_G) (tys : zT) (X : va_W) (LP : List Nat) (f : Nat → V3) (a0 : Nat) (h_a0 : a0 ∈ LP) (a1 : Nat) (h_a1 : a1 ∈ LP) : zM l D vwCl zNF zNM yR_remainder wsR_remainder { frames := 4, cells := 0, slots := 0, locals := 107 } [.ref a0, .ref a1] (X ++ PL LP f) tys (qV (fun w' tys' => ∃ f' : Nat → V3, X ++ PL LP f' = w' ∧ tys = tys' ∧ (a0 ≠ a1 → ∀ a b, CA (f a0) a → CA (f a1) b → nW a → nW b → UPD f f' a0 (remR a b)))) := by
  refine z_met (cc := bR_remainder) (maxL := 2) (ret := none) (isI := false) (own := RR) (by decide +kernel) rfl rfl (fun h => by cases h) (Nat.le_of_ble_eq_true rfl) (fun Z hZ => ?_)
  show Z 0 0 tys 0 [(0, .ref a0), (1, .ref a1)] [] (X ++ PL LP f)
  refine z_aload_n (pc := 0) hZ 0 dR_remainder_0 rfl rfl ?_
  refine z_aload_n (pc := 1) hZ 1 dR_remainder_1 rfl rfl ?_
  refine z_callS (pc := 2) (As := [.ref a0, .ref a1]) (rest := []) hZ (cR_hasNoNumber l D tys X LP f a0 h_a0 a1 h_a1) zyR_hasNoNumber (z_goodS ml_R_17 st_R_hasNoNumber in_R co_R_hasNoNumber) rfl rfl (by decide) rfl rfl (Nat.le_of_ble_eq_true rfl) ⟨Nat.zero_le _, Nat.zero_le _⟩ dR_remainder_2 (z_ki (fun r2_1 w1 tys1 hp => ?_))
  obtain ⟨rfl, rfl, p2_1⟩ := hp
  refine z_if_ne (pc := 5) hZ 22 dR_remainder_5 (by decide) (fun c5_2 => ?_) (fun c5_2 => ?_)
  · refine z_aload_n (pc := 22) hZ 0 dR_remainder_22 rfl rfl ?_
    refine z_iconst (pc := 23) hZ 5 dR_remainder_23 (by decide) ?_
    obtain ⟨q24_3, hq24_3⟩ := zp_at (X := X) (f := f) h_a0
    refine z_callVN (pc := 24) (As := [.int 5]) (rest := []) hZ (cV_setSpecial l D tys X LP f a0 h_a0 5) zyV_setSpecial (z_good co_V_setSpecial) nl_R_21 (zb in_V) (zb im_V_setSpecial) (zb se_V_setSpecial) q24_3 hq24_3 rfl rfl rfl (by decide) rfl rfl (Nat.le_of_ble_eq_true rfl) ⟨Nat.zero_le _, Nat.zero_le _⟩ dR_remainder_24 (z_kv (fun w1 tys1 hp => ?_))
    obtain ⟨f24_3, rfl, rfl, p24_3⟩ := hp
    refine z_goto (pc := 27) hZ 88 dR_remainder_27 (by decide) ?_
    exact z_retv (pc := 88) hZ dR_remainder_88 rfl ⟨rfl, _, rfl, rfl, (by intro hne a b ha hb wa wb; first | exact sp5 p24_3 (rem_x (hnn_y ha hb p2_1 c5_2)) | exact sp5 p24_3 (rem_ia ha nokey_ nokey_) | exact sp5 p24_3 (rem_z wb (nokey_ _ hb) nokey_) | exact rem_i ha hb wa (hnn_n ha hb p2_1 c5_2).1 nokey_ nokey_ nokey_ nokey_ (nokey_ _ ha) (nokey_ _ hb) nokey_ (Or.inl ⟨nokey_, nokey_⟩) | exact rem_i ha hb wa (hnn_n ha hb p2_1 c5_2).1 nokey_ nokey_ nokey_ nokey_ (nokey_ _ ha) (nokey_ _ hb) nokey_ (Or.inr ⟨nokey_, rfl⟩) | exact rem_f hne ha hb wa wb (hnn_n ha hb p2_1 c5_2) nokey_ nokey_ nokey_ nokey_ (nokey_ _ hb) nokey_ nokey_ nokey_ (Or.inl ⟨nokey_, rfl⟩) | exact rem_f hne ha hb wa wb (hnn_n ha hb p2_1 c5_2) nokey_ nokey_ nokey_ nokey_ (nokey_ _ hb) nokey_ nokey_ nokey_ (Or.inr ⟨nokey_, _, _, nokey_, nokey_, Or.inl ⟨nokey_, rfl⟩⟩) | exact rem_f hne ha hb wa wb (hnn_n ha hb p2_1 c5_2) nokey_ nokey_ nokey_ nokey_ (nokey_ _ hb) nokey_ nokey_ nokey_ (Or.inr ⟨nokey_, _, _, nokey_, nokey_, Or.inr ⟨nokey_, nokey_⟩⟩))⟩
  · refine z_aload_n (pc := 8) hZ 0 dR_remainder_8 rfl rfl ?_
    obtain ⟨q9_4, hq9_4⟩ := zp_at (X := X) (f := f) h_a0
    refine z_callVN (pc := 9) (As := []) (rest := []) hZ (cV_isInfinite l D tys X LP f a0 h_a0) zyV_isInfinite (z_good co_V_isInfinite) nl_R_25 (zb in_V) (zb im_V_isInfinite) (zb se_V_isInfinite) q9_4 hq9_4 rfl rfl rfl (by decide) rfl rfl (Nat.le_of_ble_eq_true rfl) ⟨Nat.zero_le _, Nat.zero_le _⟩ dR_remainder_9 (z_ki (fun r9_4 w1 tys1 hp => ?_))
    obtain ⟨rfl, rfl, p9_4⟩ := hp
    refine z_if_ne (pc := 12) hZ 22 dR_remainder_12 (by decide) (fun c12_5 => ?_) (fun c12_5 => ?_)
    · refine z_aload_n (pc := 22) hZ 0 dR_remainder_22 rfl rfl ?_
      refine z_iconst (pc := 23) hZ 5 dR_remainder_23 (by decide) ?_
      obtain ⟨q24_6, hq24_6⟩ := zp_at (X := X) (f := f) h_a0
      refine z_callVN (pc := 24) (As := [.int 5]) (rest := []) hZ (cV_setSpecial l D tys X LP f a0 h_a0 5) zyV_setSpecial (z_good co_V_setSpecial) nl_R_21 (zb in_V) (zb im_V_setSpecial) (zb se_V_setSpecial) q24_6 hq24_6 rfl rfl rfl (by decide) rfl rfl (Nat.le_of_ble_eq_true rfl) ⟨Nat.zero_le _, Nat.zero_le _⟩ dR_remainder_24 (z_kv (fun w1 tys1 hp => ?_))
      obtain ⟨f24_6, rfl, rfl, p24_6⟩ := hp
      refine z_goto (pc := 27) hZ 88 dR_remainder_27 (by decide) ?_
      exact z_retv (pc := 88) hZ dR_remainder_88 rfl ⟨rfl, _, rfl, rfl, (by intro hne a b ha hb wa wb; first | exact sp5 p24_6 (rem_x (hnn_y ha hb p2_1 c5_2)) | exact sp5 p24_6 (rem_ia ha p9_4 c12_5) | exact sp5 p24_6 (rem_z wb (nokey_ _ hb) nokey_) | exact rem_i ha hb wa (hnn_n ha hb p2_1 c5_2).1 p9_4 c12_5 nokey_ nokey_ (nokey_ _ ha) (nokey_ _ hb) nokey_ (Or.inl ⟨nokey_, nokey_⟩) | exact rem_i ha hb wa (hnn_n ha hb p2_1 c5_2).1 p9_4 c12_5 nokey_ nokey_ (nokey_ _ ha) (nokey_ _ hb) nokey_ (Or.inr ⟨nokey_, rfl⟩) | exact rem_f hne ha hb wa wb (hnn_n ha hb p2_1 c5_2) p9_4 c12_5 nokey_ nokey_ (nokey_ _ hb) nokey_ nokey_ nokey_ (Or.inl ⟨nokey_, rfl⟩) | exact rem_f hne ha hb wa wb (hnn_n ha hb p2_1 c5_2) p9_4 c12_5 nokey_ nokey_ (nokey_ _ hb) nokey_ nokey_ nokey_ (Or.inr ⟨nokey_, _, _, nokey_, nokey_, Or.inl ⟨nokey_, rfl⟩⟩) | exact rem_f hne ha hb wa wb (hnn_n ha hb p2_1 c5_2) p9_4 c12_5 nokey_ nokey_ (nokey_ _ hb) nokey_ nokey_ nokey_ (Or.inr ⟨nokey_, _, _, nokey_, nokey_, Or.inr ⟨nokey_, nokey_⟩⟩))⟩
    · refine z_aload_n (pc := 15) hZ 1 dR_remainder_15 rfl rfl ?_
      obtain ⟨q16_7, hq16_7⟩ := zp_at (X := X) (f := f) h_a1
      refine z_callVN (pc := 16) (As := []) (rest := []) hZ (cV_sign l D tys X LP f a1 h_a1) zyV_sign (z_good co_V_sign) nl_R_60 (zb in_V) (zb im_V_sign) (zb se_V_sign) q16_7 hq16_7 rfl rfl rfl (by decide) rfl rfl (Nat.le_of_ble_eq_true rfl) ⟨Nat.zero_le _, Nat.zero_le _⟩ dR_remainder_16 (z_ki (fun r16_7 w1 tys1 hp => ?_))
      obtain ⟨rfl, rfl, p16_7⟩ := hp
      refine z_if_ne (pc := 19) hZ 30 dR_remainder_19 (by decide) (fun c19_8 => ?_) (fun c19_8 => ?_)
      · refine z_aload_n (pc := 30) hZ 1 dR_remainder_30 rfl rfl ?_
        obtain ⟨q31_9, hq31_9⟩ := zp_at (X := X) (f := f) h_a1
        refine z_callVN (pc := 31) (As := []) (rest := []) hZ (cV_isInfinite l D tys X LP f a1 h_a1) zyV_isInfinite (z_good co_V_isInfinite) nl_R_25 (zb in_V) (zb im_V_isInfinite) (zb se_V_isInfinite) q31_9 hq31_9 rfl rfl rfl (by decide) rfl rfl (Nat.le_of_ble_eq_true rfl) ⟨Nat.zero_le _, Nat.zero_le _⟩ dR_remainder_31 (z_ki (fun r31_9 w1 tys1 hp => ?_))
        obtain ⟨rfl, rfl, p31_9⟩ := hp
        refine z_if_eq (pc := 34) hZ 57 dR_remainder_34 (by decide) (fun c34_10 => ?_) (fun c34_10 => ?_)
        · refine z_aload_n (pc := 57) hZ 0 dR_remainder_57 rfl rfl ?_
          refine z_aload_n (pc := 58) hZ 1 dR_remainder_58 rfl rfl ?_
          refine z_callS (pc := 59) (As := [.ref a0, .ref a1]) (rest := []) hZ (cR_remainderOfSizes l D tys X LP f a0 h_a0 a1 h_a1) zyR_remainderOfSizes (z_goodS ml_R_96 st_R_remainderOfSizes in_R co_R_remainderOfSizes) rfl rfl (by decide) rfl rfl (Nat.le_of_ble_eq_true rfl) ⟨Nat.zero_le _, Nat.zero_le _⟩ dR_remainder_59 (z_kv (fun w1 tys1 hp => ?_))
          obtain ⟨f59_11, rfl, rfl, p59_11⟩ := hp
          refine z_aload_n (pc := 62) hZ 0 dR_remainder_62 rfl rfl ?_
          refine z_pg1N (pc := 63) hZ h_a0 uc_V nf_R_29 dR_remainder_63 (fun v63_12 ev63_12 => ?_)
          refine z_lconst (pc := 66) hZ 0 dR_remainder_66 (by decide) ?_
          refine z_lif_eq (pc := 67) hZ 88 dR_remainder_67 dR_remainder_68 (by decide) (fun c68_13 => ?_) (fun c68_13 => ?_)
          · exact z_retv (pc := 88) hZ dR_remainder_88 rfl ⟨rfl, _, rfl, rfl, (by intro hne a b ha hb wa wb; first | exact sp5 nokey_ (rem_x (hnn_y ha hb p2_1 c5_2)) | exact sp5 nokey_ (rem_ia ha p9_4 c12_5) | exact sp5 nokey_ (rem_z wb (p16_7 _ hb) c19_8) | exact rem_i ha hb wa (hnn_n ha hb p2_1 c5_2).1 p9_4 c12_5 p31_9 c34_10 (nokey_ _ ha) (nokey_ _ hb) nokey_ (Or.inl ⟨nokey_, nokey_⟩) | exact rem_i ha hb wa (hnn_n ha hb p2_1 c5_2).1 p9_4 c12_5 p31_9 c34_10 (nokey_ _ ha) (nokey_ _ hb) nokey_ (Or.inr ⟨nokey_, rfl⟩) | exact rem_f hne ha hb wa wb (hnn_n ha hb p2_1 c5_2) p9_4 c12_5 p31_9 c34_10 (p16_7 _ hb) c19_8 p59_11 ev63_12 (Or.inl ⟨c68_13, rfl⟩) | exact rem_f hne ha hb wa wb (hnn_n ha hb p2_1 c5_2) p9_4 c12_5 p31_9 c34_10 (p16_7 _ hb) c19_8 p59_11 ev63_12 (Or.inr ⟨c68_13, _, _, nokey_, nokey_, Or.inl ⟨nokey_, rfl⟩⟩) | exact rem_f hne ha hb wa wb (hnn_n ha hb p2_1 c5_2) p9_4 c12_5 p31_9 c34_10 (p16_7 _ hb) c19_8 p59_11 ev63_12 (Or.inr ⟨c68_13, _, _, nokey_, nokey_, Or.inr ⟨nokey_, nokey_⟩⟩))⟩
          · refine z_aload_n (pc := 71) hZ 0 dR_remainder_71 rfl rfl ?_
            obtain ⟨q72_14, hq72_14⟩ := zp_at (X := X) (f := f59_11) h_a0
            refine z_callVN (pc := 72) (As := []) (rest := []) hZ (cV_sign l D tys X LP f59_11 a0 h_a0) zyV_sign (z_good co_V_sign) nl_R_60 (zb in_V) (zb im_V_sign) (zb se_V_sign) q72_14 hq72_14 rfl rfl rfl (by decide) rfl rfl (Nat.le_of_ble_eq_true rfl) ⟨Nat.zero_le _, Nat.zero_le _⟩ dR_remainder_72 (z_ki (fun r72_14 w1 tys1 hp => ?_))
            obtain ⟨rfl, rfl, p72_14⟩ := hp
            refine z_aload_n (pc := 75) hZ 1 dR_remainder_75 rfl rfl ?_
            obtain ⟨q76_15, hq76_15⟩ := zp_at (X := X) (f := f59_11) h_a1
            refine z_callVN (pc := 76) (As := []) (rest := [.int r72_14]) hZ (cV_sign l D tys X LP f59_11 a1 h_a1) zyV_sign (z_good co_V_sign) nl_R_60 (zb in_V) (zb im_V_sign) (zb se_V_sign) q76_15 hq76_15 rfl rfl rfl (by decide) rfl rfl (Nat.le_of_ble_eq_true rfl) ⟨Nat.zero_le _, Nat.zero_le _⟩ dR_remainder_76 (z_ki (fun r76_15 w1 tys1 hp => ?_))
            obtain ⟨rfl, rfl, p76_15⟩ := hp
            refine z_icmp_eq (pc := 79) hZ 88 dR_remainder_79 (by decide) (fun c79_16 => ?_) (fun c79_16 => ?_)
            · exact z_retv (pc := 88) hZ dR_remainder_88 rfl ⟨rfl, _, rfl, rfl, (by intro hne a b ha hb wa wb; first | exact sp5 nokey_ (rem_x (hnn_y ha hb p2_1 c5_2)) | exact sp5 nokey_ (rem_ia ha p9_4 c12_5) | exact sp5 nokey_ (rem_z wb (p16_7 _ hb) c19_8) | exact rem_i ha hb wa (hnn_n ha hb p2_1 c5_2).1 p9_4 c12_5 p31_9 c34_10 (nokey_ _ ha) (nokey_ _ hb) nokey_ (Or.inl ⟨nokey_, nokey_⟩) | exact rem_i ha hb wa (hnn_n ha hb p2_1 c5_2).1 p9_4 c12_5 p31_9 c34_10 (nokey_ _ ha) (nokey_ _ hb) nokey_ (Or.inr ⟨nokey_, rfl⟩) | exact rem_f hne ha hb wa wb (hnn_n ha hb p2_1 c5_2) p9_4 c12_5 p31_9 c34_10 (p16_7 _ hb) c19_8 p59_11 ev63_12 (Or.inl ⟨c68_13, rfl⟩) | exact rem_f hne ha hb wa wb (hnn_n ha hb p2_1 c5_2) p9_4 c12_5 p31_9 c34_10 (p16_7 _ hb) c19_8 p59_11 ev63_12 (Or.inr ⟨c68_13, _, _, p72_14, p76_15, Or.inl ⟨c79_16, rfl⟩⟩) | exact rem_f hne ha hb wa wb (hnn_n ha hb p2_1 c5_2) p9_4 c12_5 p31_9 c34_10 (p16_7 _ hb) c19_8 p59_11 ev63_12 (Or.inr ⟨c68_13, _, _, p72_14, p76_15, Or.inr ⟨c79_16, nokey_⟩⟩))⟩
            · refine z_aload_n (pc := 82) hZ 0 dR_remainder_82 rfl rfl ?_
              refine z_aload_n (pc := 83) hZ 1 dR_remainder_83 rfl rfl ?_
              refine z_aload_n (pc := 84) hZ 0 dR_remainder_84 rfl rfl ?_
              refine z_callS (pc := 85) (As := [.ref a0, .ref a1, .ref a0]) (rest := []) hZ (cR_addSmaller l D tys X LP f59_11 a0 h_a0 a1 h_a1 a0 h_a0) zyR_addSmaller (z_goodS ml_R_43 st_R_addSmaller in_R co_R_addSmaller) rfl rfl (by decide) rfl rfl (Nat.le_of_ble_eq_true rfl) ⟨Nat.zero_le _, Nat.zero_le _⟩ dR_remainder_85 (z_kv (fun w1 tys1 hp => ?_))
              obtain ⟨f85_17, rfl, rfl, p85_17⟩ := hp
              exact z_retv (pc := 88) hZ dR_remainder_88 rfl ⟨rfl, _, rfl, rfl, (by intro hne a b ha hb wa wb; first | exact sp5 nokey_ (rem_x (hnn_y ha hb p2_1 c5_2)) | exact sp5 nokey_ (rem_ia ha p9_4 c12_5) | exact sp5 nokey_ (rem_z wb (p16_7 _ hb) c19_8) | exact rem_i ha hb wa (hnn_n ha hb p2_1 c5_2).1 p9_4 c12_5 p31_9 c34_10 (nokey_ _ ha) (nokey_ _ hb) nokey_ (Or.inl ⟨nokey_, nokey_⟩) | exact rem_i ha hb wa (hnn_n ha hb p2_1 c5_2).1 p9_4 c12_5 p31_9 c34_10 (nokey_ _ ha) (nokey_ _ hb) nokey_ (Or.inr ⟨nokey_, rfl⟩) | exact rem_f hne ha hb wa wb (hnn_n ha hb p2_1 c5_2) p9_4 c12_5 p31_9 c34_10 (p16_7 _ hb) c19_8 p59_11 ev63_12 (Or.inl ⟨c68_13, rfl⟩) | exact rem_f hne ha hb wa wb (hnn_n ha hb p2_1 c5_2) p9_4 c12_5 p31_9 c34_10 (p16_7 _ hb) c19_8 p59_11 ev63_12 (Or.inr ⟨c68_13, _, _, p72_14, p76_15, Or.inl ⟨c79_16, rfl⟩⟩) | exact rem_f hne ha hb wa wb (hnn_n ha hb p2_1 c5_2) p9_4 c12_5 p31_9 c34_10 (p16_7 _ hb) c19_8 p59_11 ev63_12 (Or.inr ⟨c68_13, _, _, p72_14, p76_15, Or.inr ⟨c79_16, p85_17⟩⟩))⟩
        · refine z_aload_n (pc := 37) hZ 0 dR_remainder_37 rfl rfl ?_
          obtain ⟨q38_18, hq38_18⟩ := zp_at (X := X) (f := f) h_a0
          refine z_callVN (pc := 38) (As := []) (rest := []) hZ (cV_sign l D tys X LP f a0 h_a0) zyV_sign (z_good co_V_sign) nl_R_60 (zb in_V) (zb im_V_sign) (zb se_V_sign) q38_18 hq38_18 rfl rfl rfl (by decide) rfl rfl (Nat.le_of_ble_eq_true rfl) ⟨Nat.zero_le _, Nat.zero_le _⟩ dR_remainder_38 (z_ki (fun r38_18 w1 tys1 hp => ?_))
          obtain ⟨rfl, rfl, p38_18⟩ := hp
          refine z_aload_n (pc := 41) hZ 1 dR_remainder_41 rfl rfl ?_
          obtain ⟨q42_19, hq42_19⟩ := zp_at (X := X) (f := f) h_a1
          refine z_callVN (pc := 42) (As := []) (rest := [.int r38_18]) hZ (cV_sign l D tys X LP f a1 h_a1) zyV_sign (z_good co_V_sign) nl_R_60 (zb in_V) (zb im_V_sign) (zb se_V_sign) q42_19 hq42_19 rfl rfl rfl (by decide) rfl rfl (Nat.le_of_ble_eq_true rfl) ⟨Nat.zero_le _, Nat.zero_le _⟩ dR_remainder_42 (z_ki (fun r42_19 w1 tys1 hp => ?_))
          obtain ⟨rfl, rfl, p42_19⟩ := hp
          refine z_ineg (pc := 45) hZ dR_remainder_45 (fun v45_20 ev45_20 => ?_)
          refine z_icmp_ne (pc := 46) hZ 88 dR_remainder_46 (by decide) (fun c46_21 => ?_) (fun c46_21 => ?_)
          · exact z_retv (pc := 88) hZ dR_remainder_88 rfl ⟨rfl, _, rfl, rfl, (by intro hne a b ha hb wa wb; first | exact sp5 nokey_ (rem_x (hnn_y ha hb p2_1 c5_2)) | exact sp5 nokey_ (rem_ia ha p9_4 c12_5) | exact sp5 nokey_ (rem_z wb (p16_7 _ hb) c19_8) | exact rem_i ha hb wa (hnn_n ha hb p2_1 c5_2).1 p9_4 c12_5 p31_9 c34_10 (p38_18 _ ha) (p42_19 _ hb) ev45_20 (Or.inl ⟨c46_21, nokey_⟩) | exact rem_i ha hb wa (hnn_n ha hb p2_1 c5_2).1 p9_4 c12_5 p31_9 c34_10 (p38_18 _ ha) (p42_19 _ hb) ev45_20 (Or.inr ⟨c46_21, rfl⟩) | exact rem_f hne ha hb wa wb (hnn_n ha hb p2_1 c5_2) p9_4 c12_5 p31_9 c34_10 (p16_7 _ hb) c19_8 nokey_ nokey_ (Or.inl ⟨nokey_, rfl⟩) | exact rem_f hne ha hb wa wb (hnn_n ha hb p2_1 c5_2) p9_4 c12_5 p31_9 c34_10 (p16_7 _ hb) c19_8 nokey_ nokey_ (Or.inr ⟨nokey_, _, _, nokey_, nokey_, Or.inl ⟨nokey_, rfl⟩⟩) | exact rem_f hne ha hb wa wb (hnn_n ha hb p2_1 c5_2) p9_4 c12_5 p31_9 c34_10 (p16_7 _ hb) c19_8 nokey_ nokey_ (Or.inr ⟨nokey_, _, _, nokey_, nokey_, Or.inr ⟨nokey_, nokey_⟩⟩))⟩
          · refine z_aload_n (pc := 49) hZ 0 dR_remainder_49 rfl rfl ?_
            refine z_aload_n (pc := 50) hZ 1 dR_remainder_50 rfl rfl ?_
            obtain ⟨q51_22, hq51_22⟩ := zp_at (X := X) (f := f) h_a0
            refine z_callVN (pc := 51) (As := [.ref a1]) (rest := []) hZ (cV_become l D tys X LP f a0 h_a0 a1 h_a1) zyV_become (z_good co_V_become) nl_R_33 (zb in_V) (zb im_V_become) (zb se_V_become) q51_22 hq51_22 rfl rfl rfl (by decide) rfl rfl (Nat.le_of_ble_eq_true rfl) ⟨Nat.zero_le _, Nat.zero_le _⟩ dR_remainder_51 (z_kv (fun w1 tys1 hp => ?_))
            obtain ⟨f51_22, rfl, rfl, p51_22⟩ := hp
            refine z_goto (pc := 54) hZ 88 dR_remainder_54 (by decide) ?_
            exact z_retv (pc := 88) hZ dR_remainder_88 rfl ⟨rfl, _, rfl, rfl, (by intro hne a b ha hb wa wb; first | exact sp5 nokey_ (rem_x (hnn_y ha hb p2_1 c5_2)) | exact sp5 nokey_ (rem_ia ha p9_4 c12_5) | exact sp5 nokey_ (rem_z wb (p16_7 _ hb) c19_8) | exact rem_i ha hb wa (hnn_n ha hb p2_1 c5_2).1 p9_4 c12_5 p31_9 c34_10 (p38_18 _ ha) (p42_19 _ hb) ev45_20 (Or.inl ⟨c46_21, p51_22⟩) | exact rem_i ha hb wa (hnn_n ha hb p2_1 c5_2).1 p9_4 c12_5 p31_9 c34_10 (p38_18 _ ha) (p42_19 _ hb) ev45_20 (Or.inr ⟨c46_21, rfl⟩) | exact rem_f hne ha hb wa wb (hnn_n ha hb p2_1 c5_2) p9_4 c12_5 p31_9 c34_10 (p16_7 _ hb) c19_8 nokey_ nokey_ (Or.inl ⟨nokey_, rfl⟩) | exact rem_f hne ha hb wa wb (hnn_n ha hb p2_1 c5_2) p9_4 c12_5 p31_9 c34_10 (p16_7 _ hb) c19_8 nokey_ nokey_ (Or.inr ⟨nokey_, _, _, nokey_, nokey_, Or.inl ⟨nokey_, rfl⟩⟩) | exact rem_f hne ha hb wa wb (hnn_n ha hb p2_1 c5_2) p9_4 c12_5 p31_9 c34_10 (p16_7 _ hb) c19_8 nokey_ nokey_ (Or.inr ⟨nokey_, _, _, nokey_, nokey_, Or.inr ⟨nokey_, nokey_⟩⟩))⟩
      · refine z_aload_n (pc := 22) hZ 0 dR_remainder_22 rfl rfl ?_
        refine z_iconst (pc := 23) hZ 5 dR_remainder_23 (by decide) ?_
        obtain ⟨q24_23, hq24_23⟩ := zp_at (X := X) (f := f) h_a0
        refine z_callVN (pc := 24) (As := [.int 5]) (rest := []) hZ (cV_setSpecial l D tys X LP f a0 h_a0 5) zyV_setSpecial (z_good co_V_setSpecial) nl_R_21 (zb in_V) (zb im_V_setSpecial) (zb se_V_setSpecial) q24_23 hq24_23 rfl rfl rfl (by decide) rfl rfl (Nat.le_of_ble_eq_true rfl) ⟨Nat.zero_le _, Nat.zero_le _⟩ dR_remainder_24 (z_kv (fun w1 tys1 hp => ?_))
        obtain ⟨f24_23, rfl, rfl, p24_23⟩ := hp
        refine z_goto (pc := 27) hZ 88 dR_remainder_27 (by decide) ?_
        exact z_retv (pc := 88) hZ dR_remainder_88 rfl ⟨rfl, _, rfl, rfl, (by intro hne a b ha hb wa wb; first | exact sp5 p24_23 (rem_x (hnn_y ha hb p2_1 c5_2)) | exact sp5 p24_23 (rem_ia ha p9_4 c12_5) | exact sp5 p24_23 (rem_z wb (p16_7 _ hb) c19_8) | exact rem_i ha hb wa (hnn_n ha hb p2_1 c5_2).1 p9_4 c12_5 nokey_ nokey_ (nokey_ _ ha) (nokey_ _ hb) nokey_ (Or.inl ⟨nokey_, nokey_⟩) | exact rem_i ha hb wa (hnn_n ha hb p2_1 c5_2).1 p9_4 c12_5 nokey_ nokey_ (nokey_ _ ha) (nokey_ _ hb) nokey_ (Or.inr ⟨nokey_, rfl⟩) | exact rem_f hne ha hb wa wb (hnn_n ha hb p2_1 c5_2) p9_4 c12_5 nokey_ nokey_ (p16_7 _ hb) c19_8 nokey_ nokey_ (Or.inl ⟨nokey_, rfl⟩) | exact rem_f hne ha hb wa wb (hnn_n ha hb p2_1 c5_2) p9_4 c12_5 nokey_ nokey_ (p16_7 _ hb) c19_8 nokey_ nokey_ (Or.inr ⟨nokey_, _, _, nokey_, nokey_, Or.inl ⟨nokey_, rfl⟩⟩) | exact rem_f hne ha hb wa wb (hnn_n ha hb p2_1 c5_2) p9_4 c12_5 nokey_ nokey_ (p16_7 _ hb) c19_8 nokey_ nokey_ (Or.inr ⟨nokey_, _, _, nokey_, nokey_, Or.inr ⟨nokey_, nokey_⟩⟩))⟩
