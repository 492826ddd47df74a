set_option maxHeartbeats 4000000 in
set_option maxRecDepth 100000 in
theorem cJI_compare (l : Launch) (D : va_G) (tys : zT) (w : va_W) (p0 : Int32) (p1 : Int32) : zM l D vwCl zNF zNM yJI_compare wsJI_compare { frames := 0, cells := 0, slots := 0, locals := 0 } [.int p0, .int p1] (w) tys (qI (fun r w' tys' => w = w' ∧ tys = tys' ∧ (CMPI p0 p1 r))) := by
  refine z_met (cc := bJI_compare) (maxL := 2) (ret := (some .int)) (isI := false) (own := RJI) (by decide +kernel) rfl rfl (fun h => by cases h) (Nat.le_of_ble_eq_true rfl) (fun Z hZ => ?_)
  show Z 0 0 tys 0 [(0, .int p0), (1, .int p1)] [] (w)
  refine z_iload_n (pc := 0) hZ 0 dJI_compare_0 rfl rfl ?_
  refine z_iload_n (pc := 1) hZ 1 dJI_compare_1 rfl rfl ?_
  refine z_icmp_ge (pc := 2) hZ 9 dJI_compare_2 (by decide) (fun c2_1 => ?_) (fun c2_1 => ?_)
  · refine z_iload_n (pc := 9) hZ 0 dJI_compare_9 rfl rfl ?_
    refine z_iload_n (pc := 10) hZ 1 dJI_compare_10 rfl rfl ?_
    refine z_icmp_ne (pc := 11) hZ 18 dJI_compare_11 (by decide) (fun c11_2 => ?_) (fun c11_2 => ?_)
    · refine z_iconst (pc := 18) hZ 1 dJI_compare_18 (by decide) ?_
      exact z_reti (pc := 19) hZ dJI_compare_19 .int rfl rfl ⟨_, rfl, rfl, rfl, (by first | exact ci_lt c2_1 | exact ci_eq c11_2 | exact ci_gt c2_1 c11_2)⟩
    · refine z_iconst (pc := 14) hZ 0 dJI_compare_14 (by decide) ?_
      refine z_goto (pc := 15) hZ 19 dJI_compare_15 (by decide) ?_
      exact z_reti (pc := 19) hZ dJI_compare_19 .int rfl rfl ⟨_, rfl, rfl, rfl, (by first | exact ci_lt c2_1 | exact ci_eq c11_2 | exact ci_gt c2_1 c11_2)⟩
  · refine z_iconst (pc := 5) hZ (-1) dJI_compare_5 (by decide) ?_
    refine z_goto (pc := 6) hZ 19 dJI_compare_6 (by decide) ?_
    exact z_reti (pc := 19) hZ dJI_compare_19 .int rfl rfl ⟨_, rfl, rfl, rfl, (by first | exact ci_lt c2_1 | exact ci_eq nokey_ | exact ci_gt c2_1 nokey_)⟩
set_option maxHeartbeats 4000000 in
set_option maxRecDepth 100000 in
theorem cJI_numberOfLeadingZeros (l : Launch) (D : va_G) (tys : zT) (w : va_W) (p0 : Int32) : zM l D vwCl zNF zNM yJI_numberOfLeadingZeros wsJI_numberOfLeadingZeros { frames := 0, cells := 0, slots := 0, locals := 0 } [.int p0] (w) tys (qI (fun r w' tys' => w = w' ∧ tys = tys' ∧ (r.toInt = 32 - (BL (ui p0) : Int)))) := by
  refine z_met (cc := bJI_numberOfLeadingZeros) (maxL := 2) (ret := (some .int)) (isI := false) (own := RJI) (by decide +kernel) rfl rfl (fun h => by cases h) (Nat.le_of_ble_eq_true rfl) (fun Z hZ => ?_)
  show Z 0 0 tys 0 [(0, .int p0)] [] (w)
  refine z_iload_n (pc := 0) hZ 0 dJI_numberOfLeadingZeros_0 rfl rfl ?_
  refine z_if_gt (pc := 1) hZ 15 dJI_numberOfLeadingZeros_1 (by decide) (fun c1_1 => ?_) (fun c1_1 => ?_)
  · refine z_bipush (pc := 15) hZ 31 dJI_numberOfLeadingZeros_15 (by decide) ?_
    refine z_istore_n (pc := 17) hZ [(1, .int 31), (0, .int p0)] dJI_numberOfLeadingZeros_17 rfl (by decide) rfl ?_
    refine z_iload_n (pc := 18) hZ 1 dJI_numberOfLeadingZeros_18 rfl rfl ?_
    refine z_ldcw (pc := 19) hZ 65536 (zb kc_JI_264) dJI_numberOfLeadingZeros_19 ?_
    have J33 : ∀ (x1_33 : Int32) (x0_33 : Int32), (NZ p0 16 x1_33 x0_33) → Z 0 0 tys 33 [(1, .int x1_33), (0, .int x0_33)] [] (w) := by
      intro x1_33 x0_33 j33
      refine z_iload_n (pc := 33) hZ 1 dJI_numberOfLeadingZeros_33 rfl rfl ?_
      refine z_sipush (pc := 34) hZ 256 dJI_numberOfLeadingZeros_34 (by decide) ?_
      have J48 : ∀ (x1_48 : Int32) (x0_48 : Int32), (NZ p0 8 x1_48 x0_48) → Z 0 0 tys 48 [(1, .int x1_48), (0, .int x0_48)] [] (w) := by
        intro x1_48 x0_48 j48
        refine z_iload_n (pc := 48) hZ 1 dJI_numberOfLeadingZeros_48 rfl rfl ?_
        refine z_bipush (pc := 49) hZ 16 dJI_numberOfLeadingZeros_49 (by decide) ?_
        have J61 : ∀ (x1_61 : Int32) (x0_61 : Int32), (NZ p0 4 x1_61 x0_61) → Z 0 0 tys 61 [(1, .int x1_61), (0, .int x0_61)] [] (w) := by
          intro x1_61 x0_61 j61
          refine z_iload_n (pc := 61) hZ 1 dJI_numberOfLeadingZeros_61 rfl rfl ?_
          refine z_iconst (pc := 62) hZ 4 dJI_numberOfLeadingZeros_62 (by decide) ?_
          have J73 : ∀ (x1_73 : Int32) (x0_73 : Int32), (NZ p0 2 x1_73 x0_73) → Z 0 0 tys 73 [(1, .int x1_73), (0, .int x0_73)] [] (w) := by
            intro x1_73 x0_73 j73
            refine z_iload_n (pc := 73) hZ 0 dJI_numberOfLeadingZeros_73 rfl rfl ?_
            refine z_iload_n (pc := 74) hZ 1 dJI_numberOfLeadingZeros_74 rfl rfl ?_
            refine z_iconst (pc := 75) hZ 1 dJI_numberOfLeadingZeros_75 (by decide) ?_
            refine z_iushr (pc := 76) hZ dJI_numberOfLeadingZeros_76 (fun v76_2 ev76_2 => ?_)
            refine z_isub (pc := 77) hZ dJI_numberOfLeadingZeros_77 (fun v77_3 ev77_3 => ?_)
            exact z_reti (pc := 78) hZ dJI_numberOfLeadingZeros_78 .int rfl rfl ⟨_, rfl, rfl, rfl, (by exact nz_e j73 ev76_2 ev77_3)⟩
          refine z_icmp_lt (pc := 63) hZ 73 dJI_numberOfLeadingZeros_63 (by decide) (fun c63_4 => ?_) (fun c63_4 => ?_)
          · exact z_sub (pc := 73) hZ [0, 1] rfl (J73 x1_61 x0_61 (by first | exact nz_a (K := 2) (nz_w j61 (by decide)) (by decide) c63_4 | exact nz_b (K := 2) (nz_w j61 (by decide)) j61.2.1 (by decide) (by decide) (by decide) c63_4 nokey_ nokey_ (by decide)))
          · refine z_iinc (pc := 66) hZ 0 (fun v9 => [(1, .int v9), (0, .int x0_61)]) dJI_numberOfLeadingZeros_66 rfl (by decide) (fun _ => rfl) (fun v66_5 ev66_5 => ?_)
            refine z_iload_n (pc := 69) hZ 1 dJI_numberOfLeadingZeros_69 rfl rfl ?_
            refine z_iconst (pc := 70) hZ 2 dJI_numberOfLeadingZeros_70 (by decide) ?_
            refine z_iushr (pc := 71) hZ dJI_numberOfLeadingZeros_71 (fun v71_6 ev71_6 => ?_)
            refine z_istore_n (pc := 72) hZ [(0, .int v71_6), (1, .int v66_5)] dJI_numberOfLeadingZeros_72 rfl (by decide) rfl ?_
            exact z_sub (pc := 73) hZ [1, 0] rfl (J73 v66_5 v71_6 (by first | exact nz_a (K := 2) (nz_w j61 (by decide)) (by decide) c63_4 | exact nz_b (K := 2) (nz_w j61 (by decide)) j61.2.1 (by decide) (by decide) (by decide) c63_4 ev66_5 ev71_6 (by decide)))
        refine z_icmp_lt (pc := 51) hZ 61 dJI_numberOfLeadingZeros_51 (by decide) (fun c51_7 => ?_) (fun c51_7 => ?_)
        · exact z_sub (pc := 61) hZ [0, 1] rfl (J61 x1_48 x0_48 (by first | exact nz_a (K := 4) (nz_w j48 (by decide)) (by decide) c51_7 | exact nz_b (K := 4) (nz_w j48 (by decide)) j48.2.1 (by decide) (by decide) (by decide) c51_7 nokey_ nokey_ (by decide)))
        · refine z_iinc (pc := 54) hZ 0 (fun v9 => [(1, .int v9), (0, .int x0_48)]) dJI_numberOfLeadingZeros_54 rfl (by decide) (fun _ => rfl) (fun v54_8 ev54_8 => ?_)
          refine z_iload_n (pc := 57) hZ 1 dJI_numberOfLeadingZeros_57 rfl rfl ?_
          refine z_iconst (pc := 58) hZ 4 dJI_numberOfLeadingZeros_58 (by decide) ?_
          refine z_iushr (pc := 59) hZ dJI_numberOfLeadingZeros_59 (fun v59_9 ev59_9 => ?_)
          refine z_istore_n (pc := 60) hZ [(0, .int v59_9), (1, .int v54_8)] dJI_numberOfLeadingZeros_60 rfl (by decide) rfl ?_
          exact z_sub (pc := 61) hZ [1, 0] rfl (J61 v54_8 v59_9 (by first | exact nz_a (K := 4) (nz_w j48 (by decide)) (by decide) c51_7 | exact nz_b (K := 4) (nz_w j48 (by decide)) j48.2.1 (by decide) (by decide) (by decide) c51_7 ev54_8 ev59_9 (by decide)))
      refine z_icmp_lt (pc := 37) hZ 48 dJI_numberOfLeadingZeros_37 (by decide) (fun c37_10 => ?_) (fun c37_10 => ?_)
      · exact z_sub (pc := 48) hZ [0, 1] rfl (J48 x1_33 x0_33 (by first | exact nz_a (K := 8) (nz_w j33 (by decide)) (by decide) c37_10 | exact nz_b (K := 8) (nz_w j33 (by decide)) j33.2.1 (by decide) (by decide) (by decide) c37_10 nokey_ nokey_ (by decide)))
      · refine z_iinc (pc := 40) hZ 0 (fun v9 => [(1, .int v9), (0, .int x0_33)]) dJI_numberOfLeadingZeros_40 rfl (by decide) (fun _ => rfl) (fun v40_11 ev40_11 => ?_)
        refine z_iload_n (pc := 43) hZ 1 dJI_numberOfLeadingZeros_43 rfl rfl ?_
        refine z_bipush (pc := 44) hZ 8 dJI_numberOfLeadingZeros_44 (by decide) ?_
        refine z_iushr (pc := 46) hZ dJI_numberOfLeadingZeros_46 (fun v46_12 ev46_12 => ?_)
        refine z_istore_n (pc := 47) hZ [(0, .int v46_12), (1, .int v40_11)] dJI_numberOfLeadingZeros_47 rfl (by decide) rfl ?_
        exact z_sub (pc := 48) hZ [1, 0] rfl (J48 v40_11 v46_12 (by first | exact nz_a (K := 8) (nz_w j33 (by decide)) (by decide) c37_10 | exact nz_b (K := 8) (nz_w j33 (by decide)) j33.2.1 (by decide) (by decide) (by decide) c37_10 ev40_11 ev46_12 (by decide)))
    refine z_icmp_lt (pc := 22) hZ 33 dJI_numberOfLeadingZeros_22 (by decide) (fun c22_13 => ?_) (fun c22_13 => ?_)
    · exact z_sub (pc := 33) hZ [0, 1] rfl (J33 31 p0 (by first | exact nz_a (K := 16) (nz_s c1_1) (by decide) c22_13 | exact nz_b (K := 16) (nz_s c1_1) (by exact ui_lt p0) (by decide) (by decide) (by decide) c22_13 nokey_ nokey_ (by decide)))
    · refine z_iinc (pc := 25) hZ 0 (fun v9 => [(1, .int v9), (0, .int p0)]) dJI_numberOfLeadingZeros_25 rfl (by decide) (fun _ => rfl) (fun v25_14 ev25_14 => ?_)
      refine z_iload_n (pc := 28) hZ 1 dJI_numberOfLeadingZeros_28 rfl rfl ?_
      refine z_bipush (pc := 29) hZ 16 dJI_numberOfLeadingZeros_29 (by decide) ?_
      refine z_iushr (pc := 31) hZ dJI_numberOfLeadingZeros_31 (fun v31_15 ev31_15 => ?_)
      refine z_istore_n (pc := 32) hZ [(0, .int v31_15), (1, .int v25_14)] dJI_numberOfLeadingZeros_32 rfl (by decide) rfl ?_
      exact z_sub (pc := 33) hZ [1, 0] rfl (J33 v25_14 v31_15 (by first | exact nz_a (K := 16) (nz_s c1_1) (by decide) c22_13 | exact nz_b (K := 16) (nz_s c1_1) (by exact ui_lt p0) (by decide) (by decide) (by decide) c22_13 ev25_14 ev31_15 (by decide)))
  · refine z_iload_n (pc := 4) hZ 0 dJI_numberOfLeadingZeros_4 rfl rfl ?_
    refine z_if_ne (pc := 5) hZ 13 dJI_numberOfLeadingZeros_5 (by decide) (fun c5_16 => ?_) (fun c5_16 => ?_)
    · refine z_iconst (pc := 13) hZ 0 dJI_numberOfLeadingZeros_13 (by decide) ?_
      exact z_reti (pc := 14) hZ dJI_numberOfLeadingZeros_14 .int rfl rfl ⟨_, rfl, rfl, rfl, (by first | exact nz_32 c5_16 | exact nz_n c1_1 c5_16)⟩
    · refine z_bipush (pc := 8) hZ 32 dJI_numberOfLeadingZeros_8 (by decide) ?_
      refine z_goto (pc := 10) hZ 14 dJI_numberOfLeadingZeros_10 (by decide) ?_
      exact z_reti (pc := 14) hZ dJI_numberOfLeadingZeros_14 .int rfl rfl ⟨_, rfl, rfl, rfl, (by first | exact nz_32 c5_16 | exact nz_n c1_1 c5_16)⟩
set_option maxHeartbeats 4000000 in
set_option maxRecDepth 100000 in
theorem cJI_numberOfTrailingZeros (l : Launch) (D : va_G) (tys : zT) (w : va_W) (p0 : Int32) : zM l D vwCl zNF zNM yJI_numberOfTrailingZeros wsJI_numberOfTrailingZeros { frames := 0, cells := 0, slots := 0, locals := 0 } [.int p0] (w) tys (qI (fun r w' tys' => w = w' ∧ tys = tys' ∧ (¬ p0 = 0 → TZ p0 r))) := by
  refine z_met (cc := bJI_numberOfTrailingZeros) (maxL := 2) (ret := (some .int)) (isI := false) (own := RJI) (by decide +kernel) rfl rfl (fun h => by cases h) (Nat.le_of_ble_eq_true rfl) (fun Z hZ => ?_)
  show Z 0 0 tys 0 [(0, .int p0)] [] (w)
  refine z_iload_n (pc := 0) hZ 0 dJI_numberOfTrailingZeros_0 rfl rfl ?_
  refine z_iconst (pc := 1) hZ (-1) dJI_numberOfTrailingZeros_1 (by decide) ?_
  refine z_ixor (pc := 2) hZ dJI_numberOfTrailingZeros_2 (fun v2_1 ev2_1 => ?_)
  refine z_iload_n (pc := 3) hZ 0 dJI_numberOfTrailingZeros_3 rfl rfl ?_
  refine z_iconst (pc := 4) hZ 1 dJI_numberOfTrailingZeros_4 (by decide) ?_
  refine z_isub (pc := 5) hZ dJI_numberOfTrailingZeros_5 (fun v5_2 ev5_2 => ?_)
  refine z_iand (pc := 6) hZ dJI_numberOfTrailingZeros_6 (fun v6_3 ev6_3 => ?_)
  refine z_istore_n (pc := 7) hZ [(0, .int v6_3)] dJI_numberOfTrailingZeros_7 rfl (by decide) rfl ?_
  refine z_iload_n (pc := 8) hZ 0 dJI_numberOfTrailingZeros_8 rfl rfl ?_
  refine z_if_gt (pc := 9) hZ 17 dJI_numberOfTrailingZeros_9 (by decide) (fun c9_4 => ?_) (fun c9_4 => ?_)
  · refine z_iconst (pc := 17) hZ 1 dJI_numberOfTrailingZeros_17 (by decide) ?_
    refine z_istore_n (pc := 18) hZ [(1, .int 1), (0, .int v6_3)] dJI_numberOfTrailingZeros_18 rfl (by decide) rfl ?_
    refine z_iload_n (pc := 19) hZ 1 dJI_numberOfTrailingZeros_19 rfl rfl ?_
    refine z_ldcw (pc := 20) hZ 65536 (zb kc_JI_264) dJI_numberOfTrailingZeros_20 ?_
    have J34 : ∀ (x1_34 : Int32) (x0_34 : Int32), (TI p0 16 x1_34 x0_34) → Z 0 0 tys 34 [(1, .int x1_34), (0, .int x0_34)] [] (w) := by
      intro x1_34 x0_34 j34
      refine z_iload_n (pc := 34) hZ 1 dJI_numberOfTrailingZeros_34 rfl rfl ?_
      refine z_sipush (pc := 35) hZ 256 dJI_numberOfTrailingZeros_35 (by decide) ?_
      have J49 : ∀ (x1_49 : Int32) (x0_49 : Int32), (TI p0 8 x1_49 x0_49) → Z 0 0 tys 49 [(1, .int x1_49), (0, .int x0_49)] [] (w) := by
        intro x1_49 x0_49 j49
        refine z_iload_n (pc := 49) hZ 1 dJI_numberOfTrailingZeros_49 rfl rfl ?_
        refine z_bipush (pc := 50) hZ 16 dJI_numberOfTrailingZeros_50 (by decide) ?_
        have J62 : ∀ (x1_62 : Int32) (x0_62 : Int32), (TI p0 4 x1_62 x0_62) → Z 0 0 tys 62 [(1, .int x1_62), (0, .int x0_62)] [] (w) := by
          intro x1_62 x0_62 j62
          refine z_iload_n (pc := 62) hZ 1 dJI_numberOfTrailingZeros_62 rfl rfl ?_
          refine z_iconst (pc := 63) hZ 4 dJI_numberOfTrailingZeros_63 (by decide) ?_
          have J74 : ∀ (x1_74 : Int32) (x0_74 : Int32), (TI p0 2 x1_74 x0_74) → Z 0 0 tys 74 [(1, .int x1_74), (0, .int x0_74)] [] (w) := by
            intro x1_74 x0_74 j74
            refine z_iload_n (pc := 74) hZ 0 dJI_numberOfTrailingZeros_74 rfl rfl ?_
            refine z_iload_n (pc := 75) hZ 1 dJI_numberOfTrailingZeros_75 rfl rfl ?_
            refine z_iconst (pc := 76) hZ 1 dJI_numberOfTrailingZeros_76 (by decide) ?_
            refine z_iushr (pc := 77) hZ dJI_numberOfTrailingZeros_77 (fun v77_5 ev77_5 => ?_)
            refine z_iadd (pc := 78) hZ dJI_numberOfTrailingZeros_78 (fun v78_6 ev78_6 => ?_)
            exact z_reti (pc := 79) hZ dJI_numberOfTrailingZeros_79 .int rfl rfl ⟨_, rfl, rfl, rfl, (by exact fun _ => tz_e j74 ev77_5 ev78_6)⟩
          refine z_icmp_le (pc := 64) hZ 74 dJI_numberOfTrailingZeros_64 (by decide) (fun c64_7 => ?_) (fun c64_7 => ?_)
          · exact z_sub (pc := 74) hZ [0, 1] rfl (J74 x1_62 x0_62 (by first | exact ti_a (K := 2) j62 (by decide) (by decide) (by decide) c64_7 | exact ti_b (K := 2) j62 (by decide) (by decide) (by decide) (by decide) (by decide) (by decide) c64_7 nokey_ nokey_ (by decide)))
          · refine z_iinc (pc := 67) hZ 0 (fun v9 => [(1, .int v9), (0, .int x0_62)]) dJI_numberOfTrailingZeros_67 rfl (by decide) (fun _ => rfl) (fun v67_8 ev67_8 => ?_)
            refine z_iload_n (pc := 70) hZ 1 dJI_numberOfTrailingZeros_70 rfl rfl ?_
            refine z_iconst (pc := 71) hZ 2 dJI_numberOfTrailingZeros_71 (by decide) ?_
            refine z_iushr (pc := 72) hZ dJI_numberOfTrailingZeros_72 (fun v72_9 ev72_9 => ?_)
            refine z_istore_n (pc := 73) hZ [(0, .int v72_9), (1, .int v67_8)] dJI_numberOfTrailingZeros_73 rfl (by decide) rfl ?_
            exact z_sub (pc := 74) hZ [1, 0] rfl (J74 v67_8 v72_9 (by first | exact ti_a (K := 2) j62 (by decide) (by decide) (by decide) c64_7 | exact ti_b (K := 2) j62 (by decide) (by decide) (by decide) (by decide) (by decide) (by decide) c64_7 ev67_8 ev72_9 (by decide)))
        refine z_icmp_le (pc := 52) hZ 62 dJI_numberOfTrailingZeros_52 (by decide) (fun c52_10 => ?_) (fun c52_10 => ?_)
        · exact z_sub (pc := 62) hZ [0, 1] rfl (J62 x1_49 x0_49 (by first | exact ti_a (K := 4) j49 (by decide) (by decide) (by decide) c52_10 | exact ti_b (K := 4) j49 (by decide) (by decide) (by decide) (by decide) (by decide) (by decide) c52_10 nokey_ nokey_ (by decide)))
        · refine z_iinc (pc := 55) hZ 0 (fun v9 => [(1, .int v9), (0, .int x0_49)]) dJI_numberOfTrailingZeros_55 rfl (by decide) (fun _ => rfl) (fun v55_11 ev55_11 => ?_)
          refine z_iload_n (pc := 58) hZ 1 dJI_numberOfTrailingZeros_58 rfl rfl ?_
          refine z_iconst (pc := 59) hZ 4 dJI_numberOfTrailingZeros_59 (by decide) ?_
          refine z_iushr (pc := 60) hZ dJI_numberOfTrailingZeros_60 (fun v60_12 ev60_12 => ?_)
          refine z_istore_n (pc := 61) hZ [(0, .int v60_12), (1, .int v55_11)] dJI_numberOfTrailingZeros_61 rfl (by decide) rfl ?_
          exact z_sub (pc := 62) hZ [1, 0] rfl (J62 v55_11 v60_12 (by first | exact ti_a (K := 4) j49 (by decide) (by decide) (by decide) c52_10 | exact ti_b (K := 4) j49 (by decide) (by decide) (by decide) (by decide) (by decide) (by decide) c52_10 ev55_11 ev60_12 (by decide)))
      refine z_icmp_le (pc := 38) hZ 49 dJI_numberOfTrailingZeros_38 (by decide) (fun c38_13 => ?_) (fun c38_13 => ?_)
      · exact z_sub (pc := 49) hZ [0, 1] rfl (J49 x1_34 x0_34 (by first | exact ti_a (K := 8) j34 (by decide) (by decide) (by decide) c38_13 | exact ti_b (K := 8) j34 (by decide) (by decide) (by decide) (by decide) (by decide) (by decide) c38_13 nokey_ nokey_ (by decide)))
      · refine z_iinc (pc := 41) hZ 0 (fun v9 => [(1, .int v9), (0, .int x0_34)]) dJI_numberOfTrailingZeros_41 rfl (by decide) (fun _ => rfl) (fun v41_14 ev41_14 => ?_)
        refine z_iload_n (pc := 44) hZ 1 dJI_numberOfTrailingZeros_44 rfl rfl ?_
        refine z_bipush (pc := 45) hZ 8 dJI_numberOfTrailingZeros_45 (by decide) ?_
        refine z_iushr (pc := 47) hZ dJI_numberOfTrailingZeros_47 (fun v47_15 ev47_15 => ?_)
        refine z_istore_n (pc := 48) hZ [(0, .int v47_15), (1, .int v41_14)] dJI_numberOfTrailingZeros_48 rfl (by decide) rfl ?_
        exact z_sub (pc := 49) hZ [1, 0] rfl (J49 v41_14 v47_15 (by first | exact ti_a (K := 8) j34 (by decide) (by decide) (by decide) c38_13 | exact ti_b (K := 8) j34 (by decide) (by decide) (by decide) (by decide) (by decide) (by decide) c38_13 ev41_14 ev47_15 (by decide)))
    refine z_icmp_le (pc := 23) hZ 34 dJI_numberOfTrailingZeros_23 (by decide) (fun c23_16 => ?_) (fun c23_16 => ?_)
    · exact z_sub (pc := 34) hZ [0, 1] rfl (J34 1 v6_3 (by first | exact ti_a (K := 16) (tz_s ev2_1 ev5_2 ev6_3 c9_4) (by decide) (by decide) (by decide) c23_16 | exact ti_b (K := 16) (tz_s ev2_1 ev5_2 ev6_3 c9_4) (by decide) (by decide) (by decide) (by decide) (by decide) (by decide) c23_16 nokey_ nokey_ (by decide)))
    · refine z_iinc (pc := 26) hZ 0 (fun v9 => [(1, .int v9), (0, .int v6_3)]) dJI_numberOfTrailingZeros_26 rfl (by decide) (fun _ => rfl) (fun v26_17 ev26_17 => ?_)
      refine z_iload_n (pc := 29) hZ 1 dJI_numberOfTrailingZeros_29 rfl rfl ?_
      refine z_bipush (pc := 30) hZ 16 dJI_numberOfTrailingZeros_30 (by decide) ?_
      refine z_iushr (pc := 32) hZ dJI_numberOfTrailingZeros_32 (fun v32_18 ev32_18 => ?_)
      refine z_istore_n (pc := 33) hZ [(0, .int v32_18), (1, .int v26_17)] dJI_numberOfTrailingZeros_33 rfl (by decide) rfl ?_
      exact z_sub (pc := 34) hZ [1, 0] rfl (J34 v26_17 v32_18 (by first | exact ti_a (K := 16) (tz_s ev2_1 ev5_2 ev6_3 c9_4) (by decide) (by decide) (by decide) c23_16 | exact ti_b (K := 16) (tz_s ev2_1 ev5_2 ev6_3 c9_4) (by decide) (by decide) (by decide) (by decide) (by decide) (by decide) c23_16 ev26_17 ev32_18 (by decide)))
  · refine z_iload_n (pc := 12) hZ 0 dJI_numberOfTrailingZeros_12 rfl rfl ?_
    refine z_bipush (pc := 13) hZ 32 dJI_numberOfTrailingZeros_13 (by decide) ?_
    refine z_iand (pc := 15) hZ dJI_numberOfTrailingZeros_15 (fun v15_19 ev15_19 => ?_)
    exact z_reti (pc := 16) hZ dJI_numberOfTrailingZeros_16 .int rfl rfl ⟨_, rfl, rfl, rfl, (by exact tz_z ev2_1 ev5_2 ev6_3 c9_4 ev15_19)⟩
set_option maxHeartbeats 4000000 in
set_option maxRecDepth 100000 in
theorem cJL_compare (l : Launch) (D : va_G) (tys : zT) (w : va_W) (p0 : Int64) (p1 : Int64) : zM l D vwCl zNF zNM yJL_compare wsJL_compare { frames := 0, cells := 0, slots := 0, locals := 0 } [.long p0, .long p1] (w) tys (qI (fun r w' tys' => w = w' ∧ tys = tys' ∧ (CMPL p0 p1 r))) := by
  refine z_met (cc := bJL_compare) (maxL := 4) (ret := (some .int)) (isI := false) (own := RJL) (by decide +kernel) rfl rfl (fun h => by cases h) (Nat.le_of_ble_eq_true rfl) (fun Z hZ => ?_)
  show Z 0 0 tys 0 [(0, .long p0), (2, .long p1)] [] (w)
  refine z_lload_n (pc := 0) hZ 0 dJL_compare_0 rfl rfl ?_
  refine z_lload_n (pc := 1) hZ 1 dJL_compare_1 rfl rfl ?_
  refine z_lif_ge (pc := 2) hZ 10 dJL_compare_2 dJL_compare_3 (by decide) (fun c3_1 => ?_) (fun c3_1 => ?_)
  · refine z_lload_n (pc := 10) hZ 0 dJL_compare_10 rfl rfl ?_
    refine z_lload_n (pc := 11) hZ 1 dJL_compare_11 rfl rfl ?_
    refine z_lif_ne (pc := 12) hZ 20 dJL_compare_12 dJL_compare_13 (by decide) (fun c13_2 => ?_) (fun c13_2 => ?_)
    · refine z_iconst (pc := 20) hZ 1 dJL_compare_20 (by decide) ?_
      exact z_reti (pc := 21) hZ dJL_compare_21 .int rfl rfl ⟨_, rfl, rfl, rfl, (by first | exact cl_lt c3_1 | exact cl_eq c13_2 | exact cl_gt c3_1 c13_2)⟩
    · refine z_iconst (pc := 16) hZ 0 dJL_compare_16 (by decide) ?_
      refine z_goto (pc := 17) hZ 21 dJL_compare_17 (by decide) ?_
      exact z_reti (pc := 21) hZ dJL_compare_21 .int rfl rfl ⟨_, rfl, rfl, rfl, (by first | exact cl_lt c3_1 | exact cl_eq c13_2 | exact cl_gt c3_1 c13_2)⟩
  · refine z_iconst (pc := 6) hZ (-1) dJL_compare_6 (by decide) ?_
    refine z_goto (pc := 7) hZ 21 dJL_compare_7 (by decide) ?_
    exact z_reti (pc := 21) hZ dJL_compare_21 .int rfl rfl ⟨_, rfl, rfl, rfl, (by first | exact cl_lt c3_1 | exact cl_eq nokey_ | exact cl_gt c3_1 nokey_)⟩
set_option maxHeartbeats 4000000 in
set_option maxRecDepth 100000 in
theorem cJL_numberOfLeadingZeros (l : Launch) (D : va_G) (tys : zT) (w : va_W) (p0 : Int64) : zM l D vwCl zNF zNM yJL_numberOfLeadingZeros wsJL_numberOfLeadingZeros { frames := 1, cells := 0, slots := 0, locals := 21 } [.long p0] (w) tys (qI (fun r w' tys' => w = w' ∧ tys = tys' ∧ (r.toInt = 64 - (BL (un p0) : Int)))) := by
  refine z_met (cc := bJL_numberOfLeadingZeros) (maxL := 3) (ret := (some .int)) (isI := false) (own := RJL) (by decide +kernel) rfl rfl (fun h => by cases h) (Nat.le_of_ble_eq_true rfl) (fun Z hZ => ?_)
  show Z 0 0 tys 0 [(0, .long p0)] [] (w)
  refine z_lload_n (pc := 0) hZ 0 dJL_numberOfLeadingZeros_0 rfl rfl ?_
  refine z_bipush (pc := 1) hZ 32 dJL_numberOfLeadingZeros_1 (by decide) ?_
  refine z_lushr (pc := 3) hZ dJL_numberOfLeadingZeros_3 (fun v3_1 ev3_1 => ?_)
  refine z_l2i (pc := 4) hZ dJL_numberOfLeadingZeros_4 (fun v4_2 ev4_2 => ?_)
  refine z_istore_n (pc := 5) hZ [(2, .int v4_2), (0, .long p0)] dJL_numberOfLeadingZeros_5 rfl (by decide) rfl ?_
  refine z_iload_n (pc := 6) hZ 0 dJL_numberOfLeadingZeros_6 rfl rfl ?_
  refine z_if_ne (pc := 7) hZ 21 dJL_numberOfLeadingZeros_7 (by decide) (fun c7_3 => ?_) (fun c7_3 => ?_)
  · refine z_iload_n (pc := 21) hZ 0 dJL_numberOfLeadingZeros_21 rfl rfl ?_
    refine z_callS (pc := 22) (As := [.int v4_2]) (rest := []) hZ (cJI_numberOfLeadingZeros l D tys (w) v4_2) zyJI_numberOfLeadingZeros (z_goodS ml_JL_308 st_JI_numberOfLeadingZeros in_JI co_JI_numberOfLeadingZeros) rfl rfl (by decide) rfl rfl (Nat.le_of_ble_eq_true rfl) ⟨Nat.zero_le _, Nat.zero_le _⟩ dJL_numberOfLeadingZeros_22 (z_ki (fun r22_4 w1 tys1 hp => ?_))
    obtain ⟨rfl, rfl, p22_4⟩ := hp
    exact z_reti (pc := 25) hZ dJL_numberOfLeadingZeros_25 .int rfl rfl ⟨_, rfl, rfl, rfl, (by first | exact nl_a ev3_1 ev4_2 c7_3 nokey_ nokey_ nokey_ | exact nl_b ev3_1 ev4_2 c7_3 p22_4)⟩
  · refine z_bipush (pc := 10) hZ 32 dJL_numberOfLeadingZeros_10 (by decide) ?_
    refine z_lload_n (pc := 12) hZ 1 dJL_numberOfLeadingZeros_12 rfl rfl ?_
    refine z_l2i (pc := 13) hZ dJL_numberOfLeadingZeros_13 (fun v13_5 ev13_5 => ?_)
    refine z_callS (pc := 14) (As := [.int v13_5]) (rest := [.int 32]) hZ (cJI_numberOfLeadingZeros l D tys (w) v13_5) zyJI_numberOfLeadingZeros (z_goodS ml_JL_308 st_JI_numberOfLeadingZeros in_JI co_JI_numberOfLeadingZeros) rfl rfl (by decide) rfl rfl (Nat.le_of_ble_eq_true rfl) ⟨Nat.zero_le _, Nat.zero_le _⟩ dJL_numberOfLeadingZeros_14 (z_ki (fun r14_6 w1 tys1 hp => ?_))
    obtain ⟨rfl, rfl, p14_6⟩ := hp
    refine z_iadd (pc := 17) hZ dJL_numberOfLeadingZeros_17 (fun v17_7 ev17_7 => ?_)
    refine z_goto (pc := 18) hZ 25 dJL_numberOfLeadingZeros_18 (by decide) ?_
    exact z_reti (pc := 25) hZ dJL_numberOfLeadingZeros_25 .int rfl rfl ⟨_, rfl, rfl, rfl, (by first | exact nl_a ev3_1 ev4_2 c7_3 ev13_5 p14_6 ev17_7 | exact nl_b ev3_1 ev4_2 c7_3 nokey_)⟩
set_option maxHeartbeats 4000000 in
set_option maxRecDepth 100000 in
theorem cJL_numberOfTrailingZeros (l : Launch) (D : va_G) (tys : zT) (w : va_W) (p0 : Int64) : zM l D vwCl zNF zNM yJL_numberOfTrailingZeros wsJL_numberOfTrailingZeros { frames := 1, cells := 0, slots := 0, locals := 21 } [.long p0] (w) tys (qI (fun r w' tys' => w = w' ∧ tys = tys' ∧ (¬ p0 = 0 → TZL p0 r))) := by
  refine z_met (cc := bJL_numberOfTrailingZeros) (maxL := 3) (ret := (some .int)) (isI := false) (own := RJL) (by decide +kernel) rfl rfl (fun h => by cases h) (Nat.le_of_ble_eq_true rfl) (fun Z hZ => ?_)
  show Z 0 0 tys 0 [(0, .long p0)] [] (w)
  refine z_lload_n (pc := 0) hZ 0 dJL_numberOfTrailingZeros_0 rfl rfl ?_
  refine z_l2i (pc := 1) hZ dJL_numberOfTrailingZeros_1 (fun v1_1 ev1_1 => ?_)
  refine z_istore_n (pc := 2) hZ [(2, .int v1_1), (0, .long p0)] dJL_numberOfTrailingZeros_2 rfl (by decide) rfl ?_
  refine z_iload_n (pc := 3) hZ 0 dJL_numberOfTrailingZeros_3 rfl rfl ?_
  refine z_if_ne (pc := 4) hZ 21 dJL_numberOfTrailingZeros_4 (by decide) (fun c4_2 => ?_) (fun c4_2 => ?_)
  · refine z_iload_n (pc := 21) hZ 0 dJL_numberOfTrailingZeros_21 rfl rfl ?_
    refine z_callS (pc := 22) (As := [.int v1_1]) (rest := []) hZ (cJI_numberOfTrailingZeros l D tys (w) v1_1) zyJI_numberOfTrailingZeros (z_goodS ml_JL_311 st_JI_numberOfTrailingZeros in_JI co_JI_numberOfTrailingZeros) rfl rfl (by decide) rfl rfl (Nat.le_of_ble_eq_true rfl) ⟨Nat.zero_le _, Nat.zero_le _⟩ dJL_numberOfTrailingZeros_22 (z_ki (fun r22_3 w1 tys1 hp => ?_))
    obtain ⟨rfl, rfl, p22_3⟩ := hp
    exact z_reti (pc := 25) hZ dJL_numberOfTrailingZeros_25 .int rfl rfl ⟨_, rfl, rfl, rfl, (by first | exact fun _ => tl_a ev1_1 c4_2 p22_3 | exact fun h => tl_b ev1_1 c4_2 nokey_ nokey_ nokey_ nokey_ h)⟩
  · refine z_bipush (pc := 7) hZ 32 dJL_numberOfTrailingZeros_7 (by decide) ?_
    refine z_lload_n (pc := 9) hZ 1 dJL_numberOfTrailingZeros_9 rfl rfl ?_
    refine z_bipush (pc := 10) hZ 32 dJL_numberOfTrailingZeros_10 (by decide) ?_
    refine z_lushr (pc := 12) hZ dJL_numberOfTrailingZeros_12 (fun v12_4 ev12_4 => ?_)
    refine z_l2i (pc := 13) hZ dJL_numberOfTrailingZeros_13 (fun v13_5 ev13_5 => ?_)
    refine z_callS (pc := 14) (As := [.int v13_5]) (rest := [.int 32]) hZ (cJI_numberOfTrailingZeros l D tys (w) v13_5) zyJI_numberOfTrailingZeros (z_goodS ml_JL_311 st_JI_numberOfTrailingZeros in_JI co_JI_numberOfTrailingZeros) rfl rfl (by decide) rfl rfl (Nat.le_of_ble_eq_true rfl) ⟨Nat.zero_le _, Nat.zero_le _⟩ dJL_numberOfTrailingZeros_14 (z_ki (fun r14_6 w1 tys1 hp => ?_))
    obtain ⟨rfl, rfl, p14_6⟩ := hp
    refine z_iadd (pc := 17) hZ dJL_numberOfTrailingZeros_17 (fun v17_7 ev17_7 => ?_)
    refine z_goto (pc := 18) hZ 25 dJL_numberOfTrailingZeros_18 (by decide) ?_
    exact z_reti (pc := 25) hZ dJL_numberOfTrailingZeros_25 .int rfl rfl ⟨_, rfl, rfl, rfl, (by first | exact fun _ => tl_a ev1_1 c4_2 nokey_ | exact fun h => tl_b ev1_1 c4_2 ev12_4 ev13_5 p14_6 ev17_7 h)⟩
set_option maxHeartbeats 4000000 in
set_option maxRecDepth 100000 in
theorem cJL_signum (l : Launch) (D : va_G) (tys : zT) (w : va_W) (p0 : Int64) : zM l D vwCl zNF zNM yJL_signum wsJL_signum { frames := 0, cells := 0, slots := 0, locals := 0 } [.long p0] (w) tys (qI (fun r w' tys' => w = w' ∧ tys = tys' ∧ (SGN p0 r))) := by
  refine z_met (cc := bJL_signum) (maxL := 2) (ret := (some .int)) (isI := false) (own := RJL) (by decide +kernel) rfl rfl (fun h => by cases h) (Nat.le_of_ble_eq_true rfl) (fun Z hZ => ?_)
  show Z 0 0 tys 0 [(0, .long p0)] [] (w)
  refine z_lload_n (pc := 0) hZ 0 dJL_signum_0 rfl rfl ?_
  refine z_bipush (pc := 1) hZ 63 dJL_signum_1 (by decide) ?_
  refine z_lshr (pc := 3) hZ dJL_signum_3 (fun v3_1 ev3_1 => ?_)
  refine z_lload_n (pc := 4) hZ 0 dJL_signum_4 rfl rfl ?_
  refine z_lneg (pc := 5) hZ dJL_signum_5 (fun v5_2 ev5_2 => ?_)
  refine z_bipush (pc := 6) hZ 63 dJL_signum_6 (by decide) ?_
  refine z_lushr (pc := 8) hZ dJL_signum_8 (fun v8_3 ev8_3 => ?_)
  refine z_lor (pc := 9) hZ dJL_signum_9 (fun v9_4 ev9_4 => ?_)
  refine z_l2i (pc := 10) hZ dJL_signum_10 (fun v10_5 ev10_5 => ?_)
  exact z_reti (pc := 11) hZ dJL_signum_11 .int rfl rfl ⟨_, rfl, rfl, rfl, (by exact sgn_e ev3_1 ev5_2 ev8_3 ev9_4 ev10_5)⟩
