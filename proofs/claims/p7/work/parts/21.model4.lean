set_option maxHeartbeats 4000000 in
set_option maxRecDepth 100000 in
theorem cM_quotientBits (l : Launch) (D : va_G) (cR c1 c2 c3 : ClassId) (h0 a1 a2 a3 : Nat) (Y : va_W) (ka : Int32) (na : Int64) (ea : Int32) (kb : Int32) (nb : Int64) (eb : Int32) (k : Int32) (n : Int64) (e : Int32) (bits : Int64) (scale : Int32) (K : Nat → Int32) (N : Nat → Int64) (E : Nat → Int32) (p1 : Int64) (p2 : Int64) (ha : 0 < p1.toInt ∧ p1.toInt ≤ 9007199254740992) (hb2 : 0 < p2.toInt ∧ p2.toInt ≤ 9007199254740992) : zM l D vwCl zNF zNM yM_quotientBits wsM_quotientBits { frames := 1, cells := 0, slots := 0, locals := 22 } [.ref h0, .long p1, .long p2] (MW h0 a1 a2 a3 c1 c2 c3 (ka, na, ea, kb, nb, eb, k, n, e, bits, scale, K, N, E) ++ Y) (TY cR c1 c2 c3) (qV (fun w' tys' => ∃ bits' : Int64, ∃ scale' : Int32, MW h0 a1 a2 a3 c1 c2 c3 (ka, na, ea, kb, nb, eb, k, n, e, bits', scale', K, N, E) ++ Y = w' ∧ (TY cR c1 c2 c3) = tys' ∧ (((0 ≤ bits'.toInt ∧ bits'.toInt < 4611686018427387904) ∧ -200 ≤ scale'.toInt ∧ scale'.toInt ≤ 200) ∧ QTD p1.toInt.toNat p2.toInt.toNat bits' scale'))) := by
  refine z_met (cc := bM_quotientBits) (maxL := 10) (ret := none) (isI := false) (own := RM) (by decide +kernel) rfl rfl (fun h => by cases h) (Nat.le_of_ble_eq_true rfl) (fun Z hZ => ?_)
  show Z 0 0 (TY cR c1 c2 c3) 0 [(0, .ref h0), (1, .long p1), (3, .long p2)] [] (MW h0 a1 a2 a3 c1 c2 c3 (ka, na, ea, kb, nb, eb, k, n, e, bits, scale, K, N, E) ++ Y)
  refine z_lload_n (pc := 0) hZ 1 dM_quotientBits_0 rfl rfl ?_
  refine z_lload_n (pc := 1) hZ 1 dM_quotientBits_1 rfl rfl ?_
  refine z_callS (pc := 2) (As := [.long p1]) (rest := [.long p1]) hZ (cM_room l D (TY cR c1 c2 c3) (MW h0 a1 a2 a3 c1 c2 c3 (ka, na, ea, kb, nb, eb, k, n, e, bits, scale, K, N, E) ++ Y) p1 (by omega) (by omega)) zyM_room (z_goodS ml_M_78 st_M_room in_M co_M_room) rfl rfl (by decide) rfl rfl (Nat.le_of_ble_eq_true rfl) ⟨Nat.zero_le _, Nat.zero_le _⟩ dM_quotientBits_2 (z_ki (fun r2_1 w1 tys1 hp => ?_))
  obtain ⟨rfl, rfl, p2_1⟩ := hp
  refine z_lshl (pc := 5) hZ dM_quotientBits_5 (fun v5_2 ev5_2 => ?_)
  have HXX := RMX_v ha.1 rfl p2_1 ev5_2
  refine z_lstore (pc := 6) hZ [(5, .long v5_2), (0, .ref h0), (1, .long p1), (3, .long p2)] dM_quotientBits_6 (by decide) rfl ?_
  refine z_lload_n (pc := 8) hZ 3 dM_quotientBits_8 rfl rfl ?_
  refine z_lload_n (pc := 9) hZ 3 dM_quotientBits_9 rfl rfl ?_
  refine z_callS (pc := 10) (As := [.long p2]) (rest := [.long p2]) hZ (cM_room l D (TY cR c1 c2 c3) (MW h0 a1 a2 a3 c1 c2 c3 (ka, na, ea, kb, nb, eb, k, n, e, bits, scale, K, N, E) ++ Y) p2 (by omega) (by omega)) zyM_room (z_goodS ml_M_78 st_M_room in_M co_M_room) rfl rfl (by decide) rfl rfl (Nat.le_of_ble_eq_true rfl) ⟨Nat.zero_le _, Nat.zero_le _⟩ dM_quotientBits_10 (z_ki (fun r10_3 w1 tys1 hp => ?_))
  obtain ⟨rfl, rfl, p10_3⟩ := hp
  refine z_lshl (pc := 13) hZ dM_quotientBits_13 (fun v13_4 ev13_4 => ?_)
  have HY := RMX_v hb2.1 rfl p10_3 ev13_4
  refine z_lstore (pc := 14) hZ [(7, .long v13_4), (5, .long v5_2), (0, .ref h0), (1, .long p1), (3, .long p2)] dM_quotientBits_14 (by decide) rfl ?_
  refine z_aload_n (pc := 16) hZ 2 dM_quotientBits_16 rfl rfl ?_
  refine z_lload_n (pc := 17) hZ 4 dM_quotientBits_17 rfl rfl ?_
  refine z_callS (pc := 18) (As := [.long p2]) (rest := [.ref h0]) hZ (cM_room l D (TY cR c1 c2 c3) (MW h0 a1 a2 a3 c1 c2 c3 (ka, na, ea, kb, nb, eb, k, n, e, bits, scale, K, N, E) ++ Y) p2 (by omega) (by omega)) zyM_room (z_goodS ml_M_78 st_M_room in_M co_M_room) rfl rfl (by decide) rfl rfl (Nat.le_of_ble_eq_true rfl) ⟨Nat.zero_le _, Nat.zero_le _⟩ dM_quotientBits_18 (z_ki (fun r18_5 w1 tys1 hp => ?_))
  obtain ⟨rfl, rfl, p18_5⟩ := hp
  refine z_lload_n (pc := 21) hZ 3 dM_quotientBits_21 rfl rfl ?_
  refine z_callS (pc := 22) (As := [.long p1]) (rest := [.int r18_5, .ref h0]) hZ (cM_room l D (TY cR c1 c2 c3) (MW h0 a1 a2 a3 c1 c2 c3 (ka, na, ea, kb, nb, eb, k, n, e, bits, scale, K, N, E) ++ Y) p1 (by omega) (by omega)) zyM_room (z_goodS ml_M_78 st_M_room in_M co_M_room) rfl rfl (by decide) rfl rfl (Nat.le_of_ble_eq_true rfl) ⟨Nat.zero_le _, Nat.zero_le _⟩ dM_quotientBits_22 (z_ki (fun r22_6 w1 tys1 hp => ?_))
  obtain ⟨rfl, rfl, p22_6⟩ := hp
  refine z_isub (pc := 25) hZ dM_quotientBits_25 (fun v25_7 ev25_7 => ?_)
  refine z_put (pc := 26) (ci := 2) hZ 0 rfl rfl uc_M 13 (by decide) (zb fl_M_98) tyM tyM_ok nmM rfl rfl rfl (Nat.le_of_ble_eq_true rfl) dM_quotientBits_26 ?_
  show Z 0 0 (TY cR c1 c2 c3) (26 + 3) [(7, .long v13_4), (5, .long v5_2), (0, .ref h0), (1, .long p1), (3, .long p2)] [] (MW h0 a1 a2 a3 c1 c2 c3 (ka, na, ea, kb, nb, eb, k, n, e, bits, v25_7, K, N, E) ++ Y)
  refine z_aload_n (pc := 29) hZ 2 dM_quotientBits_29 rfl rfl ?_
  refine z_lconst (pc := 30) hZ 0 dM_quotientBits_30 (by decide) ?_
  refine z_put (pc := 31) (ci := 2) hZ 0 rfl rfl uc_M 12 (by decide) (zb fl_M_95) tyM tyM_ok nmM rfl rfl rfl (Nat.le_of_ble_eq_true rfl) dM_quotientBits_31 ?_
  show Z 0 0 (TY cR c1 c2 c3) (31 + 3) [(7, .long v13_4), (5, .long v5_2), (0, .ref h0), (1, .long p1), (3, .long p2)] [] (MW h0 a1 a2 a3 c1 c2 c3 (ka, na, ea, kb, nb, eb, k, n, e, 0, v25_7, K, N, E) ++ Y)
  refine z_iconst (pc := 34) hZ 0 dM_quotientBits_34 (by decide) ?_
  refine z_istore (pc := 35) hZ [(9, .int 0), (7, .long v13_4), (5, .long v5_2), (0, .ref h0), (1, .long p1), (3, .long p2)] dM_quotientBits_35 (by decide) rfl ?_
  have L37 : ∀ (N37 : Nat) (x9_37 : Int32) (x5_37 : Int64) (bits_37 : Int64), ((62 : Int32).toInt - x9_37.toInt).toNat < N37 → (QB v13_4 x5_37 bits_37 x9_37) → (QV v5_2 v13_4 x5_37 bits_37 x9_37) → Z 0 0 (TY cR c1 c2 c3) 37 [(9, .int x9_37), (7, .long v13_4), (5, .long x5_37), (0, .ref h0)] [] (MW h0 a1 a2 a3 c1 c2 c3 (ka, na, ea, kb, nb, eb, k, n, e, bits_37, v25_7, K, N, E) ++ Y) := by
    intro N37
    induction N37 with
    | zero => intro x9_37 x5_37 bits_37 m37; exact absurd m37 (Nat.not_lt_zero _)
    | succ N37 ih37 =>
      intro x9_37 x5_37 bits_37 m37 i37 q37
      refine z_iload (pc := 37) hZ 0 dM_quotientBits_37 rfl ?_
      refine z_bipush (pc := 39) hZ 62 dM_quotientBits_39 (by decide) ?_
      refine z_icmp_ge (pc := 41) hZ 91 dM_quotientBits_41 (by decide) (fun c41_8 => ?_) (fun c41_8 => ?_)
      · refine z_aload_n (pc := 91) hZ 3 dM_quotientBits_91 rfl rfl ?_
        refine z_dup (pc := 92) hZ dM_quotientBits_92 rfl ?_
        refine z_get (pc := 93) (ci := 2) hZ 0 rfl rfl uc_M 13 (by decide) (zb fl_M_98) rfl dM_quotientBits_93 ?_
        refine z_bipush (pc := 96) hZ 61 dM_quotientBits_96 (by decide) ?_
        refine z_isub (pc := 98) hZ dM_quotientBits_98 (fun v98_9 ev98_9 => ?_)
        have SC1 := qb_c (RMX_r p18_5) (RMX_r p22_6) ev25_7 ev98_9
        refine z_put (pc := 99) (ci := 2) hZ 0 rfl rfl uc_M 13 (by decide) (zb fl_M_98) tyM tyM_ok nmM rfl rfl rfl (Nat.le_of_ble_eq_true rfl) dM_quotientBits_99 ?_
        show Z 0 0 (TY cR c1 c2 c3) (99 + 3) [(9, .int x9_37), (7, .long v13_4), (5, .long x5_37), (0, .ref h0)] [] (MW h0 a1 a2 a3 c1 c2 c3 (ka, na, ea, kb, nb, eb, k, n, e, bits_37, v98_9, K, N, E) ++ Y)
        have BE := qb_e i37
        refine z_lload (pc := 102) hZ 2 dM_quotientBits_102 rfl ?_
        refine z_lconst (pc := 104) hZ 0 dM_quotientBits_104 (by decide) ?_
        refine z_lif_eq (pc := 105) hZ 119 dM_quotientBits_105 dM_quotientBits_106 (by decide) (fun c106_10 => ?_) (fun c106_10 => ?_)
        · exact z_retv (pc := 119) hZ dM_quotientBits_119 rfl ⟨rfl, _, _, rfl, rfl, (by first | exact ⟨⟨pr_o BE nokey_, SC1⟩, qt_e ha.1 hb2.1 p2_1 ev5_2 p10_3 ev13_4 p18_5 p22_6 ev25_7 i37 q37 c41_8 ev98_9 (Or.inr ⟨c106_10, nokey_⟩)⟩ | exact ⟨⟨BE, SC1⟩, qt_e ha.1 hb2.1 p2_1 ev5_2 p10_3 ev13_4 p18_5 p22_6 ev25_7 i37 q37 c41_8 ev98_9 (Or.inl ⟨c106_10, rfl⟩)⟩)⟩
        · refine z_aload_n (pc := 109) hZ 3 dM_quotientBits_109 rfl rfl ?_
          refine z_dup (pc := 110) hZ dM_quotientBits_110 rfl ?_
          refine z_get (pc := 111) (ci := 2) hZ 0 rfl rfl uc_M 12 (by decide) (zb fl_M_95) rfl dM_quotientBits_111 ?_
          refine z_lconst (pc := 114) hZ 1 dM_quotientBits_114 (by decide) ?_
          refine z_lor (pc := 115) hZ dM_quotientBits_115 (fun v115_11 ev115_11 => ?_)
          refine z_put (pc := 116) (ci := 2) hZ 0 rfl rfl uc_M 12 (by decide) (zb fl_M_95) tyM tyM_ok nmM rfl rfl rfl (Nat.le_of_ble_eq_true rfl) dM_quotientBits_116 ?_
          show Z 0 0 (TY cR c1 c2 c3) (116 + 3) [(9, .int x9_37), (7, .long v13_4), (5, .long x5_37), (0, .ref h0)] [] (MW h0 a1 a2 a3 c1 c2 c3 (ka, na, ea, kb, nb, eb, k, n, e, v115_11, v98_9, K, N, E) ++ Y)
          exact z_retv (pc := 119) hZ dM_quotientBits_119 rfl ⟨rfl, _, _, rfl, rfl, (by first | exact ⟨⟨pr_o BE ev115_11, SC1⟩, qt_e ha.1 hb2.1 p2_1 ev5_2 p10_3 ev13_4 p18_5 p22_6 ev25_7 i37 q37 c41_8 ev98_9 (Or.inr ⟨c106_10, ev115_11⟩)⟩ | exact ⟨⟨BE, SC1⟩, qt_e ha.1 hb2.1 p2_1 ev5_2 p10_3 ev13_4 p18_5 p22_6 ev25_7 i37 q37 c41_8 ev98_9 (Or.inl ⟨c106_10, rfl⟩)⟩)⟩
      · refine z_aload_n (pc := 44) hZ 3 dM_quotientBits_44 rfl rfl ?_
        refine z_aload_n (pc := 45) hZ 3 dM_quotientBits_45 rfl rfl ?_
        refine z_get (pc := 46) (ci := 2) hZ 0 rfl rfl uc_M 12 (by decide) (zb fl_M_95) rfl dM_quotientBits_46 ?_
        refine z_iconst (pc := 49) hZ 1 dM_quotientBits_49 (by decide) ?_
        refine z_lshl (pc := 50) hZ dM_quotientBits_50 (fun v50_12 ev50_12 => ?_)
        refine z_put (pc := 51) (ci := 2) hZ 0 rfl rfl uc_M 12 (by decide) (zb fl_M_95) tyM tyM_ok nmM rfl rfl rfl (Nat.le_of_ble_eq_true rfl) dM_quotientBits_51 ?_
        show Z 0 0 (TY cR c1 c2 c3) (51 + 3) [(9, .int x9_37), (7, .long v13_4), (5, .long x5_37), (0, .ref h0)] [] (MW h0 a1 a2 a3 c1 c2 c3 (ka, na, ea, kb, nb, eb, k, n, e, v50_12, v25_7, K, N, E) ++ Y)
        refine z_lload (pc := 54) hZ 2 dM_quotientBits_54 rfl ?_
        refine z_lload (pc := 56) hZ 1 dM_quotientBits_56 rfl ?_
        refine z_lif_lt (pc := 58) hZ 79 dM_quotientBits_58 dM_quotientBits_59 (by decide) (fun c59_13 => ?_) (fun c59_13 => ?_)
        · refine z_lload (pc := 79) hZ 2 dM_quotientBits_79 rfl ?_
          refine z_iconst (pc := 81) hZ 1 dM_quotientBits_81 (by decide) ?_
          refine z_lshl (pc := 82) hZ dM_quotientBits_82 (fun v82_14 ev82_14 => ?_)
          refine z_lstore (pc := 83) hZ [(5, .long v82_14), (9, .int x9_37), (7, .long v13_4), (0, .ref h0)] dM_quotientBits_83 (by decide) rfl ?_
          refine z_iinc (pc := 85) hZ 1 (fun v9 => [(9, .int v9), (5, .long v82_14), (7, .long v13_4), (0, .ref h0)]) dM_quotientBits_85 rfl (by decide) (fun _ => rfl) (fun v85_15 ev85_15 => ?_)
          refine z_goto (pc := 88) hZ 37 dM_quotientBits_88 (by decide) ?_
          exact z_sub (pc := 37) hZ [0, 2, 1, 3] rfl (ih37 v85_15 v82_14 v50_12 (by exact Nat.lt_of_lt_of_le (dec_up (x := x9_37) (b := 62) c41_8 ev85_15) (Nat.le_of_lt_succ m37)) (by first | exact qb_s1 (x := x5_37) (b := bits_37) HY i37 c41_8 ev50_12 c59_13 nokey_ nokey_ ev82_14 ev85_15 | exact qb_s2 (x := x5_37) (b := bits_37) HY i37 c41_8 ev50_12 c59_13 ev82_14 ev85_15) (by first | exact qv_s1 (x := x5_37) (b := bits_37) HY i37 q37 c41_8 ev50_12 c59_13 nokey_ nokey_ ev82_14 ev85_15 | exact qv_s2 (x := x5_37) (b := bits_37) HY i37 q37 c41_8 ev50_12 c59_13 ev82_14 ev85_15))
        · refine z_aload_n (pc := 62) hZ 3 dM_quotientBits_62 rfl rfl ?_
          refine z_dup (pc := 63) hZ dM_quotientBits_63 rfl ?_
          refine z_get (pc := 64) (ci := 2) hZ 0 rfl rfl uc_M 12 (by decide) (zb fl_M_95) rfl dM_quotientBits_64 ?_
          refine z_lconst (pc := 67) hZ 1 dM_quotientBits_67 (by decide) ?_
          refine z_lor (pc := 68) hZ dM_quotientBits_68 (fun v68_16 ev68_16 => ?_)
          refine z_put (pc := 69) (ci := 2) hZ 0 rfl rfl uc_M 12 (by decide) (zb fl_M_95) tyM tyM_ok nmM rfl rfl rfl (Nat.le_of_ble_eq_true rfl) dM_quotientBits_69 ?_
          show Z 0 0 (TY cR c1 c2 c3) (69 + 3) [(9, .int x9_37), (7, .long v13_4), (5, .long x5_37), (0, .ref h0)] [] (MW h0 a1 a2 a3 c1 c2 c3 (ka, na, ea, kb, nb, eb, k, n, e, v68_16, v25_7, K, N, E) ++ Y)
          refine z_lload (pc := 72) hZ 2 dM_quotientBits_72 rfl ?_
          refine z_lload (pc := 74) hZ 1 dM_quotientBits_74 rfl ?_
          refine z_lsub (pc := 76) hZ dM_quotientBits_76 (fun v76_17 ev76_17 => ?_)
          refine z_lstore (pc := 77) hZ [(5, .long v76_17), (9, .int x9_37), (7, .long v13_4), (0, .ref h0)] dM_quotientBits_77 (by decide) rfl ?_
          refine z_lload (pc := 79) hZ 0 dM_quotientBits_79 rfl ?_
          refine z_iconst (pc := 81) hZ 1 dM_quotientBits_81 (by decide) ?_
          refine z_lshl (pc := 82) hZ dM_quotientBits_82 (fun v82_18 ev82_18 => ?_)
          refine z_lstore (pc := 83) hZ [(5, .long v82_18), (9, .int x9_37), (7, .long v13_4), (0, .ref h0)] dM_quotientBits_83 (by decide) rfl ?_
          refine z_iinc (pc := 85) hZ 1 (fun v9 => [(9, .int v9), (5, .long v82_18), (7, .long v13_4), (0, .ref h0)]) dM_quotientBits_85 rfl (by decide) (fun _ => rfl) (fun v85_19 ev85_19 => ?_)
          refine z_goto (pc := 88) hZ 37 dM_quotientBits_88 (by decide) ?_
          exact z_sub (pc := 37) hZ [0, 2, 1, 3] rfl (ih37 v85_19 v82_18 v68_16 (by exact Nat.lt_of_lt_of_le (dec_up (x := x9_37) (b := 62) c41_8 ev85_19) (Nat.le_of_lt_succ m37)) (by first | exact qb_s1 (x := x5_37) (b := bits_37) HY i37 c41_8 ev50_12 c59_13 ev68_16 ev76_17 ev82_18 ev85_19 | exact qb_s2 (x := x5_37) (b := bits_37) HY i37 c41_8 ev50_12 c59_13 ev82_18 ev85_19) (by first | exact qv_s1 (x := x5_37) (b := bits_37) HY i37 q37 c41_8 ev50_12 c59_13 ev68_16 ev76_17 ev82_18 ev85_19 | exact qv_s2 (x := x5_37) (b := bits_37) HY i37 q37 c41_8 ev50_12 c59_13 ev82_18 ev85_19))
  exact z_sub (pc := 37) hZ [0, 1, 2, 3] rfl (L37 _ 0 v5_2 0 (Nat.lt_succ_self _) (by exact qb_0 HXX HY) (by exact qv_0))
set_option maxHeartbeats 4000000 in
set_option maxRecDepth 100000 in
theorem cM_restOfSizes (l : Launch) (D : va_G) (cR c1 c2 c3 : ClassId) (h0 a1 a2 a3 : Nat) (Y : va_W) (ka : Int32) (na : Int64) (ea : Int32) (kb : Int32) (nb : Int64) (eb : Int32) (k : Int32) (n : Int64) (e : Int32) (bits : Int64) (scale : Int32) (K : Nat → Int32) (N : Nat → Int64) (E : Nat → Int32) (ga : GR na ea) (gb : GR nb eb) (cb : ¬ nb = 0) : zM l D vwCl zNF zNM yM_restOfSizes wsM_restOfSizes { frames := 1, cells := 0, slots := 0, locals := 21 } [.ref h0] (MW h0 a1 a2 a3 c1 c2 c3 (ka, na, ea, kb, nb, eb, k, n, e, bits, scale, K, N, E) ++ Y) (TY cR c1 c2 c3) (qV (fun w' tys' => ∃ bits' : Int64, ∃ scale' : Int32, MW h0 a1 a2 a3 c1 c2 c3 (ka, na, ea, kb, nb, eb, k, n, e, bits', scale', K, N, E) ++ Y = w' ∧ (TY cR c1 c2 c3) = tys' ∧ ((0 ≤ bits'.toInt ∧ PP bits' scale') ∧ RSV (sc na.toInt ea.toInt) (sc nb.toInt eb.toInt) bits' scale'))) := by
  refine z_met (cc := bM_restOfSizes) (maxL := 6) (ret := none) (isI := false) (own := RM) (by decide +kernel) rfl rfl (fun h => by cases h) (Nat.le_of_ble_eq_true rfl) (fun Z hZ => ?_)
  show Z 0 0 (TY cR c1 c2 c3) 0 [(0, .ref h0)] [] (MW h0 a1 a2 a3 c1 c2 c3 (ka, na, ea, kb, nb, eb, k, n, e, bits, scale, K, N, E) ++ Y)
  refine z_aload_n (pc := 0) hZ 0 dM_restOfSizes_0 rfl rfl ?_
  refine z_get (pc := 1) (ci := 2) hZ 0 rfl rfl uc_M 4 (by decide) (zb fl_M_54) rfl dM_restOfSizes_1 ?_
  refine z_callS (pc := 4) (As := [.long na]) (rest := []) hZ (cM_size l D (TY cR c1 c2 c3) (MW h0 a1 a2 a3 c1 c2 c3 (ka, na, ea, kb, nb, eb, k, n, e, bits, scale, K, N, E) ++ Y) na) zyM_size (z_goodS ml_M_47 st_M_size in_M co_M_size) rfl rfl (by decide) rfl rfl (Nat.le_of_ble_eq_true rfl) ⟨Nat.zero_le _, Nat.zero_le _⟩ dM_restOfSizes_4 (z_kl (fun r4_1 w1 tys1 hp => ?_))
  obtain ⟨rfl, rfl, p4_1⟩ := hp
  refine z_lstore_n (pc := 7) hZ [(1, .long r4_1), (0, .ref h0)] dM_restOfSizes_7 rfl (by decide) rfl ?_
  refine z_aload_n (pc := 8) hZ 1 dM_restOfSizes_8 rfl rfl ?_
  refine z_get (pc := 9) (ci := 2) hZ 0 rfl rfl uc_M 7 (by decide) (zb fl_M_63) rfl dM_restOfSizes_9 ?_
  refine z_callS (pc := 12) (As := [.long nb]) (rest := []) hZ (cM_size l D (TY cR c1 c2 c3) (MW h0 a1 a2 a3 c1 c2 c3 (ka, na, ea, kb, nb, eb, k, n, e, bits, scale, K, N, E) ++ Y) nb) zyM_size (z_goodS ml_M_47 st_M_size in_M co_M_size) rfl rfl (by decide) rfl rfl (Nat.le_of_ble_eq_true rfl) ⟨Nat.zero_le _, Nat.zero_le _⟩ dM_restOfSizes_12 (z_kl (fun r12_2 w1 tys1 hp => ?_))
  obtain ⟨rfl, rfl, p12_2⟩ := hp
  refine z_lstore_n (pc := 15) hZ [(3, .long r12_2), (1, .long r4_1), (0, .ref h0)] dM_restOfSizes_15 rfl (by decide) rfl ?_
  refine z_aload_n (pc := 16) hZ 2 dM_restOfSizes_16 rfl rfl ?_
  refine z_get (pc := 17) (ci := 2) hZ 0 rfl rfl uc_M 5 (by decide) (zb fl_M_57) rfl dM_restOfSizes_17 ?_
  refine z_aload_n (pc := 20) hZ 2 dM_restOfSizes_20 rfl rfl ?_
  refine z_get (pc := 21) (ci := 2) hZ 0 rfl rfl uc_M 8 (by decide) (zb fl_M_66) rfl dM_restOfSizes_21 ?_
  refine z_icmp_ge (pc := 24) hZ 117 dM_restOfSizes_24 (by decide) (fun c24_3 => ?_) (fun c24_3 => ?_)
  · refine z_aload_n (pc := 117) hZ 2 dM_restOfSizes_117 rfl rfl ?_
    refine z_lload_n (pc := 118) hZ 1 dM_restOfSizes_118 rfl rfl ?_
    refine z_lload_n (pc := 119) hZ 0 dM_restOfSizes_119 rfl rfl ?_
    refine z_lrem (pc := 120) hZ dM_restOfSizes_120 (by exact rs_ne gb p12_2 cb) (fun v120_4 ev120_4 => ?_)
    have R0 := rs_m (sz_b ga p4_1).1 (sz_0 gb p12_2 cb).1 ev120_4
    refine z_put (pc := 121) (ci := 2) hZ 0 rfl rfl uc_M 12 (by decide) (zb fl_M_95) tyM tyM_ok nmM rfl rfl rfl (Nat.le_of_ble_eq_true rfl) dM_restOfSizes_121 ?_
    show Z 0 0 (TY cR c1 c2 c3) (121 + 3) [(3, .long r12_2), (1, .long r4_1), (0, .ref h0)] [] (MW h0 a1 a2 a3 c1 c2 c3 (ka, na, ea, kb, nb, eb, k, n, e, v120_4, scale, K, N, E) ++ Y)
    refine z_iconst (pc := 124) hZ 0 dM_restOfSizes_124 (by decide) ?_
    refine z_istore (pc := 125) hZ [(5, .int 0), (3, .long r12_2), (1, .long r4_1), (0, .ref h0)] dM_restOfSizes_125 (by decide) rfl ?_
    have L127 : ∀ (N127 : Nat) (x5_127 : Int32) (bits_127 : Int64), ((ea - eb).toInt - x5_127.toInt).toNat < N127 → (RB r12_2 bits_127) → (x5_127.toInt ≤ (ea - eb).toInt) → (RQ r4_1 r12_2 bits_127 x5_127) → Z 0 0 (TY cR c1 c2 c3) 127 [(5, .int x5_127), (3, .long r12_2), (0, .ref h0)] [] (MW h0 a1 a2 a3 c1 c2 c3 (ka, na, ea, kb, nb, eb, k, n, e, bits_127, scale, K, N, E) ++ Y) := by
      intro N127
      induction N127 with
      | zero => intro x5_127 bits_127 m127; exact absurd m127 (Nat.not_lt_zero _)
      | succ N127 ih127 =>
        intro x5_127 bits_127 m127 i127 k127 w127
        refine z_iload (pc := 127) hZ 0 dM_restOfSizes_127 rfl ?_
        refine z_aload_n (pc := 129) hZ 2 dM_restOfSizes_129 rfl rfl ?_
        refine z_get (pc := 130) (ci := 2) hZ 0 rfl rfl uc_M 5 (by decide) (zb fl_M_57) rfl dM_restOfSizes_130 ?_
        refine z_aload_n (pc := 133) hZ 2 dM_restOfSizes_133 rfl rfl ?_
        refine z_get (pc := 134) (ci := 2) hZ 0 rfl rfl uc_M 8 (by decide) (zb fl_M_66) rfl dM_restOfSizes_134 ?_
        refine z_isub (pc := 137) hZ dM_restOfSizes_137 (fun v137_5 ev137_5 => ?_)
        refine z_icmp_ge (pc := 138) hZ 161 dM_restOfSizes_138 (by decide) (fun c138_6 => ?_) (fun c138_6 => ?_)
        · refine z_aload_n (pc := 161) hZ 2 dM_restOfSizes_161 rfl rfl ?_
          refine z_aload_n (pc := 162) hZ 2 dM_restOfSizes_162 rfl rfl ?_
          refine z_get (pc := 163) (ci := 2) hZ 0 rfl rfl uc_M 8 (by decide) (zb fl_M_66) rfl dM_restOfSizes_163 ?_
          refine z_put (pc := 166) (ci := 2) hZ 0 rfl rfl uc_M 13 (by decide) (zb fl_M_98) tyM tyM_ok nmM rfl rfl rfl (Nat.le_of_ble_eq_true rfl) dM_restOfSizes_166 ?_
          show Z 0 0 (TY cR c1 c2 c3) (166 + 3) [(5, .int x5_127), (3, .long r12_2), (0, .ref h0)] [] (MW h0 a1 a2 a3 c1 c2 c3 (ka, na, ea, kb, nb, eb, k, n, e, bits_127, eb, K, N, E) ++ Y)
          exact z_retv (pc := 169) hZ dM_restOfSizes_169 rfl ⟨rfl, _, _, rfl, rfl, (by exact ⟨by exact rs_pp gb p12_2 ⟨i127.1, Int.le_of_lt i127.2⟩, rsv_1 ga gb p4_1 p12_2 w127 c24_3 ev137_5 c138_6 k127⟩)⟩
        · refine z_aload_n (pc := 141) hZ 2 dM_restOfSizes_141 rfl rfl ?_
          refine z_ldc2 (pc := 142) hZ 2 (zb kc_M_114) dM_restOfSizes_142 ?_
          refine z_aload_n (pc := 145) hZ 2 dM_restOfSizes_145 rfl rfl ?_
          refine z_get (pc := 146) (ci := 2) hZ 0 rfl rfl uc_M 12 (by decide) (zb fl_M_95) rfl dM_restOfSizes_146 ?_
          refine z_lmul (pc := 149) hZ dM_restOfSizes_149 (fun v149_7 ev149_7 => ?_)
          refine z_lload_n (pc := 150) hZ 1 dM_restOfSizes_150 rfl rfl ?_
          refine z_lrem (pc := 151) hZ dM_restOfSizes_151 (by exact rs_ne gb p12_2 cb) (fun v151_8 ev151_8 => ?_)
          refine z_put (pc := 152) (ci := 2) hZ 0 rfl rfl uc_M 12 (by decide) (zb fl_M_95) tyM tyM_ok nmM rfl rfl rfl (Nat.le_of_ble_eq_true rfl) dM_restOfSizes_152 ?_
          show Z 0 0 (TY cR c1 c2 c3) (152 + 3) [(5, .int x5_127), (3, .long r12_2), (0, .ref h0)] [] (MW h0 a1 a2 a3 c1 c2 c3 (ka, na, ea, kb, nb, eb, k, n, e, v151_8, scale, K, N, E) ++ Y)
          refine z_iinc (pc := 155) hZ 0 (fun v9 => [(5, .int v9), (3, .long r12_2), (0, .ref h0)]) dM_restOfSizes_155 rfl (by decide) (fun _ => rfl) (fun v155_9 ev155_9 => ?_)
          refine z_goto (pc := 158) hZ 127 dM_restOfSizes_158 (by decide) ?_
          exact z_sub (pc := 127) hZ [0, 1, 2] rfl (ih127 v155_9 v151_8 (by exact Nat.lt_of_lt_of_le (dec_upc (b := ea - eb) (x := x5_127) ev137_5 c138_6 ev155_9) (Nat.le_of_lt_succ m127)) (by exact rs_s i127 (sz_b gb p12_2).2.1 ev149_7 ev151_8) (by exact (rq_k (GR_e ga) (GR_e gb) ev137_5 c138_6 ev155_9).1) (by exact rq_s w127 ⟨(sz_0 gb p12_2 cb).1, (sz_b gb p12_2).2.1⟩ ev149_7 ev151_8 (rq_k (GR_e ga) (GR_e gb) ev137_5 c138_6 ev155_9).2 ev155_9))
    exact z_sub (pc := 127) hZ [0, 1, 3] rfl (L127 _ 0 v120_4 (Nat.lt_succ_self _) (by exact ⟨R0.1, R0.2.1⟩) (by exact rq_k0 (GR_e ga) (GR_e gb) c24_3) (by exact rq_0 (sz_b ga p4_1).1 (sz_0 gb p12_2 cb).1 ev120_4))
  · refine z_aload_n (pc := 27) hZ 2 dM_restOfSizes_27 rfl rfl ?_
    refine z_get (pc := 28) (ci := 2) hZ 0 rfl rfl uc_M 8 (by decide) (zb fl_M_66) rfl dM_restOfSizes_28 ?_
    refine z_aload_n (pc := 31) hZ 2 dM_restOfSizes_31 rfl rfl ?_
    refine z_get (pc := 32) (ci := 2) hZ 0 rfl rfl uc_M 5 (by decide) (zb fl_M_57) rfl dM_restOfSizes_32 ?_
    refine z_isub (pc := 35) hZ dM_restOfSizes_35 (fun v35_10 ev35_10 => ?_)
    refine z_bipush (pc := 36) hZ 60 dM_restOfSizes_36 (by decide) ?_
    refine z_icmp_gt (pc := 38) hZ 83 dM_restOfSizes_38 (by decide) (fun c38_11 => ?_) (fun c38_11 => ?_)
    · refine z_aload_n (pc := 83) hZ 2 dM_restOfSizes_83 rfl rfl ?_
      refine z_lload_n (pc := 84) hZ 1 dM_restOfSizes_84 rfl rfl ?_
      refine z_put (pc := 85) (ci := 2) hZ 0 rfl rfl uc_M 12 (by decide) (zb fl_M_95) tyM tyM_ok nmM rfl rfl rfl (Nat.le_of_ble_eq_true rfl) dM_restOfSizes_85 ?_
      show Z 0 0 (TY cR c1 c2 c3) (85 + 3) [(3, .long r12_2), (1, .long r4_1), (0, .ref h0)] [] (MW h0 a1 a2 a3 c1 c2 c3 (ka, na, ea, kb, nb, eb, k, n, e, r4_1, scale, K, N, E) ++ Y)
      refine z_goto (pc := 88) hZ 108 dM_restOfSizes_88 (by decide) ?_
      refine z_aload_n (pc := 108) hZ 2 dM_restOfSizes_108 rfl rfl ?_
      refine z_aload_n (pc := 109) hZ 2 dM_restOfSizes_109 rfl rfl ?_
      refine z_get (pc := 110) (ci := 2) hZ 0 rfl rfl uc_M 5 (by decide) (zb fl_M_57) rfl dM_restOfSizes_110 ?_
      refine z_put (pc := 113) (ci := 2) hZ 0 rfl rfl uc_M 13 (by decide) (zb fl_M_98) tyM tyM_ok nmM rfl rfl rfl (Nat.le_of_ble_eq_true rfl) dM_restOfSizes_113 ?_
      show Z 0 0 (TY cR c1 c2 c3) (113 + 3) [(3, .long r12_2), (1, .long r4_1), (0, .ref h0)] [] (MW h0 a1 a2 a3 c1 c2 c3 (ka, na, ea, kb, nb, eb, k, n, e, r4_1, ea, K, N, E) ++ Y)
      exact z_retv (pc := 116) hZ dM_restOfSizes_116 rfl ⟨rfl, _, _, rfl, rfl, (by exact ⟨by first | exact rs_pp ga p4_1 ⟨(rs_m (sz_b ga p4_1).1 (rs_pos (rs_nz (rs_ne gb p12_2 cb) nokey_ nokey_ nokey_ nokey_ nokey_ nokey_ nokey_) nokey_ nokey_ nokey_ nokey_ nokey_) nokey_).1, (rs_m (sz_b ga p4_1).1 (rs_pos (rs_nz (rs_ne gb p12_2 cb) nokey_ nokey_ nokey_ nokey_ nokey_ nokey_ nokey_) nokey_ nokey_ nokey_ nokey_ nokey_) nokey_).2.2⟩ | exact rs_pp ga p4_1 ⟨(sz_b ga p4_1).1, Int.le_refl _⟩, by first | exact rsv_3 ga gb cb p4_1 p12_2 c24_3 ev35_10 c38_11 | exact rsv_4 (s4 := 0) (d4 := 0) ga gb cb p4_1 p12_2 c24_3 ev35_10 c38_11 nokey_ nokey_ nokey_ nokey_ (Or.inl nokey_) | exact rsv_4 ga gb cb p4_1 p12_2 c24_3 ev35_10 c38_11 nokey_ nokey_ nokey_ nokey_ (Or.inr ⟨nokey_, nokey_, nokey_⟩) | exact rsv_2 ga gb cb p4_1 p12_2 c24_3 ev35_10 c38_11 nokey_ nokey_ nokey_ nokey_ nokey_ nokey_ nokey_ nokey_ nokey_ nokey_ nokey_⟩)⟩
    · refine z_lload_n (pc := 41) hZ 0 dM_restOfSizes_41 rfl rfl ?_
      refine z_aload_n (pc := 42) hZ 2 dM_restOfSizes_42 rfl rfl ?_
      refine z_get (pc := 43) (ci := 2) hZ 0 rfl rfl uc_M 8 (by decide) (zb fl_M_66) rfl dM_restOfSizes_43 ?_
      refine z_aload_n (pc := 46) hZ 2 dM_restOfSizes_46 rfl rfl ?_
      refine z_get (pc := 47) (ci := 2) hZ 0 rfl rfl uc_M 5 (by decide) (zb fl_M_57) rfl dM_restOfSizes_47 ?_
      refine z_isub (pc := 50) hZ dM_restOfSizes_50 (fun v50_12 ev50_12 => ?_)
      refine z_lshl (pc := 51) hZ dM_restOfSizes_51 (fun v51_13 ev51_13 => ?_)
      refine z_aload_n (pc := 52) hZ 2 dM_restOfSizes_52 rfl rfl ?_
      refine z_get (pc := 53) (ci := 2) hZ 0 rfl rfl uc_M 8 (by decide) (zb fl_M_66) rfl dM_restOfSizes_53 ?_
      refine z_aload_n (pc := 56) hZ 2 dM_restOfSizes_56 rfl rfl ?_
      refine z_get (pc := 57) (ci := 2) hZ 0 rfl rfl uc_M 5 (by decide) (zb fl_M_57) rfl dM_restOfSizes_57 ?_
      refine z_isub (pc := 60) hZ dM_restOfSizes_60 (fun v60_14 ev60_14 => ?_)
      refine z_lshr (pc := 61) hZ dM_restOfSizes_61 (fun v61_15 ev61_15 => ?_)
      refine z_lload_n (pc := 62) hZ 0 dM_restOfSizes_62 rfl rfl ?_
      refine z_lif_ne (pc := 63) hZ 83 dM_restOfSizes_63 dM_restOfSizes_64 (by decide) (fun c64_16 => ?_) (fun c64_16 => ?_)
      · refine z_aload_n (pc := 83) hZ 2 dM_restOfSizes_83 rfl rfl ?_
        refine z_lload_n (pc := 84) hZ 1 dM_restOfSizes_84 rfl rfl ?_
        refine z_put (pc := 85) (ci := 2) hZ 0 rfl rfl uc_M 12 (by decide) (zb fl_M_95) tyM tyM_ok nmM rfl rfl rfl (Nat.le_of_ble_eq_true rfl) dM_restOfSizes_85 ?_
        show Z 0 0 (TY cR c1 c2 c3) (85 + 3) [(3, .long r12_2), (1, .long r4_1), (0, .ref h0)] [] (MW h0 a1 a2 a3 c1 c2 c3 (ka, na, ea, kb, nb, eb, k, n, e, r4_1, scale, K, N, E) ++ Y)
        refine z_goto (pc := 88) hZ 108 dM_restOfSizes_88 (by decide) ?_
        refine z_aload_n (pc := 108) hZ 2 dM_restOfSizes_108 rfl rfl ?_
        refine z_aload_n (pc := 109) hZ 2 dM_restOfSizes_109 rfl rfl ?_
        refine z_get (pc := 110) (ci := 2) hZ 0 rfl rfl uc_M 5 (by decide) (zb fl_M_57) rfl dM_restOfSizes_110 ?_
        refine z_put (pc := 113) (ci := 2) hZ 0 rfl rfl uc_M 13 (by decide) (zb fl_M_98) tyM tyM_ok nmM rfl rfl rfl (Nat.le_of_ble_eq_true rfl) dM_restOfSizes_113 ?_
        show Z 0 0 (TY cR c1 c2 c3) (113 + 3) [(3, .long r12_2), (1, .long r4_1), (0, .ref h0)] [] (MW h0 a1 a2 a3 c1 c2 c3 (ka, na, ea, kb, nb, eb, k, n, e, r4_1, ea, K, N, E) ++ Y)
        exact z_retv (pc := 116) hZ dM_restOfSizes_116 rfl ⟨rfl, _, _, rfl, rfl, (by exact ⟨by first | exact rs_pp ga p4_1 ⟨(rs_m (sz_b ga p4_1).1 (rs_pos (rs_nz (rs_ne gb p12_2 cb) ev50_12 ev51_13 ev60_14 ev61_15 c64_16 nokey_ nokey_) nokey_ nokey_ nokey_ nokey_ nokey_) nokey_).1, (rs_m (sz_b ga p4_1).1 (rs_pos (rs_nz (rs_ne gb p12_2 cb) ev50_12 ev51_13 ev60_14 ev61_15 c64_16 nokey_ nokey_) nokey_ nokey_ nokey_ nokey_ nokey_) nokey_).2.2⟩ | exact rs_pp ga p4_1 ⟨(sz_b ga p4_1).1, Int.le_refl _⟩, by first | exact rsv_3 ga gb cb p4_1 p12_2 c24_3 ev35_10 c38_11 | exact rsv_4 (s4 := 0) (d4 := 0) ga gb cb p4_1 p12_2 c24_3 ev35_10 c38_11 ev50_12 ev51_13 ev60_14 ev61_15 (Or.inl c64_16) | exact rsv_4 ga gb cb p4_1 p12_2 c24_3 ev35_10 c38_11 ev50_12 ev51_13 ev60_14 ev61_15 (Or.inr ⟨nokey_, nokey_, nokey_⟩) | exact rsv_2 ga gb cb p4_1 p12_2 c24_3 ev35_10 c38_11 ev50_12 ev51_13 ev60_14 ev61_15 c64_16 nokey_ nokey_ nokey_ nokey_ nokey_ nokey_⟩)⟩
      · refine z_lload_n (pc := 67) hZ 0 dM_restOfSizes_67 rfl rfl ?_
        refine z_aload_n (pc := 68) hZ 2 dM_restOfSizes_68 rfl rfl ?_
        refine z_get (pc := 69) (ci := 2) hZ 0 rfl rfl uc_M 8 (by decide) (zb fl_M_66) rfl dM_restOfSizes_69 ?_
        refine z_aload_n (pc := 72) hZ 2 dM_restOfSizes_72 rfl rfl ?_
        refine z_get (pc := 73) (ci := 2) hZ 0 rfl rfl uc_M 5 (by decide) (zb fl_M_57) rfl dM_restOfSizes_73 ?_
        refine z_isub (pc := 76) hZ dM_restOfSizes_76 (fun v76_17 ev76_17 => ?_)
        refine z_lshl (pc := 77) hZ dM_restOfSizes_77 (fun v77_18 ev77_18 => ?_)
        refine z_lconst (pc := 78) hZ 0 dM_restOfSizes_78 (by decide) ?_
        refine z_lif_ge (pc := 79) hZ 91 dM_restOfSizes_79 dM_restOfSizes_80 (by decide) (fun c80_19 => ?_) (fun c80_19 => ?_)
        · refine z_aload_n (pc := 91) hZ 2 dM_restOfSizes_91 rfl rfl ?_
          refine z_lload_n (pc := 92) hZ 1 dM_restOfSizes_92 rfl rfl ?_
          refine z_lload_n (pc := 93) hZ 0 dM_restOfSizes_93 rfl rfl ?_
          refine z_aload_n (pc := 94) hZ 2 dM_restOfSizes_94 rfl rfl ?_
          refine z_get (pc := 95) (ci := 2) hZ 0 rfl rfl uc_M 8 (by decide) (zb fl_M_66) rfl dM_restOfSizes_95 ?_
          refine z_aload_n (pc := 98) hZ 2 dM_restOfSizes_98 rfl rfl ?_
          refine z_get (pc := 99) (ci := 2) hZ 0 rfl rfl uc_M 5 (by decide) (zb fl_M_57) rfl dM_restOfSizes_99 ?_
          refine z_isub (pc := 102) hZ dM_restOfSizes_102 (fun v102_20 ev102_20 => ?_)
          refine z_lshl (pc := 103) hZ dM_restOfSizes_103 (fun v103_21 ev103_21 => ?_)
          refine z_lrem (pc := 104) hZ dM_restOfSizes_104 (by exact rs_nz (rs_ne gb p12_2 cb) ev50_12 ev51_13 ev60_14 ev61_15 c64_16 ev102_20 ev103_21) (fun v104_22 ev104_22 => ?_)
          refine z_put (pc := 105) (ci := 2) hZ 0 rfl rfl uc_M 12 (by decide) (zb fl_M_95) tyM tyM_ok nmM rfl rfl rfl (Nat.le_of_ble_eq_true rfl) dM_restOfSizes_105 ?_
          show Z 0 0 (TY cR c1 c2 c3) (105 + 3) [(3, .long r12_2), (1, .long r4_1), (0, .ref h0)] [] (MW h0 a1 a2 a3 c1 c2 c3 (ka, na, ea, kb, nb, eb, k, n, e, v104_22, scale, K, N, E) ++ Y)
          refine z_aload_n (pc := 108) hZ 2 dM_restOfSizes_108 rfl rfl ?_
          refine z_aload_n (pc := 109) hZ 2 dM_restOfSizes_109 rfl rfl ?_
          refine z_get (pc := 110) (ci := 2) hZ 0 rfl rfl uc_M 5 (by decide) (zb fl_M_57) rfl dM_restOfSizes_110 ?_
          refine z_put (pc := 113) (ci := 2) hZ 0 rfl rfl uc_M 13 (by decide) (zb fl_M_98) tyM tyM_ok nmM rfl rfl rfl (Nat.le_of_ble_eq_true rfl) dM_restOfSizes_113 ?_
          show Z 0 0 (TY cR c1 c2 c3) (113 + 3) [(3, .long r12_2), (1, .long r4_1), (0, .ref h0)] [] (MW h0 a1 a2 a3 c1 c2 c3 (ka, na, ea, kb, nb, eb, k, n, e, v104_22, ea, K, N, E) ++ Y)
          exact z_retv (pc := 116) hZ dM_restOfSizes_116 rfl ⟨rfl, _, _, rfl, rfl, (by exact ⟨by first | exact rs_pp ga p4_1 ⟨(rs_m (sz_b ga p4_1).1 (rs_pos (rs_nz (rs_ne gb p12_2 cb) ev50_12 ev51_13 ev60_14 ev61_15 c64_16 ev102_20 ev103_21) ev102_20 ev103_21 ev76_17 ev77_18 c80_19) ev104_22).1, (rs_m (sz_b ga p4_1).1 (rs_pos (rs_nz (rs_ne gb p12_2 cb) ev50_12 ev51_13 ev60_14 ev61_15 c64_16 ev102_20 ev103_21) ev102_20 ev103_21 ev76_17 ev77_18 c80_19) ev104_22).2.2⟩ | exact rs_pp ga p4_1 ⟨(sz_b ga p4_1).1, Int.le_refl _⟩, by first | exact rsv_3 ga gb cb p4_1 p12_2 c24_3 ev35_10 c38_11 | exact rsv_4 (s4 := 0) (d4 := 0) ga gb cb p4_1 p12_2 c24_3 ev35_10 c38_11 ev50_12 ev51_13 ev60_14 ev61_15 (Or.inl c64_16) | exact rsv_4 ga gb cb p4_1 p12_2 c24_3 ev35_10 c38_11 ev50_12 ev51_13 ev60_14 ev61_15 (Or.inr ⟨ev76_17, ev77_18, c80_19⟩) | exact rsv_2 ga gb cb p4_1 p12_2 c24_3 ev35_10 c38_11 ev50_12 ev51_13 ev60_14 ev61_15 c64_16 ev76_17 ev77_18 c80_19 ev102_20 ev103_21 ev104_22⟩)⟩
        · refine z_aload_n (pc := 83) hZ 2 dM_restOfSizes_83 rfl rfl ?_
          refine z_lload_n (pc := 84) hZ 1 dM_restOfSizes_84 rfl rfl ?_
          refine z_put (pc := 85) (ci := 2) hZ 0 rfl rfl uc_M 12 (by decide) (zb fl_M_95) tyM tyM_ok nmM rfl rfl rfl (Nat.le_of_ble_eq_true rfl) dM_restOfSizes_85 ?_
          show Z 0 0 (TY cR c1 c2 c3) (85 + 3) [(3, .long r12_2), (1, .long r4_1), (0, .ref h0)] [] (MW h0 a1 a2 a3 c1 c2 c3 (ka, na, ea, kb, nb, eb, k, n, e, r4_1, scale, K, N, E) ++ Y)
          refine z_goto (pc := 88) hZ 108 dM_restOfSizes_88 (by decide) ?_
          refine z_aload_n (pc := 108) hZ 2 dM_restOfSizes_108 rfl rfl ?_
          refine z_aload_n (pc := 109) hZ 2 dM_restOfSizes_109 rfl rfl ?_
          refine z_get (pc := 110) (ci := 2) hZ 0 rfl rfl uc_M 5 (by decide) (zb fl_M_57) rfl dM_restOfSizes_110 ?_
          refine z_put (pc := 113) (ci := 2) hZ 0 rfl rfl uc_M 13 (by decide) (zb fl_M_98) tyM tyM_ok nmM rfl rfl rfl (Nat.le_of_ble_eq_true rfl) dM_restOfSizes_113 ?_
          show Z 0 0 (TY cR c1 c2 c3) (113 + 3) [(3, .long r12_2), (1, .long r4_1), (0, .ref h0)] [] (MW h0 a1 a2 a3 c1 c2 c3 (ka, na, ea, kb, nb, eb, k, n, e, r4_1, ea, K, N, E) ++ Y)
          exact z_retv (pc := 116) hZ dM_restOfSizes_116 rfl ⟨rfl, _, _, rfl, rfl, (by exact ⟨by first | exact rs_pp ga p4_1 ⟨(rs_m (sz_b ga p4_1).1 (rs_pos (rs_nz (rs_ne gb p12_2 cb) ev50_12 ev51_13 ev60_14 ev61_15 c64_16 nokey_ nokey_) nokey_ nokey_ ev76_17 ev77_18 c80_19) nokey_).1, (rs_m (sz_b ga p4_1).1 (rs_pos (rs_nz (rs_ne gb p12_2 cb) ev50_12 ev51_13 ev60_14 ev61_15 c64_16 nokey_ nokey_) nokey_ nokey_ ev76_17 ev77_18 c80_19) nokey_).2.2⟩ | exact rs_pp ga p4_1 ⟨(sz_b ga p4_1).1, Int.le_refl _⟩, by first | exact rsv_3 ga gb cb p4_1 p12_2 c24_3 ev35_10 c38_11 | exact rsv_4 (s4 := 0) (d4 := 0) ga gb cb p4_1 p12_2 c24_3 ev35_10 c38_11 ev50_12 ev51_13 ev60_14 ev61_15 (Or.inl c64_16) | exact rsv_4 ga gb cb p4_1 p12_2 c24_3 ev35_10 c38_11 ev50_12 ev51_13 ev60_14 ev61_15 (Or.inr ⟨ev76_17, ev77_18, c80_19⟩) | exact rsv_2 ga gb cb p4_1 p12_2 c24_3 ev35_10 c38_11 ev50_12 ev51_13 ev60_14 ev61_15 c64_16 ev76_17 ev77_18 c80_19 nokey_ nokey_ nokey_⟩)⟩
set_option maxHeartbeats 4000000 in
set_option maxRecDepth 100000 in
theorem cM_addNumbers (l : Launch) (D : va_G) (cR c1 c2 c3 : ClassId) (h0 a1 a2 a3 : Nat) (Y : va_W) (ka : Int32) (na : Int64) (ea : Int32) (kb : Int32) (nb : Int64) (eb : Int32) (k : Int32) (n : Int64) (e : Int32) (bits : Int64) (scale : Int32) (K : Nat → Int32) (N : Nat → Int64) (E : Nat → Int32) (ga : GR na ea) (gb : GR nb eb) : zM l D vwCl zNF zNM yM_addNumbers wsM_addNumbers { frames := 2, cells := 0, slots := 0, locals := 57 } [.ref h0] (MW h0 a1 a2 a3 c1 c2 c3 (ka, na, ea, kb, nb, eb, k, n, e, bits, scale, K, N, E) ++ Y) (TY cR c1 c2 c3) (qV (fun w' tys' => ∃ k' : Int32, ∃ n' : Int64, ∃ e' : Int32, MW h0 a1 a2 a3 c1 c2 c3 (ka, na, ea, kb, nb, eb, k', n', e', bits, scale, K, N, E) ++ Y = w' ∧ (TY cR c1 c2 c3) = tys' ∧ (RK k' n' e' ∧ MA k' n' e' (addR (.inr (.inl (sc na.toInt ea.toInt))) (.inr (.inl (sc nb.toInt eb.toInt))))))) := by
  refine z_met (cc := bM_addNumbers) (maxL := 19) (ret := none) (isI := false) (own := RM) (by decide +kernel) rfl rfl (fun h => by cases h) (Nat.le_of_ble_eq_true rfl) (fun Z hZ => ?_)
  show Z 0 0 (TY cR c1 c2 c3) 0 [(0, .ref h0)] [] (MW h0 a1 a2 a3 c1 c2 c3 (ka, na, ea, kb, nb, eb, k, n, e, bits, scale, K, N, E) ++ Y)
  refine z_aload_n (pc := 0) hZ 0 dM_addNumbers_0 rfl rfl ?_
  refine z_get (pc := 1) (ci := 2) hZ 0 rfl rfl uc_M 4 (by decide) (zb fl_M_54) rfl dM_addNumbers_1 ?_
  refine z_lconst (pc := 4) hZ 0 dM_addNumbers_4 (by decide) ?_
  refine z_lif_eq (pc := 5) hZ 18 dM_addNumbers_5 dM_addNumbers_6 (by decide) (fun c6_1 => ?_) (fun c6_1 => ?_)
  · refine z_aload_n (pc := 18) hZ 0 dM_addNumbers_18 rfl rfl ?_
    refine z_get (pc := 19) (ci := 2) hZ 0 rfl rfl uc_M 4 (by decide) (zb fl_M_54) rfl dM_addNumbers_19 ?_
    refine z_lconst (pc := 22) hZ 0 dM_addNumbers_22 (by decide) ?_
    refine z_lif_ne (pc := 23) hZ 42 dM_addNumbers_23 dM_addNumbers_24 (by decide) (fun c9 => False.elim (by first | exact absurd c9 c6_1 | exact absurd c6_1 c9 | exact absurd c9 (Int64.not_lt.mpr c6_1) | exact absurd c9 (Int64.not_le.mpr c6_1) | exact c9 ((Int64.not_lt).mp c6_1) | exact c9 ((Int64.not_le).mp c6_1))) (fun c24 => ?_)
    refine z_aload_n (pc := 27) hZ 0 dM_addNumbers_27 rfl rfl ?_
    refine z_aload_n (pc := 28) hZ 0 dM_addNumbers_28 rfl rfl ?_
    refine z_get (pc := 29) (ci := 2) hZ 0 rfl rfl uc_M 7 (by decide) (zb fl_M_63) rfl dM_addNumbers_29 ?_
    refine z_aload_n (pc := 32) hZ 0 dM_addNumbers_32 rfl rfl ?_
    refine z_get (pc := 33) (ci := 2) hZ 0 rfl rfl uc_M 8 (by decide) (zb fl_M_66) rfl dM_addNumbers_33 ?_
    refine z_callV (pc := 36) (As := [.long nb, .int eb]) (rest := []) hZ (cM_plain l D cR c1 c2 c3 h0 a1 a2 a3 Y ka na ea kb nb eb k n e bits scale K N E nb eb (by exact GR_PP gb)) zyM_plain (z_goodV ml_M_31 im_M_plain se_M_plain in_M co_M_plain) 0 rfl rfl rfl rfl (by decide) rfl rfl (Nat.le_of_ble_eq_true rfl) ⟨Nat.zero_le _, Nat.zero_le _⟩ dM_addNumbers_36 (z_kv (fun w1 tys1 hp => ?_))
    obtain ⟨k36_2, n36_2, e36_2, rfl, rfl, p36_2⟩ := hp
    refine z_goto (pc := 39) hZ 54 dM_addNumbers_39 (by decide) ?_
    exact z_retv (pc := 54) hZ dM_addNumbers_54 rfl ⟨rfl, _, _, _, rfl, rfl, (by first | exact ⟨RK_of (p36_2).1, ad_z1 c6_1 (p36_2).1 (p36_2).2.2⟩ | exact ⟨RK_of (p36_2).1, ad_z1 c24 (p36_2).1 (p36_2).2.2⟩ | exact ⟨RK_of (nokey_).1, ad_z2 c6_1 nokey_ (nokey_).1 (nokey_).2.2⟩)⟩
  · refine z_aload_n (pc := 9) hZ 0 dM_addNumbers_9 rfl rfl ?_
    refine z_get (pc := 10) (ci := 2) hZ 0 rfl rfl uc_M 7 (by decide) (zb fl_M_63) rfl dM_addNumbers_10 ?_
    refine z_lconst (pc := 13) hZ 0 dM_addNumbers_13 (by decide) ?_
    refine z_lif_ne (pc := 14) hZ 55 dM_addNumbers_14 dM_addNumbers_15 (by decide) (fun c15_3 => ?_) (fun c15_3 => ?_)
    · refine z_aload_n (pc := 55) hZ 0 dM_addNumbers_55 rfl rfl ?_
      refine z_get (pc := 56) (ci := 2) hZ 0 rfl rfl uc_M 4 (by decide) (zb fl_M_54) rfl dM_addNumbers_56 ?_
      refine z_callS (pc := 59) (As := [.long na]) (rest := []) hZ (cM_size l D (TY cR c1 c2 c3) (MW h0 a1 a2 a3 c1 c2 c3 (ka, na, ea, kb, nb, eb, k, n, e, bits, scale, K, N, E) ++ Y) na) zyM_size (z_goodS ml_M_47 st_M_size in_M co_M_size) rfl rfl (by decide) rfl rfl (Nat.le_of_ble_eq_true rfl) ⟨Nat.zero_le _, Nat.zero_le _⟩ dM_addNumbers_59 (z_kl (fun r59_4 w1 tys1 hp => ?_))
      obtain ⟨rfl, rfl, p59_4⟩ := hp
      refine z_callS (pc := 62) (As := [.long r59_4]) (rest := []) hZ (cM_room l D (TY cR c1 c2 c3) (MW h0 a1 a2 a3 c1 c2 c3 (ka, na, ea, kb, nb, eb, k, n, e, bits, scale, K, N, E) ++ Y) r59_4 (by exact (sz_0 ga p59_4 c6_1).1) (by exact (sz_0 ga p59_4 c6_1).2)) zyM_room (z_goodS ml_M_78 st_M_room in_M co_M_room) rfl rfl (by decide) rfl rfl (Nat.le_of_ble_eq_true rfl) ⟨Nat.zero_le _, Nat.zero_le _⟩ dM_addNumbers_62 (z_ki (fun r62_5 w1 tys1 hp => ?_))
      obtain ⟨rfl, rfl, p62_5⟩ := hp
      refine z_istore_n (pc := 65) hZ [(1, .int r62_5), (0, .ref h0)] dM_addNumbers_65 rfl (by decide) rfl ?_
      refine z_aload_n (pc := 66) hZ 1 dM_addNumbers_66 rfl rfl ?_
      refine z_get (pc := 67) (ci := 2) hZ 0 rfl rfl uc_M 7 (by decide) (zb fl_M_63) rfl dM_addNumbers_67 ?_
      refine z_callS (pc := 70) (As := [.long nb]) (rest := []) hZ (cM_size l D (TY cR c1 c2 c3) (MW h0 a1 a2 a3 c1 c2 c3 (ka, na, ea, kb, nb, eb, k, n, e, bits, scale, K, N, E) ++ Y) nb) zyM_size (z_goodS ml_M_47 st_M_size in_M co_M_size) rfl rfl (by decide) rfl rfl (Nat.le_of_ble_eq_true rfl) ⟨Nat.zero_le _, Nat.zero_le _⟩ dM_addNumbers_70 (z_kl (fun r70_6 w1 tys1 hp => ?_))
      obtain ⟨rfl, rfl, p70_6⟩ := hp
      refine z_callS (pc := 73) (As := [.long r70_6]) (rest := []) hZ (cM_room l D (TY cR c1 c2 c3) (MW h0 a1 a2 a3 c1 c2 c3 (ka, na, ea, kb, nb, eb, k, n, e, bits, scale, K, N, E) ++ Y) r70_6 (by exact (sz_0 gb p70_6 c15_3).1) (by exact (sz_0 gb p70_6 c15_3).2)) zyM_room (z_goodS ml_M_78 st_M_room in_M co_M_room) rfl rfl (by decide) rfl rfl (Nat.le_of_ble_eq_true rfl) ⟨Nat.zero_le _, Nat.zero_le _⟩ dM_addNumbers_73 (z_ki (fun r73_7 w1 tys1 hp => ?_))
      obtain ⟨rfl, rfl, p73_7⟩ := hp
      refine z_istore_n (pc := 76) hZ [(2, .int r73_7), (1, .int r62_5), (0, .ref h0)] dM_addNumbers_76 rfl (by decide) rfl ?_
      refine z_aload_n (pc := 77) hZ 2 dM_addNumbers_77 rfl rfl ?_
      refine z_get (pc := 78) (ci := 2) hZ 0 rfl rfl uc_M 4 (by decide) (zb fl_M_54) rfl dM_addNumbers_78 ?_
      refine z_callS (pc := 81) (As := [.long na]) (rest := []) hZ (cM_size l D (TY cR c1 c2 c3) (MW h0 a1 a2 a3 c1 c2 c3 (ka, na, ea, kb, nb, eb, k, n, e, bits, scale, K, N, E) ++ Y) na) zyM_size (z_goodS ml_M_47 st_M_size in_M co_M_size) rfl rfl (by decide) rfl rfl (Nat.le_of_ble_eq_true rfl) ⟨Nat.zero_le _, Nat.zero_le _⟩ dM_addNumbers_81 (z_kl (fun r81_8 w1 tys1 hp => ?_))
      obtain ⟨rfl, rfl, p81_8⟩ := hp
      refine z_iload_n (pc := 84) hZ 1 dM_addNumbers_84 rfl rfl ?_
      refine z_lshl (pc := 85) hZ dM_addNumbers_85 (fun v85_9 ev85_9 => ?_)
      have A1 := ad_a ga c6_1 p59_4 p62_5 p81_8 ev85_9
      refine z_lstore_n (pc := 86) hZ [(3, .long v85_9), (2, .int r73_7), (1, .int r62_5), (0, .ref h0)] dM_addNumbers_86 rfl (by decide) rfl ?_
      refine z_aload_n (pc := 87) hZ 3 dM_addNumbers_87 rfl rfl ?_
      refine z_get (pc := 88) (ci := 2) hZ 0 rfl rfl uc_M 7 (by decide) (zb fl_M_63) rfl dM_addNumbers_88 ?_
      refine z_callS (pc := 91) (As := [.long nb]) (rest := []) hZ (cM_size l D (TY cR c1 c2 c3) (MW h0 a1 a2 a3 c1 c2 c3 (ka, na, ea, kb, nb, eb, k, n, e, bits, scale, K, N, E) ++ Y) nb) zyM_size (z_goodS ml_M_47 st_M_size in_M co_M_size) rfl rfl (by decide) rfl rfl (Nat.le_of_ble_eq_true rfl) ⟨Nat.zero_le _, Nat.zero_le _⟩ dM_addNumbers_91 (z_kl (fun r91_10 w1 tys1 hp => ?_))
      obtain ⟨rfl, rfl, p91_10⟩ := hp
      refine z_iload_n (pc := 94) hZ 1 dM_addNumbers_94 rfl rfl ?_
      refine z_lshl (pc := 95) hZ dM_addNumbers_95 (fun v95_11 ev95_11 => ?_)
      have A2 := ad_a gb c15_3 p70_6 p73_7 p91_10 ev95_11
      refine z_lstore (pc := 96) hZ [(5, .long v95_11), (3, .long v85_9), (2, .int r73_7), (1, .int r62_5), (0, .ref h0)] dM_addNumbers_96 (by decide) rfl ?_
      refine z_aload_n (pc := 98) hZ 4 dM_addNumbers_98 rfl rfl ?_
      refine z_get (pc := 99) (ci := 2) hZ 0 rfl rfl uc_M 5 (by decide) (zb fl_M_57) rfl dM_addNumbers_99 ?_
      refine z_iload_n (pc := 102) hZ 3 dM_addNumbers_102 rfl rfl ?_
      refine z_isub (pc := 103) hZ dM_addNumbers_103 (fun v103_12 ev103_12 => ?_)
      have X1 := ad_x ga p62_5 ev103_12
      refine z_istore (pc := 104) hZ [(7, .int v103_12), (5, .long v95_11), (3, .long v85_9), (2, .int r73_7), (1, .int r62_5), (0, .ref h0)] dM_addNumbers_104 (by decide) rfl ?_
      refine z_aload_n (pc := 106) hZ 5 dM_addNumbers_106 rfl rfl ?_
      refine z_get (pc := 107) (ci := 2) hZ 0 rfl rfl uc_M 8 (by decide) (zb fl_M_66) rfl dM_addNumbers_107 ?_
      refine z_iload_n (pc := 110) hZ 3 dM_addNumbers_110 rfl rfl ?_
      refine z_isub (pc := 111) hZ dM_addNumbers_111 (fun v111_13 ev111_13 => ?_)
      have X2 := ad_x gb p73_7 ev111_13
      refine z_istore (pc := 112) hZ [(8, .int v111_13), (7, .int v103_12), (5, .long v95_11), (3, .long v85_9), (2, .int r73_7), (1, .int r62_5), (0, .ref h0)] dM_addNumbers_112 (by decide) rfl ?_
      refine z_iload (pc := 114) hZ 0 dM_addNumbers_114 rfl ?_
      refine z_iload (pc := 116) hZ 1 dM_addNumbers_116 rfl ?_
      refine z_icmp_gt (pc := 118) hZ 135 dM_addNumbers_118 (by decide) (fun c118_14 => ?_) (fun c118_14 => ?_)
      · have SW : SWP v103_12 v111_13 v85_9 v95_11 := by first | exact sw_2 nokey_ nokey_ | exact sw_1 c118_14
        have FG := (adv_of gb c15_3 p70_6 p73_7 p91_10 ev95_11 ev111_13)
        have FS := (adv_of ga c6_1 p59_4 p62_5 p81_8 ev85_9 ev103_12)
        have GX := X2
        have SX := X1
        have G0 := (sc_n0 (e := eb) c15_3)
        have T0 := (sc_n0 (e := ea) c6_1)
        have LE := adv_le (y := 0) FG FS SX.1 GX.1 SW
        have CM : (sc nb.toInt eb.toInt + sc na.toInt ea.toInt).natAbs = (sc na.toInt ea.toInt + sc nb.toInt eb.toInt).natAbs := by rw [Int.add_comm]
        have SC : (sc na.toInt ea.toInt).sign = (sc nb.toInt eb.toInt).sign → (sc nb.toInt eb.toInt).sign = (sc na.toInt ea.toInt).sign := Eq.symm
        have SD : (sc nb.toInt eb.toInt).sign = (sc na.toInt ea.toInt).sign → (sc na.toInt ea.toInt).sign = (sc nb.toInt eb.toInt).sign := Eq.symm
        have HP : ∀ p : Int32, bb p = decide (sc nb.toInt eb.toInt < 0) → (bb p = decide (sc na.toInt ea.toInt < 0) ∧ (sc nb.toInt eb.toInt).natAbs ≤ (sc na.toInt ea.toInt).natAbs) ∨ (bb p = decide (sc nb.toInt eb.toInt < 0) ∧ (sc na.toInt ea.toInt).natAbs ≤ (sc nb.toInt eb.toInt).natAbs) := fun p h => Or.inr ⟨h, LE⟩
        refine z_iconst (pc := 135) hZ 1 dM_addNumbers_135 (by decide) ?_
        refine z_goto (pc := 136) hZ 140 dM_addNumbers_136 (by decide) ?_
        refine z_istore (pc := 140) hZ [(9, .int 1), (8, .int v111_13), (7, .int v103_12), (5, .long v95_11), (3, .long v85_9), (2, .int r73_7), (1, .int r62_5), (0, .ref h0)] dM_addNumbers_140 (by decide) rfl ?_
        refine z_iload (pc := 142) hZ 0 dM_addNumbers_142 rfl ?_
        refine z_if_eq (pc := 144) hZ 152 dM_addNumbers_144 (by decide) (fun c9 => False.elim (absurd c9 (by decide))) (fun c144 => ?_)
        refine z_lload (pc := 147) hZ 3 dM_addNumbers_147 rfl ?_
        refine z_goto (pc := 149) hZ 153 dM_addNumbers_149 (by decide) ?_
        refine z_lstore (pc := 153) hZ [(10, .long v95_11), (9, .int 1), (8, .int v111_13), (7, .int v103_12), (5, .long v95_11), (3, .long v85_9), (2, .int r73_7), (1, .int r62_5), (0, .ref h0)] dM_addNumbers_153 (by decide) rfl ?_
        refine z_iload (pc := 155) hZ 1 dM_addNumbers_155 rfl ?_
        refine z_if_eq (pc := 157) hZ 164 dM_addNumbers_157 (by decide) (fun c9 => False.elim (absurd c9 (by decide))) (fun c157 => ?_)
        refine z_lload_n (pc := 160) hZ 5 dM_addNumbers_160 rfl rfl ?_
        refine z_goto (pc := 161) hZ 166 dM_addNumbers_161 (by decide) ?_
        refine z_lstore (pc := 166) hZ [(12, .long v85_9), (10, .long v95_11), (9, .int 1), (8, .int v111_13), (7, .int v103_12), (5, .long v95_11), (3, .long v85_9), (2, .int r73_7), (1, .int r62_5), (0, .ref h0)] dM_addNumbers_166 (by decide) rfl ?_
        refine z_iload (pc := 168) hZ 2 dM_addNumbers_168 rfl ?_
        refine z_if_eq (pc := 170) hZ 178 dM_addNumbers_170 (by decide) (fun c9 => False.elim (absurd c9 (by decide))) (fun c170 => ?_)
        refine z_iload (pc := 173) hZ 3 dM_addNumbers_173 rfl ?_
        refine z_goto (pc := 175) hZ 180 dM_addNumbers_175 (by decide) ?_
        refine z_istore (pc := 180) hZ [(14, .int v111_13), (12, .long v85_9), (10, .long v95_11), (9, .int 1), (8, .int v111_13), (7, .int v103_12), (5, .long v95_11), (3, .long v85_9), (2, .int r73_7), (1, .int r62_5), (0, .ref h0)] dM_addNumbers_180 (by decide) rfl ?_
        refine z_iload (pc := 182) hZ 3 dM_addNumbers_182 rfl ?_
        refine z_if_eq (pc := 184) hZ 195 dM_addNumbers_184 (by decide) (fun c9 => False.elim (absurd c9 (by decide))) (fun c184 => ?_)
        refine z_iload (pc := 187) hZ 4 dM_addNumbers_187 rfl ?_
        refine z_iload (pc := 189) hZ 5 dM_addNumbers_189 rfl ?_
        refine z_isub (pc := 191) hZ dM_addNumbers_191 (fun v191_15 ev191_15 => ?_)
        have BY := ad_by X2 X1 ev191_15
        have BB := sw_b X1 X2 SW BY
        have GG := A2
        refine z_goto (pc := 192) hZ 200 dM_addNumbers_192 (by decide) ?_
        first | (have BY := ad_by X1 X2 nokey_) | skip
        first | (have BB := sw_b X2 X1 SW BY) | skip
        first | (have GG := A1) | skip
        refine z_istore (pc := 200) hZ [(15, .int v191_15), (14, .int v111_13), (12, .long v85_9), (10, .long v95_11), (9, .int 1), (8, .int v111_13), (7, .int v103_12), (5, .long v95_11), (3, .long v85_9), (2, .int r73_7), (1, .int r62_5), (0, .ref h0)] dM_addNumbers_200 (by decide) rfl ?_
        refine z_iload (pc := 202) hZ 4 dM_addNumbers_202 rfl ?_
        refine z_if_eq (pc := 204) hZ 224 dM_addNumbers_204 (by decide) (fun c9 => False.elim (absurd c9 (by decide))) (fun c204 => ?_)
        refine z_aload_n (pc := 207) hZ 11 dM_addNumbers_207 rfl rfl ?_
        refine z_get (pc := 208) (ci := 2) hZ 0 rfl rfl uc_M 7 (by decide) (zb fl_M_63) rfl dM_addNumbers_208 ?_
        refine z_lconst (pc := 211) hZ 0 dM_addNumbers_211 (by decide) ?_
        refine z_lif_ge (pc := 212) hZ 220 dM_addNumbers_212 dM_addNumbers_213 (by decide) (fun c213_16 => ?_) (fun c213_16 => ?_)
        · have LS := HP 0 (sn_p c213_16)
          refine z_iconst (pc := 220) hZ 0 dM_addNumbers_220 (by decide) ?_
          refine z_goto (pc := 221) hZ 238 dM_addNumbers_221 (by decide) ?_
          refine z_istore (pc := 238) hZ [(16, .int 0), (15, .int v191_15), (14, .int v111_13), (12, .long v85_9), (10, .long v95_11), (9, .int 1), (8, .int v111_13), (7, .int v103_12), (5, .long v95_11), (3, .long v85_9), (2, .int r73_7), (1, .int r62_5), (0, .ref h0)] dM_addNumbers_238 (by decide) rfl ?_
          refine z_aload_n (pc := 240) hZ 12 dM_addNumbers_240 rfl rfl ?_
          refine z_get (pc := 241) (ci := 2) hZ 0 rfl rfl uc_M 4 (by decide) (zb fl_M_54) rfl dM_addNumbers_241 ?_
          refine z_lconst (pc := 244) hZ 0 dM_addNumbers_244 (by decide) ?_
          refine z_lif_ge (pc := 245) hZ 253 dM_addNumbers_245 dM_addNumbers_246 (by decide) (fun c246_17 => ?_) (fun c246_17 => ?_)
          · refine z_iconst (pc := 253) hZ 0 dM_addNumbers_253 (by decide) ?_
            refine z_aload_n (pc := 254) hZ 12 dM_addNumbers_254 rfl rfl ?_
            refine z_get (pc := 255) (ci := 2) hZ 0 rfl rfl uc_M 7 (by decide) (zb fl_M_63) rfl dM_addNumbers_255 ?_
            refine z_lconst (pc := 258) hZ 0 dM_addNumbers_258 (by decide) ?_
            refine z_lif_ge (pc := 259) hZ 267 dM_addNumbers_259 dM_addNumbers_260 (by decide) (fun c260 => ?_) (fun c9 => False.elim (by first | exact absurd c9 c213_16 | exact absurd c213_16 c9 | exact absurd c9 (Int64.not_lt.mpr c213_16) | exact absurd c9 (Int64.not_le.mpr c213_16) | exact c9 ((Int64.not_lt).mp c213_16) | exact c9 ((Int64.not_le).mp c213_16)))
            refine z_iconst (pc := 267) hZ 0 dM_addNumbers_267 (by decide) ?_
            refine z_icmp_ne (pc := 268) hZ 290 dM_addNumbers_268 (by decide) (fun c9 => False.elim (absurd c9 (by decide))) (fun c268 => ?_)
            have SS : (sc na.toInt ea.toInt).sign = (sc nb.toInt eb.toInt).sign := by first | exact sg_pp c246_17 c260 c6_1 c15_3 | exact sg_mm c246_17 c260
            refine z_lload (pc := 271) hZ 4 dM_addNumbers_271 rfl ?_
            refine z_iconst (pc := 273) hZ 1 dM_addNumbers_273 (by decide) ?_
            refine z_callS (pc := 274) (As := [.long v95_11, .int 1]) (rest := []) hZ (cM_down l D (TY cR c1 c2 c3) (MW h0 a1 a2 a3 c1 c2 c3 (ka, na, ea, kb, nb, eb, k, n, e, bits, scale, K, N, E) ++ Y) v95_11 1 (by have := A1; have := A2; omega) (by have := A1; have := A2; omega) (by decide)) zyM_down (z_goodS ml_M_82 st_M_down in_M co_M_down) rfl rfl (by decide) rfl rfl (Nat.le_of_ble_eq_true rfl) ⟨Nat.zero_le _, Nat.zero_le _⟩ dM_addNumbers_274 (z_kl (fun r274_18 w1 tys1 hp => ?_))
            obtain ⟨rfl, rfl, p274_18⟩ := hp
            refine z_lload (pc := 277) hZ 3 dM_addNumbers_277 rfl ?_
            refine z_iload (pc := 279) hZ 1 dM_addNumbers_279 rfl ?_
            refine z_iconst (pc := 281) hZ 1 dM_addNumbers_281 (by decide) ?_
            refine z_iadd (pc := 282) hZ dM_addNumbers_282 (fun v282_19 ev282_19 => ?_)
            have B1 := ad_1 BB ev282_19
            refine z_callS (pc := 283) (As := [.long v85_9, .int v282_19]) (rest := [.long r274_18]) hZ (cM_down l D (TY cR c1 c2 c3) (MW h0 a1 a2 a3 c1 c2 c3 (ka, na, ea, kb, nb, eb, k, n, e, bits, scale, K, N, E) ++ Y) v85_9 v282_19 (by have := A1; have := A2; omega) (by have := A1; have := A2; omega) (by omega)) zyM_down (z_goodS ml_M_82 st_M_down in_M co_M_down) rfl rfl (by decide) rfl rfl (Nat.le_of_ble_eq_true rfl) ⟨Nat.zero_le _, Nat.zero_le _⟩ dM_addNumbers_283 (z_kl (fun r283_20 w1 tys1 hp => ?_))
            obtain ⟨rfl, rfl, p283_20⟩ := hp
            have BD1 : 0 ≤ r274_18.toInt ∧ r274_18.toInt < 2305843009213693952 := ⟨(p274_18).1.1, (p274_18).1.2.2 (by decide)⟩
            have BD2 : 0 ≤ r283_20.toInt ∧ r283_20.toInt < 2305843009213693952 := ⟨(p283_20).1.1, (p283_20).1.2.2 B1⟩
            refine z_ladd (pc := 286) hZ dM_addNumbers_286 (fun v286_21 ev286_21 => ?_)
            refine z_goto (pc := 287) hZ 300 dM_addNumbers_287 (by decide) ?_
            have SZ : 0 ≤ v286_21.toInt ∧ v286_21.toInt < 4611686018427387904 := by first | exact ad_s1 ((p274_18).1) ((p283_20).1) B1 ev286_21 | exact ad_s2 A1 SW BY ((nokey_).1) nokey_ | exact ad_s2 A2 SW BY ((nokey_).1) nokey_
            refine z_lstore (pc := 300) hZ [(17, .long v286_21), (16, .int 0), (15, .int v191_15), (14, .int v111_13), (12, .long v85_9), (10, .long v95_11), (9, .int 1), (8, .int v111_13), (7, .int v103_12), (5, .long v95_11), (3, .long v85_9), (2, .int r73_7), (1, .int r62_5), (0, .ref h0)] dM_addNumbers_300 (by decide) rfl ?_
            refine z_aload_n (pc := 302) hZ 13 dM_addNumbers_302 rfl rfl ?_
            refine z_lload (pc := 303) hZ 0 dM_addNumbers_303 rfl ?_
            refine z_aload_n (pc := 305) hZ 13 dM_addNumbers_305 rfl rfl ?_
            refine z_get (pc := 306) (ci := 2) hZ 0 rfl rfl uc_M 4 (by decide) (zb fl_M_54) rfl dM_addNumbers_306 ?_
            refine z_lconst (pc := 309) hZ 0 dM_addNumbers_309 (by decide) ?_
            refine z_lif_ge (pc := 310) hZ 318 dM_addNumbers_310 dM_addNumbers_311 (by decide) (fun c311 => ?_) (fun c9 => False.elim (by first | exact absurd c9 c246_17 | exact absurd c246_17 c9 | exact absurd c9 (Int64.not_lt.mpr c246_17) | exact absurd c9 (Int64.not_le.mpr c246_17) | exact c9 ((Int64.not_lt).mp c246_17) | exact c9 ((Int64.not_le).mp c246_17)))
            refine z_iconst (pc := 318) hZ 0 dM_addNumbers_318 (by decide) ?_
            refine z_aload_n (pc := 319) hZ 13 dM_addNumbers_319 rfl rfl ?_
            refine z_get (pc := 320) (ci := 2) hZ 0 rfl rfl uc_M 7 (by decide) (zb fl_M_63) rfl dM_addNumbers_320 ?_
            refine z_lconst (pc := 323) hZ 0 dM_addNumbers_323 (by decide) ?_
            refine z_lif_ge (pc := 324) hZ 332 dM_addNumbers_324 dM_addNumbers_325 (by decide) (fun c325 => ?_) (fun c9 => False.elim (by first | exact absurd c9 c213_16 | exact absurd c213_16 c9 | exact absurd c9 (Int64.not_lt.mpr c213_16) | exact absurd c9 (Int64.not_le.mpr c213_16) | exact c9 ((Int64.not_lt).mp c213_16) | exact c9 ((Int64.not_le).mp c213_16)))
            refine z_iconst (pc := 332) hZ 0 dM_addNumbers_332 (by decide) ?_
            refine z_icmp_ne (pc := 333) hZ 343 dM_addNumbers_333 (by decide) (fun c9 => False.elim (absurd c9 (by decide))) (fun c333 => ?_)
            refine z_iload (pc := 336) hZ 3 dM_addNumbers_336 rfl ?_
            refine z_iconst (pc := 338) hZ 1 dM_addNumbers_338 (by decide) ?_
            refine z_iadd (pc := 339) hZ dM_addNumbers_339 (fun v339_22 ev339_22 => ?_)
            refine z_goto (pc := 340) hZ 345 dM_addNumbers_340 (by decide) ?_
            have RR : RT (v286_21.toInt.toNat * 2 ^ (v339_22.toInt + (OFF : Int)).toNat) false = RT (sc na.toInt ea.toInt + sc nb.toInt eb.toInt).natAbs false := by first | exact (adn_s FG FS SX.1 BY BB GX (p274_18).2 ev282_19 (p283_20).2 BD1 BD2 ev286_21 ev339_22 (SC SS) G0 T0).trans (congrArg (fun z => RT z false) CM) | exact (adn_d FG FS SX.1 BY BB GX SW (nokey_).1 (nokey_).2 nokey_ (fun q => SS (SD q)) G0 T0).trans (congrArg (fun z => RT z false) CM)
            refine z_iload (pc := 345) hZ 1 dM_addNumbers_345 rfl ?_
            refine z_callV (pc := 347) (As := [.long v286_21, .int v339_22, .int 0]) (rest := []) hZ (cM_nearest l D cR c1 c2 c3 h0 a1 a2 a3 Y ka na ea kb nb eb k n e bits scale K N E v286_21 v339_22 0 (by exact SZ.1) (by exact SZ.2) (by first | exact ad_e X1 ev339_22 | exact ad_e X2 ev339_22 | (have := X1; have := X2; omega))) zyM_nearest (z_goodV ml_M_43 im_M_nearest se_M_nearest in_M co_M_nearest) 0 rfl rfl rfl rfl (by decide) rfl rfl (Nat.le_of_ble_eq_true rfl) ⟨Nat.zero_le _, Nat.zero_le _⟩ dM_addNumbers_347 (z_kv (fun w1 tys1 hp => ?_))
            obtain ⟨k347_23, n347_23, e347_23, rfl, rfl, p347_23⟩ := hp
            exact z_retv (pc := 350) hZ dM_addNumbers_350 rfl ⟨rfl, _, _, _, rfl, rfl, (by exact ⟨((p347_23).1.1), ad_fin _ (sc_n0 (e := ea) c6_1) (sc_n0 (e := eb) c15_3) RR LS (p347_23).2.2⟩)⟩
          · refine z_iconst (pc := 249) hZ 1 dM_addNumbers_249 (by decide) ?_
            refine z_goto (pc := 250) hZ 254 dM_addNumbers_250 (by decide) ?_
            refine z_aload_n (pc := 254) hZ 12 dM_addNumbers_254 rfl rfl ?_
            refine z_get (pc := 255) (ci := 2) hZ 0 rfl rfl uc_M 7 (by decide) (zb fl_M_63) rfl dM_addNumbers_255 ?_
            refine z_lconst (pc := 258) hZ 0 dM_addNumbers_258 (by decide) ?_
            refine z_lif_ge (pc := 259) hZ 267 dM_addNumbers_259 dM_addNumbers_260 (by decide) (fun c260 => ?_) (fun c9 => False.elim (by first | exact absurd c9 c213_16 | exact absurd c213_16 c9 | exact absurd c9 (Int64.not_lt.mpr c213_16) | exact absurd c9 (Int64.not_le.mpr c213_16) | exact c9 ((Int64.not_lt).mp c213_16) | exact c9 ((Int64.not_le).mp c213_16)))
            refine z_iconst (pc := 267) hZ 0 dM_addNumbers_267 (by decide) ?_
            refine z_icmp_ne (pc := 268) hZ 290 dM_addNumbers_268 (by decide) (fun c268 => ?_) (fun c9 => False.elim (absurd c9 (by decide)))
            have SS : ¬ (sc na.toInt ea.toInt).sign = (sc nb.toInt eb.toInt).sign := by first | exact sg_pm c246_17 c260 | exact sg_mp c246_17 c260
            refine z_lload (pc := 290) hZ 4 dM_addNumbers_290 rfl ?_
            refine z_lload (pc := 292) hZ 3 dM_addNumbers_292 rfl ?_
            refine z_iload (pc := 294) hZ 1 dM_addNumbers_294 rfl ?_
            refine z_callS (pc := 296) (As := [.long v85_9, .int v191_15]) (rest := [.long v95_11]) hZ (cM_down l D (TY cR c1 c2 c3) (MW h0 a1 a2 a3 c1 c2 c3 (ka, na, ea, kb, nb, eb, k, n, e, bits, scale, K, N, E) ++ Y) v85_9 v191_15 (by have := A1; have := A2; omega) (by have := A1; have := A2; omega) (by omega)) zyM_down (z_goodS ml_M_82 st_M_down in_M co_M_down) rfl rfl (by decide) rfl rfl (Nat.le_of_ble_eq_true rfl) ⟨Nat.zero_le _, Nat.zero_le _⟩ dM_addNumbers_296 (z_kl (fun r296_24 w1 tys1 hp => ?_))
            obtain ⟨rfl, rfl, p296_24⟩ := hp
            refine z_lsub (pc := 299) hZ dM_addNumbers_299 (fun v299_25 ev299_25 => ?_)
            have SZ : 0 ≤ v299_25.toInt ∧ v299_25.toInt < 4611686018427387904 := by first | exact ad_s1 ((nokey_).1) ((nokey_).1) B1 nokey_ | exact ad_s2 A1 SW BY ((p296_24).1) ev299_25 | exact ad_s2 A2 SW BY ((p296_24).1) ev299_25
            refine z_lstore (pc := 300) hZ [(17, .long v299_25), (16, .int 0), (15, .int v191_15), (14, .int v111_13), (12, .long v85_9), (10, .long v95_11), (9, .int 1), (8, .int v111_13), (7, .int v103_12), (5, .long v95_11), (3, .long v85_9), (2, .int r73_7), (1, .int r62_5), (0, .ref h0)] dM_addNumbers_300 (by decide) rfl ?_
            refine z_aload_n (pc := 302) hZ 13 dM_addNumbers_302 rfl rfl ?_
            refine z_lload (pc := 303) hZ 0 dM_addNumbers_303 rfl ?_
            refine z_aload_n (pc := 305) hZ 13 dM_addNumbers_305 rfl rfl ?_
            refine z_get (pc := 306) (ci := 2) hZ 0 rfl rfl uc_M 4 (by decide) (zb fl_M_54) rfl dM_addNumbers_306 ?_
            refine z_lconst (pc := 309) hZ 0 dM_addNumbers_309 (by decide) ?_
            refine z_lif_ge (pc := 310) hZ 318 dM_addNumbers_310 dM_addNumbers_311 (by decide) (fun c9 => False.elim (by first | exact absurd c9 c246_17 | exact absurd c246_17 c9 | exact absurd c9 (Int64.not_lt.mpr c246_17) | exact absurd c9 (Int64.not_le.mpr c246_17) | exact c9 ((Int64.not_lt).mp c246_17) | exact c9 ((Int64.not_le).mp c246_17))) (fun c311 => ?_)
            refine z_iconst (pc := 314) hZ 1 dM_addNumbers_314 (by decide) ?_
            refine z_goto (pc := 315) hZ 319 dM_addNumbers_315 (by decide) ?_
            refine z_aload_n (pc := 319) hZ 13 dM_addNumbers_319 rfl rfl ?_
            refine z_get (pc := 320) (ci := 2) hZ 0 rfl rfl uc_M 7 (by decide) (zb fl_M_63) rfl dM_addNumbers_320 ?_
            refine z_lconst (pc := 323) hZ 0 dM_addNumbers_323 (by decide) ?_
            refine z_lif_ge (pc := 324) hZ 332 dM_addNumbers_324 dM_addNumbers_325 (by decide) (fun c325 => ?_) (fun c9 => False.elim (by first | exact absurd c9 c213_16 | exact absurd c213_16 c9 | exact absurd c9 (Int64.not_lt.mpr c213_16) | exact absurd c9 (Int64.not_le.mpr c213_16) | exact c9 ((Int64.not_lt).mp c213_16) | exact c9 ((Int64.not_le).mp c213_16)))
            refine z_iconst (pc := 332) hZ 0 dM_addNumbers_332 (by decide) ?_
            refine z_icmp_ne (pc := 333) hZ 343 dM_addNumbers_333 (by decide) (fun c333 => ?_) (fun c9 => False.elim (absurd c9 (by decide)))
            refine z_iload (pc := 343) hZ 3 dM_addNumbers_343 rfl ?_
            have RR : RT (v299_25.toInt.toNat * 2 ^ (v111_13.toInt + (OFF : Int)).toNat) false = RT (sc na.toInt ea.toInt + sc nb.toInt eb.toInt).natAbs false := by first | exact (adn_s FG FS SX.1 BY BB GX (nokey_).2 nokey_ (nokey_).2 BD1 BD2 nokey_ nokey_ (SC SS) G0 T0).trans (congrArg (fun z => RT z false) CM) | exact (adn_d FG FS SX.1 BY BB GX SW (p296_24).1 (p296_24).2 ev299_25 (fun q => SS (SD q)) G0 T0).trans (congrArg (fun z => RT z false) CM)
            refine z_iload (pc := 345) hZ 1 dM_addNumbers_345 rfl ?_
            refine z_callV (pc := 347) (As := [.long v299_25, .int v111_13, .int 0]) (rest := []) hZ (cM_nearest l D cR c1 c2 c3 h0 a1 a2 a3 Y ka na ea kb nb eb k n e bits scale K N E v299_25 v111_13 0 (by exact SZ.1) (by exact SZ.2) (by first | exact ad_e X1 nokey_ | exact ad_e X2 nokey_ | (have := X1; have := X2; omega))) zyM_nearest (z_goodV ml_M_43 im_M_nearest se_M_nearest in_M co_M_nearest) 0 rfl rfl rfl rfl (by decide) rfl rfl (Nat.le_of_ble_eq_true rfl) ⟨Nat.zero_le _, Nat.zero_le _⟩ dM_addNumbers_347 (z_kv (fun w1 tys1 hp => ?_))
            obtain ⟨k347_26, n347_26, e347_26, rfl, rfl, p347_26⟩ := hp
            exact z_retv (pc := 350) hZ dM_addNumbers_350 rfl ⟨rfl, _, _, _, rfl, rfl, (by exact ⟨((p347_26).1.1), ad_fin _ (sc_n0 (e := ea) c6_1) (sc_n0 (e := eb) c15_3) RR LS (p347_26).2.2⟩)⟩
        · have LS := HP 1 (sn_m c213_16)
          refine z_iconst (pc := 216) hZ 1 dM_addNumbers_216 (by decide) ?_
          refine z_goto (pc := 217) hZ 238 dM_addNumbers_217 (by decide) ?_
          refine z_istore (pc := 238) hZ [(16, .int 1), (15, .int v191_15), (14, .int v111_13), (12, .long v85_9), (10, .long v95_11), (9, .int 1), (8, .int v111_13), (7, .int v103_12), (5, .long v95_11), (3, .long v85_9), (2, .int r73_7), (1, .int r62_5), (0, .ref h0)] dM_addNumbers_238 (by decide) rfl ?_
          refine z_aload_n (pc := 240) hZ 12 dM_addNumbers_240 rfl rfl ?_
          refine z_get (pc := 241) (ci := 2) hZ 0 rfl rfl uc_M 4 (by decide) (zb fl_M_54) rfl dM_addNumbers_241 ?_
          refine z_lconst (pc := 244) hZ 0 dM_addNumbers_244 (by decide) ?_
          refine z_lif_ge (pc := 245) hZ 253 dM_addNumbers_245 dM_addNumbers_246 (by decide) (fun c246_27 => ?_) (fun c246_27 => ?_)
          · refine z_iconst (pc := 253) hZ 0 dM_addNumbers_253 (by decide) ?_
            refine z_aload_n (pc := 254) hZ 12 dM_addNumbers_254 rfl rfl ?_
            refine z_get (pc := 255) (ci := 2) hZ 0 rfl rfl uc_M 7 (by decide) (zb fl_M_63) rfl dM_addNumbers_255 ?_
            refine z_lconst (pc := 258) hZ 0 dM_addNumbers_258 (by decide) ?_
            refine z_lif_ge (pc := 259) hZ 267 dM_addNumbers_259 dM_addNumbers_260 (by decide) (fun c9 => False.elim (by first | exact absurd c9 c213_16 | exact absurd c213_16 c9 | exact absurd c9 (Int64.not_lt.mpr c213_16) | exact absurd c9 (Int64.not_le.mpr c213_16) | exact c9 ((Int64.not_lt).mp c213_16) | exact c9 ((Int64.not_le).mp c213_16))) (fun c260 => ?_)
            refine z_iconst (pc := 263) hZ 1 dM_addNumbers_263 (by decide) ?_
            refine z_goto (pc := 264) hZ 268 dM_addNumbers_264 (by decide) ?_
            refine z_icmp_ne (pc := 268) hZ 290 dM_addNumbers_268 (by decide) (fun c268 => ?_) (fun c9 => False.elim (absurd c9 (by decide)))
            have SS : ¬ (sc na.toInt ea.toInt).sign = (sc nb.toInt eb.toInt).sign := by first | exact sg_pm c246_27 c260 | exact sg_mp c246_27 c260
            refine z_lload (pc := 290) hZ 4 dM_addNumbers_290 rfl ?_
            refine z_lload (pc := 292) hZ 3 dM_addNumbers_292 rfl ?_
            refine z_iload (pc := 294) hZ 1 dM_addNumbers_294 rfl ?_
            refine z_callS (pc := 296) (As := [.long v85_9, .int v191_15]) (rest := [.long v95_11]) hZ (cM_down l D (TY cR c1 c2 c3) (MW h0 a1 a2 a3 c1 c2 c3 (ka, na, ea, kb, nb, eb, k, n, e, bits, scale, K, N, E) ++ Y) v85_9 v191_15 (by have := A1; have := A2; omega) (by have := A1; have := A2; omega) (by omega)) zyM_down (z_goodS ml_M_82 st_M_down in_M co_M_down) rfl rfl (by decide) rfl rfl (Nat.le_of_ble_eq_true rfl) ⟨Nat.zero_le _, Nat.zero_le _⟩ dM_addNumbers_296 (z_kl (fun r296_28 w1 tys1 hp => ?_))
            obtain ⟨rfl, rfl, p296_28⟩ := hp
            refine z_lsub (pc := 299) hZ dM_addNumbers_299 (fun v299_29 ev299_29 => ?_)
            have SZ : 0 ≤ v299_29.toInt ∧ v299_29.toInt < 4611686018427387904 := by first | exact ad_s1 ((nokey_).1) ((nokey_).1) B1 nokey_ | exact ad_s2 A1 SW BY ((p296_28).1) ev299_29 | exact ad_s2 A2 SW BY ((p296_28).1) ev299_29
            refine z_lstore (pc := 300) hZ [(17, .long v299_29), (16, .int 1), (15, .int v191_15), (14, .int v111_13), (12, .long v85_9), (10, .long v95_11), (9, .int 1), (8, .int v111_13), (7, .int v103_12), (5, .long v95_11), (3, .long v85_9), (2, .int r73_7), (1, .int r62_5), (0, .ref h0)] dM_addNumbers_300 (by decide) rfl ?_
            refine z_aload_n (pc := 302) hZ 13 dM_addNumbers_302 rfl rfl ?_
            refine z_lload (pc := 303) hZ 0 dM_addNumbers_303 rfl ?_
            refine z_aload_n (pc := 305) hZ 13 dM_addNumbers_305 rfl rfl ?_
            refine z_get (pc := 306) (ci := 2) hZ 0 rfl rfl uc_M 4 (by decide) (zb fl_M_54) rfl dM_addNumbers_306 ?_
            refine z_lconst (pc := 309) hZ 0 dM_addNumbers_309 (by decide) ?_
            refine z_lif_ge (pc := 310) hZ 318 dM_addNumbers_310 dM_addNumbers_311 (by decide) (fun c311 => ?_) (fun c9 => False.elim (by first | exact absurd c9 c246_27 | exact absurd c246_27 c9 | exact absurd c9 (Int64.not_lt.mpr c246_27) | exact absurd c9 (Int64.not_le.mpr c246_27) | exact c9 ((Int64.not_lt).mp c246_27) | exact c9 ((Int64.not_le).mp c246_27)))
            refine z_iconst (pc := 318) hZ 0 dM_addNumbers_318 (by decide) ?_
            refine z_aload_n (pc := 319) hZ 13 dM_addNumbers_319 rfl rfl ?_
            refine z_get (pc := 320) (ci := 2) hZ 0 rfl rfl uc_M 7 (by decide) (zb fl_M_63) rfl dM_addNumbers_320 ?_
            refine z_lconst (pc := 323) hZ 0 dM_addNumbers_323 (by decide) ?_
            refine z_lif_ge (pc := 324) hZ 332 dM_addNumbers_324 dM_addNumbers_325 (by decide) (fun c9 => False.elim (by first | exact absurd c9 c213_16 | exact absurd c213_16 c9 | exact absurd c9 (Int64.not_lt.mpr c213_16) | exact absurd c9 (Int64.not_le.mpr c213_16) | exact c9 ((Int64.not_lt).mp c213_16) | exact c9 ((Int64.not_le).mp c213_16))) (fun c325 => ?_)
            refine z_iconst (pc := 328) hZ 1 dM_addNumbers_328 (by decide) ?_
            refine z_goto (pc := 329) hZ 333 dM_addNumbers_329 (by decide) ?_
            refine z_icmp_ne (pc := 333) hZ 343 dM_addNumbers_333 (by decide) (fun c333 => ?_) (fun c9 => False.elim (absurd c9 (by decide)))
            refine z_iload (pc := 343) hZ 3 dM_addNumbers_343 rfl ?_
            have RR : RT (v299_29.toInt.toNat * 2 ^ (v111_13.toInt + (OFF : Int)).toNat) false = RT (sc na.toInt ea.toInt + sc nb.toInt eb.toInt).natAbs false := by first | exact (adn_s FG FS SX.1 BY BB GX (nokey_).2 nokey_ (nokey_).2 BD1 BD2 nokey_ nokey_ (SC SS) G0 T0).trans (congrArg (fun z => RT z false) CM) | exact (adn_d FG FS SX.1 BY BB GX SW (p296_28).1 (p296_28).2 ev299_29 (fun q => SS (SD q)) G0 T0).trans (congrArg (fun z => RT z false) CM)
            refine z_iload (pc := 345) hZ 1 dM_addNumbers_345 rfl ?_
            refine z_callV (pc := 347) (As := [.long v299_29, .int v111_13, .int 1]) (rest := []) hZ (cM_nearest l D cR c1 c2 c3 h0 a1 a2 a3 Y ka na ea kb nb eb k n e bits scale K N E v299_29 v111_13 1 (by exact SZ.1) (by exact SZ.2) (by first | exact ad_e X1 nokey_ | exact ad_e X2 nokey_ | (have := X1; have := X2; omega))) zyM_nearest (z_goodV ml_M_43 im_M_nearest se_M_nearest in_M co_M_nearest) 0 rfl rfl rfl rfl (by decide) rfl rfl (Nat.le_of_ble_eq_true rfl) ⟨Nat.zero_le _, Nat.zero_le _⟩ dM_addNumbers_347 (z_kv (fun w1 tys1 hp => ?_))
            obtain ⟨k347_30, n347_30, e347_30, rfl, rfl, p347_30⟩ := hp
            exact z_retv (pc := 350) hZ dM_addNumbers_350 rfl ⟨rfl, _, _, _, rfl, rfl, (by exact ⟨((p347_30).1.1), ad_fin _ (sc_n0 (e := ea) c6_1) (sc_n0 (e := eb) c15_3) RR LS (p347_30).2.2⟩)⟩
          · refine z_iconst (pc := 249) hZ 1 dM_addNumbers_249 (by decide) ?_
            refine z_goto (pc := 250) hZ 254 dM_addNumbers_250 (by decide) ?_
            refine z_aload_n (pc := 254) hZ 12 dM_addNumbers_254 rfl rfl ?_
            refine z_get (pc := 255) (ci := 2) hZ 0 rfl rfl uc_M 7 (by decide) (zb fl_M_63) rfl dM_addNumbers_255 ?_
            refine z_lconst (pc := 258) hZ 0 dM_addNumbers_258 (by decide) ?_
            refine z_lif_ge (pc := 259) hZ 267 dM_addNumbers_259 dM_addNumbers_260 (by decide) (fun c9 => False.elim (by first | exact absurd c9 c213_16 | exact absurd c213_16 c9 | exact absurd c9 (Int64.not_lt.mpr c213_16) | exact absurd c9 (Int64.not_le.mpr c213_16) | exact c9 ((Int64.not_lt).mp c213_16) | exact c9 ((Int64.not_le).mp c213_16))) (fun c260 => ?_)
            refine z_iconst (pc := 263) hZ 1 dM_addNumbers_263 (by decide) ?_
            refine z_goto (pc := 264) hZ 268 dM_addNumbers_264 (by decide) ?_
            refine z_icmp_ne (pc := 268) hZ 290 dM_addNumbers_268 (by decide) (fun c9 => False.elim (absurd c9 (by decide))) (fun c268 => ?_)
            have SS : (sc na.toInt ea.toInt).sign = (sc nb.toInt eb.toInt).sign := by first | exact sg_pp c246_27 c260 c6_1 c15_3 | exact sg_mm c246_27 c260
            refine z_lload (pc := 271) hZ 4 dM_addNumbers_271 rfl ?_
            refine z_iconst (pc := 273) hZ 1 dM_addNumbers_273 (by decide) ?_
            refine z_callS (pc := 274) (As := [.long v95_11, .int 1]) (rest := []) hZ (cM_down l D (TY cR c1 c2 c3) (MW h0 a1 a2 a3 c1 c2 c3 (ka, na, ea, kb, nb, eb, k, n, e, bits, scale, K, N, E) ++ Y) v95_11 1 (by have := A1; have := A2; omega) (by have := A1; have := A2; omega) (by decide)) zyM_down (z_goodS ml_M_82 st_M_down in_M co_M_down) rfl rfl (by decide) rfl rfl (Nat.le_of_ble_eq_true rfl) ⟨Nat.zero_le _, Nat.zero_le _⟩ dM_addNumbers_274 (z_kl (fun r274_31 w1 tys1 hp => ?_))
            obtain ⟨rfl, rfl, p274_31⟩ := hp
            refine z_lload (pc := 277) hZ 3 dM_addNumbers_277 rfl ?_
            refine z_iload (pc := 279) hZ 1 dM_addNumbers_279 rfl ?_
            refine z_iconst (pc := 281) hZ 1 dM_addNumbers_281 (by decide) ?_
            refine z_iadd (pc := 282) hZ dM_addNumbers_282 (fun v282_32 ev282_32 => ?_)
            have B1 := ad_1 BB ev282_32
            refine z_callS (pc := 283) (As := [.long v85_9, .int v282_32]) (rest := [.long r274_31]) hZ (cM_down l D (TY cR c1 c2 c3) (MW h0 a1 a2 a3 c1 c2 c3 (ka, na, ea, kb, nb, eb, k, n, e, bits, scale, K, N, E) ++ Y) v85_9 v282_32 (by have := A1; have := A2; omega) (by have := A1; have := A2; omega) (by omega)) zyM_down (z_goodS ml_M_82 st_M_down in_M co_M_down) rfl rfl (by decide) rfl rfl (Nat.le_of_ble_eq_true rfl) ⟨Nat.zero_le _, Nat.zero_le _⟩ dM_addNumbers_283 (z_kl (fun r283_33 w1 tys1 hp => ?_))
            obtain ⟨rfl, rfl, p283_33⟩ := hp
            have BD1 : 0 ≤ r274_31.toInt ∧ r274_31.toInt < 2305843009213693952 := ⟨(p274_31).1.1, (p274_31).1.2.2 (by decide)⟩
            have BD2 : 0 ≤ r283_33.toInt ∧ r283_33.toInt < 2305843009213693952 := ⟨(p283_33).1.1, (p283_33).1.2.2 B1⟩
            refine z_ladd (pc := 286) hZ dM_addNumbers_286 (fun v286_34 ev286_34 => ?_)
            refine z_goto (pc := 287) hZ 300 dM_addNumbers_287 (by decide) ?_
            have SZ : 0 ≤ v286_34.toInt ∧ v286_34.toInt < 4611686018427387904 := by first | exact ad_s1 ((p274_31).1) ((p283_33).1) B1 ev286_34 | exact ad_s2 A1 SW BY ((nokey_).1) nokey_ | exact ad_s2 A2 SW BY ((nokey_).1) nokey_
            refine z_lstore (pc := 300) hZ [(17, .long v286_34), (16, .int 1), (15, .int v191_15), (14, .int v111_13), (12, .long v85_9), (10, .long v95_11), (9, .int 1), (8, .int v111_13), (7, .int v103_12), (5, .long v95_11), (3, .long v85_9), (2, .int r73_7), (1, .int r62_5), (0, .ref h0)] dM_addNumbers_300 (by decide) rfl ?_
            refine z_aload_n (pc := 302) hZ 13 dM_addNumbers_302 rfl rfl ?_
            refine z_lload (pc := 303) hZ 0 dM_addNumbers_303 rfl ?_
            refine z_aload_n (pc := 305) hZ 13 dM_addNumbers_305 rfl rfl ?_
            refine z_get (pc := 306) (ci := 2) hZ 0 rfl rfl uc_M 4 (by decide) (zb fl_M_54) rfl dM_addNumbers_306 ?_
            refine z_lconst (pc := 309) hZ 0 dM_addNumbers_309 (by decide) ?_
            refine z_lif_ge (pc := 310) hZ 318 dM_addNumbers_310 dM_addNumbers_311 (by decide) (fun c9 => False.elim (by first | exact absurd c9 c246_27 | exact absurd c246_27 c9 | exact absurd c9 (Int64.not_lt.mpr c246_27) | exact absurd c9 (Int64.not_le.mpr c246_27) | exact c9 ((Int64.not_lt).mp c246_27) | exact c9 ((Int64.not_le).mp c246_27))) (fun c311 => ?_)
            refine z_iconst (pc := 314) hZ 1 dM_addNumbers_314 (by decide) ?_
            refine z_goto (pc := 315) hZ 319 dM_addNumbers_315 (by decide) ?_
            refine z_aload_n (pc := 319) hZ 13 dM_addNumbers_319 rfl rfl ?_
            refine z_get (pc := 320) (ci := 2) hZ 0 rfl rfl uc_M 7 (by decide) (zb fl_M_63) rfl dM_addNumbers_320 ?_
            refine z_lconst (pc := 323) hZ 0 dM_addNumbers_323 (by decide) ?_
            refine z_lif_ge (pc := 324) hZ 332 dM_addNumbers_324 dM_addNumbers_325 (by decide) (fun c9 => False.elim (by first | exact absurd c9 c213_16 | exact absurd c213_16 c9 | exact absurd c9 (Int64.not_lt.mpr c213_16) | exact absurd c9 (Int64.not_le.mpr c213_16) | exact c9 ((Int64.not_lt).mp c213_16) | exact c9 ((Int64.not_le).mp c213_16))) (fun c325 => ?_)
            refine z_iconst (pc := 328) hZ 1 dM_addNumbers_328 (by decide) ?_
            refine z_goto (pc := 329) hZ 333 dM_addNumbers_329 (by decide) ?_
            refine z_icmp_ne (pc := 333) hZ 343 dM_addNumbers_333 (by decide) (fun c9 => False.elim (absurd c9 (by decide))) (fun c333 => ?_)
            refine z_iload (pc := 336) hZ 3 dM_addNumbers_336 rfl ?_
            refine z_iconst (pc := 338) hZ 1 dM_addNumbers_338 (by decide) ?_
            refine z_iadd (pc := 339) hZ dM_addNumbers_339 (fun v339_35 ev339_35 => ?_)
            refine z_goto (pc := 340) hZ 345 dM_addNumbers_340 (by decide) ?_
            have RR : RT (v286_34.toInt.toNat * 2 ^ (v339_35.toInt + (OFF : Int)).toNat) false = RT (sc na.toInt ea.toInt + sc nb.toInt eb.toInt).natAbs false := by first | exact (adn_s FG FS SX.1 BY BB GX (p274_31).2 ev282_32 (p283_33).2 BD1 BD2 ev286_34 ev339_35 (SC SS) G0 T0).trans (congrArg (fun z => RT z false) CM) | exact (adn_d FG FS SX.1 BY BB GX SW (nokey_).1 (nokey_).2 nokey_ (fun q => SS (SD q)) G0 T0).trans (congrArg (fun z => RT z false) CM)
            refine z_iload (pc := 345) hZ 1 dM_addNumbers_345 rfl ?_
            refine z_callV (pc := 347) (As := [.long v286_34, .int v339_35, .int 1]) (rest := []) hZ (cM_nearest l D cR c1 c2 c3 h0 a1 a2 a3 Y ka na ea kb nb eb k n e bits scale K N E v286_34 v339_35 1 (by exact SZ.1) (by exact SZ.2) (by first | exact ad_e X1 ev339_35 | exact ad_e X2 ev339_35 | (have := X1; have := X2; omega))) zyM_nearest (z_goodV ml_M_43 im_M_nearest se_M_nearest in_M co_M_nearest) 0 rfl rfl rfl rfl (by decide) rfl rfl (Nat.le_of_ble_eq_true rfl) ⟨Nat.zero_le _, Nat.zero_le _⟩ dM_addNumbers_347 (z_kv (fun w1 tys1 hp => ?_))
            obtain ⟨k347_36, n347_36, e347_36, rfl, rfl, p347_36⟩ := hp
            exact z_retv (pc := 350) hZ dM_addNumbers_350 rfl ⟨rfl, _, _, _, rfl, rfl, (by exact ⟨((p347_36).1.1), ad_fin _ (sc_n0 (e := ea) c6_1) (sc_n0 (e := eb) c15_3) RR LS (p347_36).2.2⟩)⟩
      · refine z_iload (pc := 121) hZ 0 dM_addNumbers_121 rfl ?_
        refine z_iload (pc := 123) hZ 1 dM_addNumbers_123 rfl ?_
        refine z_icmp_ne (pc := 125) hZ 139 dM_addNumbers_125 (by decide) (fun c125_37 => ?_) (fun c125_37 => ?_)
        · have SW : SWP v111_13 v103_12 v95_11 v85_9 := by first | exact sw_4 c125_37 nokey_ | exact sw_3 c118_14 c125_37
          have FG := (adv_of ga c6_1 p59_4 p62_5 p81_8 ev85_9 ev103_12)
          have FS := (adv_of gb c15_3 p70_6 p73_7 p91_10 ev95_11 ev111_13)
          have GX := X1
          have SX := X2
          have G0 := (sc_n0 (e := ea) c6_1)
          have T0 := (sc_n0 (e := eb) c15_3)
          have LE := adv_le (y := 0) FG FS SX.1 GX.1 SW
          have CM : (sc na.toInt ea.toInt + sc nb.toInt eb.toInt).natAbs = (sc na.toInt ea.toInt + sc nb.toInt eb.toInt).natAbs := rfl
          have SC : (sc na.toInt ea.toInt).sign = (sc nb.toInt eb.toInt).sign → (sc na.toInt ea.toInt).sign = (sc nb.toInt eb.toInt).sign := id
          have SD : (sc na.toInt ea.toInt).sign = (sc nb.toInt eb.toInt).sign → (sc na.toInt ea.toInt).sign = (sc nb.toInt eb.toInt).sign := id
          have HP : ∀ p : Int32, bb p = decide (sc na.toInt ea.toInt < 0) → (bb p = decide (sc na.toInt ea.toInt < 0) ∧ (sc nb.toInt eb.toInt).natAbs ≤ (sc na.toInt ea.toInt).natAbs) ∨ (bb p = decide (sc nb.toInt eb.toInt < 0) ∧ (sc na.toInt ea.toInt).natAbs ≤ (sc nb.toInt eb.toInt).natAbs) := fun p h => Or.inl ⟨h, LE⟩
          refine z_iconst (pc := 139) hZ 0 dM_addNumbers_139 (by decide) ?_
          refine z_istore (pc := 140) hZ [(9, .int 0), (8, .int v111_13), (7, .int v103_12), (5, .long v95_11), (3, .long v85_9), (2, .int r73_7), (1, .int r62_5), (0, .ref h0)] dM_addNumbers_140 (by decide) rfl ?_
          refine z_iload (pc := 142) hZ 0 dM_addNumbers_142 rfl ?_
          refine z_if_eq (pc := 144) hZ 152 dM_addNumbers_144 (by decide) (fun c144 => ?_) (fun c9 => False.elim (absurd c9 (by decide)))
          refine z_lload_n (pc := 152) hZ 4 dM_addNumbers_152 rfl rfl ?_
          refine z_lstore (pc := 153) hZ [(10, .long v85_9), (9, .int 0), (8, .int v111_13), (7, .int v103_12), (5, .long v95_11), (3, .long v85_9), (2, .int r73_7), (1, .int r62_5), (0, .ref h0)] dM_addNumbers_153 (by decide) rfl ?_
          refine z_iload (pc := 155) hZ 1 dM_addNumbers_155 rfl ?_
          refine z_if_eq (pc := 157) hZ 164 dM_addNumbers_157 (by decide) (fun c157 => ?_) (fun c9 => False.elim (absurd c9 (by decide)))
          refine z_lload (pc := 164) hZ 4 dM_addNumbers_164 rfl ?_
          refine z_lstore (pc := 166) hZ [(12, .long v95_11), (10, .long v85_9), (9, .int 0), (8, .int v111_13), (7, .int v103_12), (5, .long v95_11), (3, .long v85_9), (2, .int r73_7), (1, .int r62_5), (0, .ref h0)] dM_addNumbers_166 (by decide) rfl ?_
          refine z_iload (pc := 168) hZ 2 dM_addNumbers_168 rfl ?_
          refine z_if_eq (pc := 170) hZ 178 dM_addNumbers_170 (by decide) (fun c170 => ?_) (fun c9 => False.elim (absurd c9 (by decide)))
          refine z_iload (pc := 178) hZ 4 dM_addNumbers_178 rfl ?_
          refine z_istore (pc := 180) hZ [(14, .int v103_12), (12, .long v95_11), (10, .long v85_9), (9, .int 0), (8, .int v111_13), (7, .int v103_12), (5, .long v95_11), (3, .long v85_9), (2, .int r73_7), (1, .int r62_5), (0, .ref h0)] dM_addNumbers_180 (by decide) rfl ?_
          refine z_iload (pc := 182) hZ 3 dM_addNumbers_182 rfl ?_
          refine z_if_eq (pc := 184) hZ 195 dM_addNumbers_184 (by decide) (fun c184 => ?_) (fun c9 => False.elim (absurd c9 (by decide)))
          refine z_iload (pc := 195) hZ 5 dM_addNumbers_195 rfl ?_
          refine z_iload (pc := 197) hZ 4 dM_addNumbers_197 rfl ?_
          refine z_isub (pc := 199) hZ dM_addNumbers_199 (fun v199_38 ev199_38 => ?_)
          first | (have BY := ad_by X1 X2 ev199_38) | skip
          first | (have BB := sw_b X2 X1 SW BY) | skip
          first | (have GG := A1) | skip
          refine z_istore (pc := 200) hZ [(15, .int v199_38), (14, .int v103_12), (12, .long v95_11), (10, .long v85_9), (9, .int 0), (8, .int v111_13), (7, .int v103_12), (5, .long v95_11), (3, .long v85_9), (2, .int r73_7), (1, .int r62_5), (0, .ref h0)] dM_addNumbers_200 (by decide) rfl ?_
          refine z_iload (pc := 202) hZ 4 dM_addNumbers_202 rfl ?_
          refine z_if_eq (pc := 204) hZ 224 dM_addNumbers_204 (by decide) (fun c204 => ?_) (fun c9 => False.elim (absurd c9 (by decide)))
          refine z_aload_n (pc := 224) hZ 11 dM_addNumbers_224 rfl rfl ?_
          refine z_get (pc := 225) (ci := 2) hZ 0 rfl rfl uc_M 4 (by decide) (zb fl_M_54) rfl dM_addNumbers_225 ?_
          refine z_lconst (pc := 228) hZ 0 dM_addNumbers_228 (by decide) ?_
          refine z_lif_ge (pc := 229) hZ 237 dM_addNumbers_229 dM_addNumbers_230 (by decide) (fun c230_39 => ?_) (fun c230_39 => ?_)
          · have LS := HP 0 (sn_p c230_39)
            refine z_iconst (pc := 237) hZ 0 dM_addNumbers_237 (by decide) ?_
            refine z_istore (pc := 238) hZ [(16, .int 0), (15, .int v199_38), (14, .int v103_12), (12, .long v95_11), (10, .long v85_9), (9, .int 0), (8, .int v111_13), (7, .int v103_12), (5, .long v95_11), (3, .long v85_9), (2, .int r73_7), (1, .int r62_5), (0, .ref h0)] dM_addNumbers_238 (by decide) rfl ?_
            refine z_aload_n (pc := 240) hZ 12 dM_addNumbers_240 rfl rfl ?_
            refine z_get (pc := 241) (ci := 2) hZ 0 rfl rfl uc_M 4 (by decide) (zb fl_M_54) rfl dM_addNumbers_241 ?_
            refine z_lconst (pc := 244) hZ 0 dM_addNumbers_244 (by decide) ?_
            refine z_lif_ge (pc := 245) hZ 253 dM_addNumbers_245 dM_addNumbers_246 (by decide) (fun c246 => ?_) (fun c9 => False.elim (by first | exact absurd c9 c230_39 | exact absurd c230_39 c9 | exact absurd c9 (Int64.not_lt.mpr c230_39) | exact absurd c9 (Int64.not_le.mpr c230_39) | exact c9 ((Int64.not_lt).mp c230_39) | exact c9 ((Int64.not_le).mp c230_39)))
            refine z_iconst (pc := 253) hZ 0 dM_addNumbers_253 (by decide) ?_
            refine z_aload_n (pc := 254) hZ 12 dM_addNumbers_254 rfl rfl ?_
            refine z_get (pc := 255) (ci := 2) hZ 0 rfl rfl uc_M 7 (by decide) (zb fl_M_63) rfl dM_addNumbers_255 ?_
            refine z_lconst (pc := 258) hZ 0 dM_addNumbers_258 (by decide) ?_
            refine z_lif_ge (pc := 259) hZ 267 dM_addNumbers_259 dM_addNumbers_260 (by decide) (fun c260_40 => ?_) (fun c260_40 => ?_)
            · refine z_iconst (pc := 267) hZ 0 dM_addNumbers_267 (by decide) ?_
              refine z_icmp_ne (pc := 268) hZ 290 dM_addNumbers_268 (by decide) (fun c9 => False.elim (absurd c9 (by decide))) (fun c268 => ?_)
              have SS : (sc na.toInt ea.toInt).sign = (sc nb.toInt eb.toInt).sign := by first | exact sg_pp c246 c260_40 c6_1 c15_3 | exact sg_mm c246 c260_40
              refine z_lload (pc := 271) hZ 4 dM_addNumbers_271 rfl ?_
              refine z_iconst (pc := 273) hZ 1 dM_addNumbers_273 (by decide) ?_
              refine z_callS (pc := 274) (As := [.long v85_9, .int 1]) (rest := []) hZ (cM_down l D (TY cR c1 c2 c3) (MW h0 a1 a2 a3 c1 c2 c3 (ka, na, ea, kb, nb, eb, k, n, e, bits, scale, K, N, E) ++ Y) v85_9 1 (by have := A1; have := A2; omega) (by have := A1; have := A2; omega) (by decide)) zyM_down (z_goodS ml_M_82 st_M_down in_M co_M_down) rfl rfl (by decide) rfl rfl (Nat.le_of_ble_eq_true rfl) ⟨Nat.zero_le _, Nat.zero_le _⟩ dM_addNumbers_274 (z_kl (fun r274_41 w1 tys1 hp => ?_))
              obtain ⟨rfl, rfl, p274_41⟩ := hp
              refine z_lload (pc := 277) hZ 3 dM_addNumbers_277 rfl ?_
              refine z_iload (pc := 279) hZ 1 dM_addNumbers_279 rfl ?_
              refine z_iconst (pc := 281) hZ 1 dM_addNumbers_281 (by decide) ?_
              refine z_iadd (pc := 282) hZ dM_addNumbers_282 (fun v282_42 ev282_42 => ?_)
              have B1 := ad_1 BB ev282_42
              refine z_callS (pc := 283) (As := [.long v95_11, .int v282_42]) (rest := [.long r274_41]) hZ (cM_down l D (TY cR c1 c2 c3) (MW h0 a1 a2 a3 c1 c2 c3 (ka, na, ea, kb, nb, eb, k, n, e, bits, scale, K, N, E) ++ Y) v95_11 v282_42 (by have := A1; have := A2; omega) (by have := A1; have := A2; omega) (by omega)) zyM_down (z_goodS ml_M_82 st_M_down in_M co_M_down) rfl rfl (by decide) rfl rfl (Nat.le_of_ble_eq_true rfl) ⟨Nat.zero_le _, Nat.zero_le _⟩ dM_addNumbers_283 (z_kl (fun r283_43 w1 tys1 hp => ?_))
              obtain ⟨rfl, rfl, p283_43⟩ := hp
              have BD1 : 0 ≤ r274_41.toInt ∧ r274_41.toInt < 2305843009213693952 := ⟨(p274_41).1.1, (p274_41).1.2.2 (by decide)⟩
              have BD2 : 0 ≤ r283_43.toInt ∧ r283_43.toInt < 2305843009213693952 := ⟨(p283_43).1.1, (p283_43).1.2.2 B1⟩
              refine z_ladd (pc := 286) hZ dM_addNumbers_286 (fun v286_44 ev286_44 => ?_)
              refine z_goto (pc := 287) hZ 300 dM_addNumbers_287 (by decide) ?_
              have SZ : 0 ≤ v286_44.toInt ∧ v286_44.toInt < 4611686018427387904 := by first | exact ad_s1 ((p274_41).1) ((p283_43).1) B1 ev286_44 | exact ad_s2 A1 SW BY ((nokey_).1) nokey_ | exact ad_s2 A2 SW BY ((nokey_).1) nokey_
              refine z_lstore (pc := 300) hZ [(17, .long v286_44), (16, .int 0), (15, .int v199_38), (14, .int v103_12), (12, .long v95_11), (10, .long v85_9), (9, .int 0), (8, .int v111_13), (7, .int v103_12), (5, .long v95_11), (3, .long v85_9), (2, .int r73_7), (1, .int r62_5), (0, .ref h0)] dM_addNumbers_300 (by decide) rfl ?_
              refine z_aload_n (pc := 302) hZ 13 dM_addNumbers_302 rfl rfl ?_
              refine z_lload (pc := 303) hZ 0 dM_addNumbers_303 rfl ?_
              refine z_aload_n (pc := 305) hZ 13 dM_addNumbers_305 rfl rfl ?_
              refine z_get (pc := 306) (ci := 2) hZ 0 rfl rfl uc_M 4 (by decide) (zb fl_M_54) rfl dM_addNumbers_306 ?_
              refine z_lconst (pc := 309) hZ 0 dM_addNumbers_309 (by decide) ?_
              refine z_lif_ge (pc := 310) hZ 318 dM_addNumbers_310 dM_addNumbers_311 (by decide) (fun c311 => ?_) (fun c9 => False.elim (by first | exact absurd c9 c230_39 | exact absurd c230_39 c9 | exact absurd c9 (Int64.not_lt.mpr c230_39) | exact absurd c9 (Int64.not_le.mpr c230_39) | exact c9 ((Int64.not_lt).mp c230_39) | exact c9 ((Int64.not_le).mp c230_39)))
              refine z_iconst (pc := 318) hZ 0 dM_addNumbers_318 (by decide) ?_
              refine z_aload_n (pc := 319) hZ 13 dM_addNumbers_319 rfl rfl ?_
              refine z_get (pc := 320) (ci := 2) hZ 0 rfl rfl uc_M 7 (by decide) (zb fl_M_63) rfl dM_addNumbers_320 ?_
              refine z_lconst (pc := 323) hZ 0 dM_addNumbers_323 (by decide) ?_
              refine z_lif_ge (pc := 324) hZ 332 dM_addNumbers_324 dM_addNumbers_325 (by decide) (fun c325 => ?_) (fun c9 => False.elim (by first | exact absurd c9 c260_40 | exact absurd c260_40 c9 | exact absurd c9 (Int64.not_lt.mpr c260_40) | exact absurd c9 (Int64.not_le.mpr c260_40) | exact c9 ((Int64.not_lt).mp c260_40) | exact c9 ((Int64.not_le).mp c260_40)))
              refine z_iconst (pc := 332) hZ 0 dM_addNumbers_332 (by decide) ?_
              refine z_icmp_ne (pc := 333) hZ 343 dM_addNumbers_333 (by decide) (fun c9 => False.elim (absurd c9 (by decide))) (fun c333 => ?_)
              refine z_iload (pc := 336) hZ 3 dM_addNumbers_336 rfl ?_
              refine z_iconst (pc := 338) hZ 1 dM_addNumbers_338 (by decide) ?_
              refine z_iadd (pc := 339) hZ dM_addNumbers_339 (fun v339_45 ev339_45 => ?_)
              refine z_goto (pc := 340) hZ 345 dM_addNumbers_340 (by decide) ?_
              have RR : RT (v286_44.toInt.toNat * 2 ^ (v339_45.toInt + (OFF : Int)).toNat) false = RT (sc na.toInt ea.toInt + sc nb.toInt eb.toInt).natAbs false := by first | exact (adn_s FG FS SX.1 BY BB GX (p274_41).2 ev282_42 (p283_43).2 BD1 BD2 ev286_44 ev339_45 (SC SS) G0 T0).trans (congrArg (fun z => RT z false) CM) | exact (adn_d FG FS SX.1 BY BB GX SW (nokey_).1 (nokey_).2 nokey_ (fun q => SS (SD q)) G0 T0).trans (congrArg (fun z => RT z false) CM)
              refine z_iload (pc := 345) hZ 1 dM_addNumbers_345 rfl ?_
              refine z_callV (pc := 347) (As := [.long v286_44, .int v339_45, .int 0]) (rest := []) hZ (cM_nearest l D cR c1 c2 c3 h0 a1 a2 a3 Y ka na ea kb nb eb k n e bits scale K N E v286_44 v339_45 0 (by exact SZ.1) (by exact SZ.2) (by first | exact ad_e X1 ev339_45 | exact ad_e X2 ev339_45 | (have := X1; have := X2; omega))) zyM_nearest (z_goodV ml_M_43 im_M_nearest se_M_nearest in_M co_M_nearest) 0 rfl rfl rfl rfl (by decide) rfl rfl (Nat.le_of_ble_eq_true rfl) ⟨Nat.zero_le _, Nat.zero_le _⟩ dM_addNumbers_347 (z_kv (fun w1 tys1 hp => ?_))
              obtain ⟨k347_46, n347_46, e347_46, rfl, rfl, p347_46⟩ := hp
              exact z_retv (pc := 350) hZ dM_addNumbers_350 rfl ⟨rfl, _, _, _, rfl, rfl, (by exact ⟨((p347_46).1.1), ad_fin _ (sc_n0 (e := ea) c6_1) (sc_n0 (e := eb) c15_3) RR LS (p347_46).2.2⟩)⟩
            · refine z_iconst (pc := 263) hZ 1 dM_addNumbers_263 (by decide) ?_
              refine z_goto (pc := 264) hZ 268 dM_addNumbers_264 (by decide) ?_
              refine z_icmp_ne (pc := 268) hZ 290 dM_addNumbers_268 (by decide) (fun c268 => ?_) (fun c9 => False.elim (absurd c9 (by decide)))
              have SS : ¬ (sc na.toInt ea.toInt).sign = (sc nb.toInt eb.toInt).sign := by first | exact sg_pm c246 c260_40 | exact sg_mp c246 c260_40
              refine z_lload (pc := 290) hZ 4 dM_addNumbers_290 rfl ?_
              refine z_lload (pc := 292) hZ 3 dM_addNumbers_292 rfl ?_
              refine z_iload (pc := 294) hZ 1 dM_addNumbers_294 rfl ?_
              refine z_callS (pc := 296) (As := [.long v95_11, .int v199_38]) (rest := [.long v85_9]) hZ (cM_down l D (TY cR c1 c2 c3) (MW h0 a1 a2 a3 c1 c2 c3 (ka, na, ea, kb, nb, eb, k, n, e, bits, scale, K, N, E) ++ Y) v95_11 v199_38 (by have := A1; have := A2; omega) (by have := A1; have := A2; omega) (by omega)) zyM_down (z_goodS ml_M_82 st_M_down in_M co_M_down) rfl rfl (by decide) rfl rfl (Nat.le_of_ble_eq_true rfl) ⟨Nat.zero_le _, Nat.zero_le _⟩ dM_addNumbers_296 (z_kl (fun r296_47 w1 tys1 hp => ?_))
              obtain ⟨rfl, rfl, p296_47⟩ := hp
              refine z_lsub (pc := 299) hZ dM_addNumbers_299 (fun v299_48 ev299_48 => ?_)
              have SZ : 0 ≤ v299_48.toInt ∧ v299_48.toInt < 4611686018427387904 := by first | exact ad_s1 ((nokey_).1) ((nokey_).1) B1 nokey_ | exact ad_s2 A1 SW BY ((p296_47).1) ev299_48 | exact ad_s2 A2 SW BY ((p296_47).1) ev299_48
              refine z_lstore (pc := 300) hZ [(17, .long v299_48), (16, .int 0), (15, .int v199_38), (14, .int v103_12), (12, .long v95_11), (10, .long v85_9), (9, .int 0), (8, .int v111_13), (7, .int v103_12), (5, .long v95_11), (3, .long v85_9), (2, .int r73_7), (1, .int r62_5), (0, .ref h0)] dM_addNumbers_300 (by decide) rfl ?_
              refine z_aload_n (pc := 302) hZ 13 dM_addNumbers_302 rfl rfl ?_
              refine z_lload (pc := 303) hZ 0 dM_addNumbers_303 rfl ?_
              refine z_aload_n (pc := 305) hZ 13 dM_addNumbers_305 rfl rfl ?_
              refine z_get (pc := 306) (ci := 2) hZ 0 rfl rfl uc_M 4 (by decide) (zb fl_M_54) rfl dM_addNumbers_306 ?_
              refine z_lconst (pc := 309) hZ 0 dM_addNumbers_309 (by decide) ?_
              refine z_lif_ge (pc := 310) hZ 318 dM_addNumbers_310 dM_addNumbers_311 (by decide) (fun c311 => ?_) (fun c9 => False.elim (by first | exact absurd c9 c230_39 | exact absurd c230_39 c9 | exact absurd c9 (Int64.not_lt.mpr c230_39) | exact absurd c9 (Int64.not_le.mpr c230_39) | exact c9 ((Int64.not_lt).mp c230_39) | exact c9 ((Int64.not_le).mp c230_39)))
              refine z_iconst (pc := 318) hZ 0 dM_addNumbers_318 (by decide) ?_
              refine z_aload_n (pc := 319) hZ 13 dM_addNumbers_319 rfl rfl ?_
              refine z_get (pc := 320) (ci := 2) hZ 0 rfl rfl uc_M 7 (by decide) (zb fl_M_63) rfl dM_addNumbers_320 ?_
              refine z_lconst (pc := 323) hZ 0 dM_addNumbers_323 (by decide) ?_
              refine z_lif_ge (pc := 324) hZ 332 dM_addNumbers_324 dM_addNumbers_325 (by decide) (fun c9 => False.elim (by first | exact absurd c9 c260_40 | exact absurd c260_40 c9 | exact absurd c9 (Int64.not_lt.mpr c260_40) | exact absurd c9 (Int64.not_le.mpr c260_40) | exact c9 ((Int64.not_lt).mp c260_40) | exact c9 ((Int64.not_le).mp c260_40))) (fun c325 => ?_)
              refine z_iconst (pc := 328) hZ 1 dM_addNumbers_328 (by decide) ?_
              refine z_goto (pc := 329) hZ 333 dM_addNumbers_329 (by decide) ?_
              refine z_icmp_ne (pc := 333) hZ 343 dM_addNumbers_333 (by decide) (fun c333 => ?_) (fun c9 => False.elim (absurd c9 (by decide)))
              refine z_iload (pc := 343) hZ 3 dM_addNumbers_343 rfl ?_
              have RR : RT (v299_48.toInt.toNat * 2 ^ (v103_12.toInt + (OFF : Int)).toNat) false = RT (sc na.toInt ea.toInt + sc nb.toInt eb.toInt).natAbs false := by first | exact (adn_s FG FS SX.1 BY BB GX (nokey_).2 nokey_ (nokey_).2 BD1 BD2 nokey_ nokey_ (SC SS) G0 T0).trans (congrArg (fun z => RT z false) CM) | exact (adn_d FG FS SX.1 BY BB GX SW (p296_47).1 (p296_47).2 ev299_48 (fun q => SS (SD q)) G0 T0).trans (congrArg (fun z => RT z false) CM)
              refine z_iload (pc := 345) hZ 1 dM_addNumbers_345 rfl ?_
              refine z_callV (pc := 347) (As := [.long v299_48, .int v103_12, .int 0]) (rest := []) hZ (cM_nearest l D cR c1 c2 c3 h0 a1 a2 a3 Y ka na ea kb nb eb k n e bits scale K N E v299_48 v103_12 0 (by exact SZ.1) (by exact SZ.2) (by first | exact ad_e X1 nokey_ | exact ad_e X2 nokey_ | (have := X1; have := X2; omega))) zyM_nearest (z_goodV ml_M_43 im_M_nearest se_M_nearest in_M co_M_nearest) 0 rfl rfl rfl rfl (by decide) rfl rfl (Nat.le_of_ble_eq_true rfl) ⟨Nat.zero_le _, Nat.zero_le _⟩ dM_addNumbers_347 (z_kv (fun w1 tys1 hp => ?_))
              obtain ⟨k347_49, n347_49, e347_49, rfl, rfl, p347_49⟩ := hp
              exact z_retv (pc := 350) hZ dM_addNumbers_350 rfl ⟨rfl, _, _, _, rfl, rfl, (by exact ⟨((p347_49).1.1), ad_fin _ (sc_n0 (e := ea) c6_1) (sc_n0 (e := eb) c15_3) RR LS (p347_49).2.2⟩)⟩
          · have LS := HP 1 (sn_m c230_39)
            refine z_iconst (pc := 233) hZ 1 dM_addNumbers_233 (by decide) ?_
            refine z_goto (pc := 234) hZ 238 dM_addNumbers_234 (by decide) ?_
            refine z_istore (pc := 238) hZ [(16, .int 1), (15, .int v199_38), (14, .int v103_12), (12, .long v95_11), (10, .long v85_9), (9, .int 0), (8, .int v111_13), (7, .int v103_12), (5, .long v95_11), (3, .long v85_9), (2, .int r73_7), (1, .int r62_5), (0, .ref h0)] dM_addNumbers_238 (by decide) rfl ?_
            refine z_aload_n (pc := 240) hZ 12 dM_addNumbers_240 rfl rfl ?_
            refine z_get (pc := 241) (ci := 2) hZ 0 rfl rfl uc_M 4 (by decide) (zb fl_M_54) rfl dM_addNumbers_241 ?_
            refine z_lconst (pc := 244) hZ 0 dM_addNumbers_244 (by decide) ?_
            refine z_lif_ge (pc := 245) hZ 253 dM_addNumbers_245 dM_addNumbers_246 (by decide) (fun c9 => False.elim (by first | exact absurd c9 c230_39 | exact absurd c230_39 c9 | exact absurd c9 (Int64.not_lt.mpr c230_39) | exact absurd c9 (Int64.not_le.mpr c230_39) | exact c9 ((Int64.not_lt).mp c230_39) | exact c9 ((Int64.not_le).mp c230_39))) (fun c246 => ?_)
            refine z_iconst (pc := 249) hZ 1 dM_addNumbers_249 (by decide) ?_
            refine z_goto (pc := 250) hZ 254 dM_addNumbers_250 (by decide) ?_
            refine z_aload_n (pc := 254) hZ 12 dM_addNumbers_254 rfl rfl ?_
            refine z_get (pc := 255) (ci := 2) hZ 0 rfl rfl uc_M 7 (by decide) (zb fl_M_63) rfl dM_addNumbers_255 ?_
            refine z_lconst (pc := 258) hZ 0 dM_addNumbers_258 (by decide) ?_
            refine z_lif_ge (pc := 259) hZ 267 dM_addNumbers_259 dM_addNumbers_260 (by decide) (fun c260_50 => ?_) (fun c260_50 => ?_)
            · refine z_iconst (pc := 267) hZ 0 dM_addNumbers_267 (by decide) ?_
              refine z_icmp_ne (pc := 268) hZ 290 dM_addNumbers_268 (by decide) (fun c268 => ?_) (fun c9 => False.elim (absurd c9 (by decide)))
              have SS : ¬ (sc na.toInt ea.toInt).sign = (sc nb.toInt eb.toInt).sign := by first | exact sg_pm c246 c260_50 | exact sg_mp c246 c260_50
              refine z_lload (pc := 290) hZ 4 dM_addNumbers_290 rfl ?_
              refine z_lload (pc := 292) hZ 3 dM_addNumbers_292 rfl ?_
              refine z_iload (pc := 294) hZ 1 dM_addNumbers_294 rfl ?_
              refine z_callS (pc := 296) (As := [.long v95_11, .int v199_38]) (rest := [.long v85_9]) hZ (cM_down l D (TY cR c1 c2 c3) (MW h0 a1 a2 a3 c1 c2 c3 (ka, na, ea, kb, nb, eb, k, n, e, bits, scale, K, N, E) ++ Y) v95_11 v199_38 (by have := A1; have := A2; omega) (by have := A1; have := A2; omega) (by omega)) zyM_down (z_goodS ml_M_82 st_M_down in_M co_M_down) rfl rfl (by decide) rfl rfl (Nat.le_of_ble_eq_true rfl) ⟨Nat.zero_le _, Nat.zero_le _⟩ dM_addNumbers_296 (z_kl (fun r296_51 w1 tys1 hp => ?_))
              obtain ⟨rfl, rfl, p296_51⟩ := hp
              refine z_lsub (pc := 299) hZ dM_addNumbers_299 (fun v299_52 ev299_52 => ?_)
              have SZ : 0 ≤ v299_52.toInt ∧ v299_52.toInt < 4611686018427387904 := by first | exact ad_s1 ((nokey_).1) ((nokey_).1) B1 nokey_ | exact ad_s2 A1 SW BY ((p296_51).1) ev299_52 | exact ad_s2 A2 SW BY ((p296_51).1) ev299_52
              refine z_lstore (pc := 300) hZ [(17, .long v299_52), (16, .int 1), (15, .int v199_38), (14, .int v103_12), (12, .long v95_11), (10, .long v85_9), (9, .int 0), (8, .int v111_13), (7, .int v103_12), (5, .long v95_11), (3, .long v85_9), (2, .int r73_7), (1, .int r62_5), (0, .ref h0)] dM_addNumbers_300 (by decide) rfl ?_
              refine z_aload_n (pc := 302) hZ 13 dM_addNumbers_302 rfl rfl ?_
              refine z_lload (pc := 303) hZ 0 dM_addNumbers_303 rfl ?_
              refine z_aload_n (pc := 305) hZ 13 dM_addNumbers_305 rfl rfl ?_
              refine z_get (pc := 306) (ci := 2) hZ 0 rfl rfl uc_M 4 (by decide) (zb fl_M_54) rfl dM_addNumbers_306 ?_
              refine z_lconst (pc := 309) hZ 0 dM_addNumbers_309 (by decide) ?_
              refine z_lif_ge (pc := 310) hZ 318 dM_addNumbers_310 dM_addNumbers_311 (by decide) (fun c9 => False.elim (by first | exact absurd c9 c230_39 | exact absurd c230_39 c9 | exact absurd c9 (Int64.not_lt.mpr c230_39) | exact absurd c9 (Int64.not_le.mpr c230_39) | exact c9 ((Int64.not_lt).mp c230_39) | exact c9 ((Int64.not_le).mp c230_39))) (fun c311 => ?_)
              refine z_iconst (pc := 314) hZ 1 dM_addNumbers_314 (by decide) ?_
              refine z_goto (pc := 315) hZ 319 dM_addNumbers_315 (by decide) ?_
              refine z_aload_n (pc := 319) hZ 13 dM_addNumbers_319 rfl rfl ?_
              refine z_get (pc := 320) (ci := 2) hZ 0 rfl rfl uc_M 7 (by decide) (zb fl_M_63) rfl dM_addNumbers_320 ?_
              refine z_lconst (pc := 323) hZ 0 dM_addNumbers_323 (by decide) ?_
              refine z_lif_ge (pc := 324) hZ 332 dM_addNumbers_324 dM_addNumbers_325 (by decide) (fun c325 => ?_) (fun c9 => False.elim (by first | exact absurd c9 c260_50 | exact absurd c260_50 c9 | exact absurd c9 (Int64.not_lt.mpr c260_50) | exact absurd c9 (Int64.not_le.mpr c260_50) | exact c9 ((Int64.not_lt).mp c260_50) | exact c9 ((Int64.not_le).mp c260_50)))
              refine z_iconst (pc := 332) hZ 0 dM_addNumbers_332 (by decide) ?_
              refine z_icmp_ne (pc := 333) hZ 343 dM_addNumbers_333 (by decide) (fun c333 => ?_) (fun c9 => False.elim (absurd c9 (by decide)))
              refine z_iload (pc := 343) hZ 3 dM_addNumbers_343 rfl ?_
              have RR : RT (v299_52.toInt.toNat * 2 ^ (v103_12.toInt + (OFF : Int)).toNat) false = RT (sc na.toInt ea.toInt + sc nb.toInt eb.toInt).natAbs false := by first | exact (adn_s FG FS SX.1 BY BB GX (nokey_).2 nokey_ (nokey_).2 BD1 BD2 nokey_ nokey_ (SC SS) G0 T0).trans (congrArg (fun z => RT z false) CM) | exact (adn_d FG FS SX.1 BY BB GX SW (p296_51).1 (p296_51).2 ev299_52 (fun q => SS (SD q)) G0 T0).trans (congrArg (fun z => RT z false) CM)
              refine z_iload (pc := 345) hZ 1 dM_addNumbers_345 rfl ?_
              refine z_callV (pc := 347) (As := [.long v299_52, .int v103_12, .int 1]) (rest := []) hZ (cM_nearest l D cR c1 c2 c3 h0 a1 a2 a3 Y ka na ea kb nb eb k n e bits scale K N E v299_52 v103_12 1 (by exact SZ.1) (by exact SZ.2) (by first | exact ad_e X1 nokey_ | exact ad_e X2 nokey_ | (have := X1; have := X2; omega))) zyM_nearest (z_goodV ml_M_43 im_M_nearest se_M_nearest in_M co_M_nearest) 0 rfl rfl rfl rfl (by decide) rfl rfl (Nat.le_of_ble_eq_true rfl) ⟨Nat.zero_le _, Nat.zero_le _⟩ dM_addNumbers_347 (z_kv (fun w1 tys1 hp => ?_))
              obtain ⟨k347_53, n347_53, e347_53, rfl, rfl, p347_53⟩ := hp
              exact z_retv (pc := 350) hZ dM_addNumbers_350 rfl ⟨rfl, _, _, _, rfl, rfl, (by exact ⟨((p347_53).1.1), ad_fin _ (sc_n0 (e := ea) c6_1) (sc_n0 (e := eb) c15_3) RR LS (p347_53).2.2⟩)⟩
            · refine z_iconst (pc := 263) hZ 1 dM_addNumbers_263 (by decide) ?_
              refine z_goto (pc := 264) hZ 268 dM_addNumbers_264 (by decide) ?_
              refine z_icmp_ne (pc := 268) hZ 290 dM_addNumbers_268 (by decide) (fun c9 => False.elim (absurd c9 (by decide))) (fun c268 => ?_)
              have SS : (sc na.toInt ea.toInt).sign = (sc nb.toInt eb.toInt).sign := by first | exact sg_pp c246 c260_50 c6_1 c15_3 | exact sg_mm c246 c260_50
              refine z_lload (pc := 271) hZ 4 dM_addNumbers_271 rfl ?_
              refine z_iconst (pc := 273) hZ 1 dM_addNumbers_273 (by decide) ?_
              refine z_callS (pc := 274) (As := [.long v85_9, .int 1]) (rest := []) hZ (cM_down l D (TY cR c1 c2 c3) (MW h0 a1 a2 a3 c1 c2 c3 (ka, na, ea, kb, nb, eb, k, n, e, bits, scale, K, N, E) ++ Y) v85_9 1 (by have := A1; have := A2; omega) (by have := A1; have := A2; omega) (by decide)) zyM_down (z_goodS ml_M_82 st_M_down in_M co_M_down) rfl rfl (by decide) rfl rfl (Nat.le_of_ble_eq_true rfl) ⟨Nat.zero_le _, Nat.zero_le _⟩ dM_addNumbers_274 (z_kl (fun r274_54 w1 tys1 hp => ?_))
              obtain ⟨rfl, rfl, p274_54⟩ := hp
              refine z_lload (pc := 277) hZ 3 dM_addNumbers_277 rfl ?_
              refine z_iload (pc := 279) hZ 1 dM_addNumbers_279 rfl ?_
              refine z_iconst (pc := 281) hZ 1 dM_addNumbers_281 (by decide) ?_
              refine z_iadd (pc := 282) hZ dM_addNumbers_282 (fun v282_55 ev282_55 => ?_)
              have B1 := ad_1 BB ev282_55
              refine z_callS (pc := 283) (As := [.long v95_11, .int v282_55]) (rest := [.long r274_54]) hZ (cM_down l D (TY cR c1 c2 c3) (MW h0 a1 a2 a3 c1 c2 c3 (ka, na, ea, kb, nb, eb, k, n, e, bits, scale, K, N, E) ++ Y) v95_11 v282_55 (by have := A1; have := A2; omega) (by have := A1; have := A2; omega) (by omega)) zyM_down (z_goodS ml_M_82 st_M_down in_M co_M_down) rfl rfl (by decide) rfl rfl (Nat.le_of_ble_eq_true rfl) ⟨Nat.zero_le _, Nat.zero_le _⟩ dM_addNumbers_283 (z_kl (fun r283_56 w1 tys1 hp => ?_))
              obtain ⟨rfl, rfl, p283_56⟩ := hp
              have BD1 : 0 ≤ r274_54.toInt ∧ r274_54.toInt < 2305843009213693952 := ⟨(p274_54).1.1, (p274_54).1.2.2 (by decide)⟩
              have BD2 : 0 ≤ r283_56.toInt ∧ r283_56.toInt < 2305843009213693952 := ⟨(p283_56).1.1, (p283_56).1.2.2 B1⟩
              refine z_ladd (pc := 286) hZ dM_addNumbers_286 (fun v286_57 ev286_57 => ?_)
              refine z_goto (pc := 287) hZ 300 dM_addNumbers_287 (by decide) ?_
              have SZ : 0 ≤ v286_57.toInt ∧ v286_57.toInt < 4611686018427387904 := by first | exact ad_s1 ((p274_54).1) ((p283_56).1) B1 ev286_57 | exact ad_s2 A1 SW BY ((nokey_).1) nokey_ | exact ad_s2 A2 SW BY ((nokey_).1) nokey_
              refine z_lstore (pc := 300) hZ [(17, .long v286_57), (16, .int 1), (15, .int v199_38), (14, .int v103_12), (12, .long v95_11), (10, .long v85_9), (9, .int 0), (8, .int v111_13), (7, .int v103_12), (5, .long v95_11), (3, .long v85_9), (2, .int r73_7), (1, .int r62_5), (0, .ref h0)] dM_addNumbers_300 (by decide) rfl ?_
              refine z_aload_n (pc := 302) hZ 13 dM_addNumbers_302 rfl rfl ?_
              refine z_lload (pc := 303) hZ 0 dM_addNumbers_303 rfl ?_
              refine z_aload_n (pc := 305) hZ 13 dM_addNumbers_305 rfl rfl ?_
              refine z_get (pc := 306) (ci := 2) hZ 0 rfl rfl uc_M 4 (by decide) (zb fl_M_54) rfl dM_addNumbers_306 ?_
              refine z_lconst (pc := 309) hZ 0 dM_addNumbers_309 (by decide) ?_
              refine z_lif_ge (pc := 310) hZ 318 dM_addNumbers_310 dM_addNumbers_311 (by decide) (fun c9 => False.elim (by first | exact absurd c9 c230_39 | exact absurd c230_39 c9 | exact absurd c9 (Int64.not_lt.mpr c230_39) | exact absurd c9 (Int64.not_le.mpr c230_39) | exact c9 ((Int64.not_lt).mp c230_39) | exact c9 ((Int64.not_le).mp c230_39))) (fun c311 => ?_)
              refine z_iconst (pc := 314) hZ 1 dM_addNumbers_314 (by decide) ?_
              refine z_goto (pc := 315) hZ 319 dM_addNumbers_315 (by decide) ?_
              refine z_aload_n (pc := 319) hZ 13 dM_addNumbers_319 rfl rfl ?_
              refine z_get (pc := 320) (ci := 2) hZ 0 rfl rfl uc_M 7 (by decide) (zb fl_M_63) rfl dM_addNumbers_320 ?_
              refine z_lconst (pc := 323) hZ 0 dM_addNumbers_323 (by decide) ?_
              refine z_lif_ge (pc := 324) hZ 332 dM_addNumbers_324 dM_addNumbers_325 (by decide) (fun c9 => False.elim (by first | exact absurd c9 c260_50 | exact absurd c260_50 c9 | exact absurd c9 (Int64.not_lt.mpr c260_50) | exact absurd c9 (Int64.not_le.mpr c260_50) | exact c9 ((Int64.not_lt).mp c260_50) | exact c9 ((Int64.not_le).mp c260_50))) (fun c325 => ?_)
              refine z_iconst (pc := 328) hZ 1 dM_addNumbers_328 (by decide) ?_
              refine z_goto (pc := 329) hZ 333 dM_addNumbers_329 (by decide) ?_
              refine z_icmp_ne (pc := 333) hZ 343 dM_addNumbers_333 (by decide) (fun c9 => False.elim (absurd c9 (by decide))) (fun c333 => ?_)
              refine z_iload (pc := 336) hZ 3 dM_addNumbers_336 rfl ?_
              refine z_iconst (pc := 338) hZ 1 dM_addNumbers_338 (by decide) ?_
              refine z_iadd (pc := 339) hZ dM_addNumbers_339 (fun v339_58 ev339_58 => ?_)
              refine z_goto (pc := 340) hZ 345 dM_addNumbers_340 (by decide) ?_
              have RR : RT (v286_57.toInt.toNat * 2 ^ (v339_58.toInt + (OFF : Int)).toNat) false = RT (sc na.toInt ea.toInt + sc nb.toInt eb.toInt).natAbs false := by first | exact (adn_s FG FS SX.1 BY BB GX (p274_54).2 ev282_55 (p283_56).2 BD1 BD2 ev286_57 ev339_58 (SC SS) G0 T0).trans (congrArg (fun z => RT z false) CM) | exact (adn_d FG FS SX.1 BY BB GX SW (nokey_).1 (nokey_).2 nokey_ (fun q => SS (SD q)) G0 T0).trans (congrArg (fun z => RT z false) CM)
              refine z_iload (pc := 345) hZ 1 dM_addNumbers_345 rfl ?_
              refine z_callV (pc := 347) (As := [.long v286_57, .int v339_58, .int 1]) (rest := []) hZ (cM_nearest l D cR c1 c2 c3 h0 a1 a2 a3 Y ka na ea kb nb eb k n e bits scale K N E v286_57 v339_58 1 (by exact SZ.1) (by exact SZ.2) (by first | exact ad_e X1 ev339_58 | exact ad_e X2 ev339_58 | (have := X1; have := X2; omega))) zyM_nearest (z_goodV ml_M_43 im_M_nearest se_M_nearest in_M co_M_nearest) 0 rfl rfl rfl rfl (by decide) rfl rfl (Nat.le_of_ble_eq_true rfl) ⟨Nat.zero_le _, Nat.zero_le _⟩ dM_addNumbers_347 (z_kv (fun w1 tys1 hp => ?_))
              obtain ⟨k347_59, n347_59, e347_59, rfl, rfl, p347_59⟩ := hp
              exact z_retv (pc := 350) hZ dM_addNumbers_350 rfl ⟨rfl, _, _, _, rfl, rfl, (by exact ⟨((p347_59).1.1), ad_fin _ (sc_n0 (e := ea) c6_1) (sc_n0 (e := eb) c15_3) RR LS (p347_59).2.2⟩)⟩
        · refine z_lload (pc := 128) hZ 2 dM_addNumbers_128 rfl ?_
          refine z_lload_n (pc := 130) hZ 3 dM_addNumbers_130 rfl rfl ?_
          refine z_lif_le (pc := 131) hZ 139 dM_addNumbers_131 dM_addNumbers_132 (by decide) (fun c132_60 => ?_) (fun c132_60 => ?_)
          · have SW : SWP v111_13 v103_12 v95_11 v85_9 := by first | exact sw_4 c125_37 c132_60 | exact sw_3 c118_14 c125_37
            have FG := (adv_of ga c6_1 p59_4 p62_5 p81_8 ev85_9 ev103_12)
            have FS := (adv_of gb c15_3 p70_6 p73_7 p91_10 ev95_11 ev111_13)
            have GX := X1
            have SX := X2
            have G0 := (sc_n0 (e := ea) c6_1)
            have T0 := (sc_n0 (e := eb) c15_3)
            have LE := adv_le (y := 0) FG FS SX.1 GX.1 SW
            have CM : (sc na.toInt ea.toInt + sc nb.toInt eb.toInt).natAbs = (sc na.toInt ea.toInt + sc nb.toInt eb.toInt).natAbs := rfl
            have SC : (sc na.toInt ea.toInt).sign = (sc nb.toInt eb.toInt).sign → (sc na.toInt ea.toInt).sign = (sc nb.toInt eb.toInt).sign := id
            have SD : (sc na.toInt ea.toInt).sign = (sc nb.toInt eb.toInt).sign → (sc na.toInt ea.toInt).sign = (sc nb.toInt eb.toInt).sign := id
            have HP : ∀ p : Int32, bb p = decide (sc na.toInt ea.toInt < 0) → (bb p = decide (sc na.toInt ea.toInt < 0) ∧ (sc nb.toInt eb.toInt).natAbs ≤ (sc na.toInt ea.toInt).natAbs) ∨ (bb p = decide (sc nb.toInt eb.toInt < 0) ∧ (sc na.toInt ea.toInt).natAbs ≤ (sc nb.toInt eb.toInt).natAbs) := fun p h => Or.inl ⟨h, LE⟩
            refine z_iconst (pc := 139) hZ 0 dM_addNumbers_139 (by decide) ?_
            refine z_istore (pc := 140) hZ [(9, .int 0), (8, .int v111_13), (7, .int v103_12), (5, .long v95_11), (3, .long v85_9), (2, .int r73_7), (1, .int r62_5), (0, .ref h0)] dM_addNumbers_140 (by decide) rfl ?_
            refine z_iload (pc := 142) hZ 0 dM_addNumbers_142 rfl ?_
            refine z_if_eq (pc := 144) hZ 152 dM_addNumbers_144 (by decide) (fun c144 => ?_) (fun c9 => False.elim (absurd c9 (by decide)))
            refine z_lload_n (pc := 152) hZ 4 dM_addNumbers_152 rfl rfl ?_
            refine z_lstore (pc := 153) hZ [(10, .long v85_9), (9, .int 0), (8, .int v111_13), (7, .int v103_12), (5, .long v95_11), (3, .long v85_9), (2, .int r73_7), (1, .int r62_5), (0, .ref h0)] dM_addNumbers_153 (by decide) rfl ?_
            refine z_iload (pc := 155) hZ 1 dM_addNumbers_155 rfl ?_
            refine z_if_eq (pc := 157) hZ 164 dM_addNumbers_157 (by decide) (fun c157 => ?_) (fun c9 => False.elim (absurd c9 (by decide)))
            refine z_lload (pc := 164) hZ 4 dM_addNumbers_164 rfl ?_
            refine z_lstore (pc := 166) hZ [(12, .long v95_11), (10, .long v85_9), (9, .int 0), (8, .int v111_13), (7, .int v103_12), (5, .long v95_11), (3, .long v85_9), (2, .int r73_7), (1, .int r62_5), (0, .ref h0)] dM_addNumbers_166 (by decide) rfl ?_
            refine z_iload (pc := 168) hZ 2 dM_addNumbers_168 rfl ?_
            refine z_if_eq (pc := 170) hZ 178 dM_addNumbers_170 (by decide) (fun c170 => ?_) (fun c9 => False.elim (absurd c9 (by decide)))
            refine z_iload (pc := 178) hZ 4 dM_addNumbers_178 rfl ?_
            refine z_istore (pc := 180) hZ [(14, .int v103_12), (12, .long v95_11), (10, .long v85_9), (9, .int 0), (8, .int v111_13), (7, .int v103_12), (5, .long v95_11), (3, .long v85_9), (2, .int r73_7), (1, .int r62_5), (0, .ref h0)] dM_addNumbers_180 (by decide) rfl ?_
            refine z_iload (pc := 182) hZ 3 dM_addNumbers_182 rfl ?_
            refine z_if_eq (pc := 184) hZ 195 dM_addNumbers_184 (by decide) (fun c184 => ?_) (fun c9 => False.elim (absurd c9 (by decide)))
            refine z_iload (pc := 195) hZ 5 dM_addNumbers_195 rfl ?_
            refine z_iload (pc := 197) hZ 4 dM_addNumbers_197 rfl ?_
            refine z_isub (pc := 199) hZ dM_addNumbers_199 (fun v199_61 ev199_61 => ?_)
            first | (have BY := ad_by X1 X2 ev199_61) | skip
            first | (have BB := sw_b X2 X1 SW BY) | skip
            first | (have GG := A1) | skip
            refine z_istore (pc := 200) hZ [(15, .int v199_61), (14, .int v103_12), (12, .long v95_11), (10, .long v85_9), (9, .int 0), (8, .int v111_13), (7, .int v103_12), (5, .long v95_11), (3, .long v85_9), (2, .int r73_7), (1, .int r62_5), (0, .ref h0)] dM_addNumbers_200 (by decide) rfl ?_
            refine z_iload (pc := 202) hZ 4 dM_addNumbers_202 rfl ?_
            refine z_if_eq (pc := 204) hZ 224 dM_addNumbers_204 (by decide) (fun c204 => ?_) (fun c9 => False.elim (absurd c9 (by decide)))
            refine z_aload_n (pc := 224) hZ 11 dM_addNumbers_224 rfl rfl ?_
            refine z_get (pc := 225) (ci := 2) hZ 0 rfl rfl uc_M 4 (by decide) (zb fl_M_54) rfl dM_addNumbers_225 ?_
            refine z_lconst (pc := 228) hZ 0 dM_addNumbers_228 (by decide) ?_
            refine z_lif_ge (pc := 229) hZ 237 dM_addNumbers_229 dM_addNumbers_230 (by decide) (fun c230_62 => ?_) (fun c230_62 => ?_)
            · have LS := HP 0 (sn_p c230_62)
              refine z_iconst (pc := 237) hZ 0 dM_addNumbers_237 (by decide) ?_
              refine z_istore (pc := 238) hZ [(16, .int 0), (15, .int v199_61), (14, .int v103_12), (12, .long v95_11), (10, .long v85_9), (9, .int 0), (8, .int v111_13), (7, .int v103_12), (5, .long v95_11), (3, .long v85_9), (2, .int r73_7), (1, .int r62_5), (0, .ref h0)] dM_addNumbers_238 (by decide) rfl ?_
              refine z_aload_n (pc := 240) hZ 12 dM_addNumbers_240 rfl rfl ?_
              refine z_get (pc := 241) (ci := 2) hZ 0 rfl rfl uc_M 4 (by decide) (zb fl_M_54) rfl dM_addNumbers_241 ?_
              refine z_lconst (pc := 244) hZ 0 dM_addNumbers_244 (by decide) ?_
              refine z_lif_ge (pc := 245) hZ 253 dM_addNumbers_245 dM_addNumbers_246 (by decide) (fun c246 => ?_) (fun c9 => False.elim (by first | exact absurd c9 c230_62 | exact absurd c230_62 c9 | exact absurd c9 (Int64.not_lt.mpr c230_62) | exact absurd c9 (Int64.not_le.mpr c230_62) | exact c9 ((Int64.not_lt).mp c230_62) | exact c9 ((Int64.not_le).mp c230_62)))
              refine z_iconst (pc := 253) hZ 0 dM_addNumbers_253 (by decide) ?_
              refine z_aload_n (pc := 254) hZ 12 dM_addNumbers_254 rfl rfl ?_
              refine z_get (pc := 255) (ci := 2) hZ 0 rfl rfl uc_M 7 (by decide) (zb fl_M_63) rfl dM_addNumbers_255 ?_
              refine z_lconst (pc := 258) hZ 0 dM_addNumbers_258 (by decide) ?_
              refine z_lif_ge (pc := 259) hZ 267 dM_addNumbers_259 dM_addNumbers_260 (by decide) (fun c260_63 => ?_) (fun c260_63 => ?_)
              · refine z_iconst (pc := 267) hZ 0 dM_addNumbers_267 (by decide) ?_
                refine z_icmp_ne (pc := 268) hZ 290 dM_addNumbers_268 (by decide) (fun c9 => False.elim (absurd c9 (by decide))) (fun c268 => ?_)
                have SS : (sc na.toInt ea.toInt).sign = (sc nb.toInt eb.toInt).sign := by first | exact sg_pp c246 c260_63 c6_1 c15_3 | exact sg_mm c246 c260_63
                refine z_lload (pc := 271) hZ 4 dM_addNumbers_271 rfl ?_
                refine z_iconst (pc := 273) hZ 1 dM_addNumbers_273 (by decide) ?_
                refine z_callS (pc := 274) (As := [.long v85_9, .int 1]) (rest := []) hZ (cM_down l D (TY cR c1 c2 c3) (MW h0 a1 a2 a3 c1 c2 c3 (ka, na, ea, kb, nb, eb, k, n, e, bits, scale, K, N, E) ++ Y) v85_9 1 (by have := A1; have := A2; omega) (by have := A1; have := A2; omega) (by decide)) zyM_down (z_goodS ml_M_82 st_M_down in_M co_M_down) rfl rfl (by decide) rfl rfl (Nat.le_of_ble_eq_true rfl) ⟨Nat.zero_le _, Nat.zero_le _⟩ dM_addNumbers_274 (z_kl (fun r274_64 w1 tys1 hp => ?_))
                obtain ⟨rfl, rfl, p274_64⟩ := hp
                refine z_lload (pc := 277) hZ 3 dM_addNumbers_277 rfl ?_
                refine z_iload (pc := 279) hZ 1 dM_addNumbers_279 rfl ?_
                refine z_iconst (pc := 281) hZ 1 dM_addNumbers_281 (by decide) ?_
                refine z_iadd (pc := 282) hZ dM_addNumbers_282 (fun v282_65 ev282_65 => ?_)
                have B1 := ad_1 BB ev282_65
                refine z_callS (pc := 283) (As := [.long v95_11, .int v282_65]) (rest := [.long r274_64]) hZ (cM_down l D (TY cR c1 c2 c3) (MW h0 a1 a2 a3 c1 c2 c3 (ka, na, ea, kb, nb, eb, k, n, e, bits, scale, K, N, E) ++ Y) v95_11 v282_65 (by have := A1; have := A2; omega) (by have := A1; have := A2; omega) (by omega)) zyM_down (z_goodS ml_M_82 st_M_down in_M co_M_down) rfl rfl (by decide) rfl rfl (Nat.le_of_ble_eq_true rfl) ⟨Nat.zero_le _, Nat.zero_le _⟩ dM_addNumbers_283 (z_kl (fun r283_66 w1 tys1 hp => ?_))
                obtain ⟨rfl, rfl, p283_66⟩ := hp
                have BD1 : 0 ≤ r274_64.toInt ∧ r274_64.toInt < 2305843009213693952 := ⟨(p274_64).1.1, (p274_64).1.2.2 (by decide)⟩
                have BD2 : 0 ≤ r283_66.toInt ∧ r283_66.toInt < 2305843009213693952 := ⟨(p283_66).1.1, (p283_66).1.2.2 B1⟩
                refine z_ladd (pc := 286) hZ dM_addNumbers_286 (fun v286_67 ev286_67 => ?_)
                refine z_goto (pc := 287) hZ 300 dM_addNumbers_287 (by decide) ?_
                have SZ : 0 ≤ v286_67.toInt ∧ v286_67.toInt < 4611686018427387904 := by first | exact ad_s1 ((p274_64).1) ((p283_66).1) B1 ev286_67 | exact ad_s2 A1 SW BY ((nokey_).1) nokey_ | exact ad_s2 A2 SW BY ((nokey_).1) nokey_
                refine z_lstore (pc := 300) hZ [(17, .long v286_67), (16, .int 0), (15, .int v199_61), (14, .int v103_12), (12, .long v95_11), (10, .long v85_9), (9, .int 0), (8, .int v111_13), (7, .int v103_12), (5, .long v95_11), (3, .long v85_9), (2, .int r73_7), (1, .int r62_5), (0, .ref h0)] dM_addNumbers_300 (by decide) rfl ?_
                refine z_aload_n (pc := 302) hZ 13 dM_addNumbers_302 rfl rfl ?_
                refine z_lload (pc := 303) hZ 0 dM_addNumbers_303 rfl ?_
                refine z_aload_n (pc := 305) hZ 13 dM_addNumbers_305 rfl rfl ?_
                refine z_get (pc := 306) (ci := 2) hZ 0 rfl rfl uc_M 4 (by decide) (zb fl_M_54) rfl dM_addNumbers_306 ?_
                refine z_lconst (pc := 309) hZ 0 dM_addNumbers_309 (by decide) ?_
                refine z_lif_ge (pc := 310) hZ 318 dM_addNumbers_310 dM_addNumbers_311 (by decide) (fun c311 => ?_) (fun c9 => False.elim (by first | exact absurd c9 c230_62 | exact absurd c230_62 c9 | exact absurd c9 (Int64.not_lt.mpr c230_62) | exact absurd c9 (Int64.not_le.mpr c230_62) | exact c9 ((Int64.not_lt).mp c230_62) | exact c9 ((Int64.not_le).mp c230_62)))
                refine z_iconst (pc := 318) hZ 0 dM_addNumbers_318 (by decide) ?_
                refine z_aload_n (pc := 319) hZ 13 dM_addNumbers_319 rfl rfl ?_
                refine z_get (pc := 320) (ci := 2) hZ 0 rfl rfl uc_M 7 (by decide) (zb fl_M_63) rfl dM_addNumbers_320 ?_
                refine z_lconst (pc := 323) hZ 0 dM_addNumbers_323 (by decide) ?_
                refine z_lif_ge (pc := 324) hZ 332 dM_addNumbers_324 dM_addNumbers_325 (by decide) (fun c325 => ?_) (fun c9 => False.elim (by first | exact absurd c9 c260_63 | exact absurd c260_63 c9 | exact absurd c9 (Int64.not_lt.mpr c260_63) | exact absurd c9 (Int64.not_le.mpr c260_63) | exact c9 ((Int64.not_lt).mp c260_63) | exact c9 ((Int64.not_le).mp c260_63)))
                refine z_iconst (pc := 332) hZ 0 dM_addNumbers_332 (by decide) ?_
                refine z_icmp_ne (pc := 333) hZ 343 dM_addNumbers_333 (by decide) (fun c9 => False.elim (absurd c9 (by decide))) (fun c333 => ?_)
                refine z_iload (pc := 336) hZ 3 dM_addNumbers_336 rfl ?_
                refine z_iconst (pc := 338) hZ 1 dM_addNumbers_338 (by decide) ?_
                refine z_iadd (pc := 339) hZ dM_addNumbers_339 (fun v339_68 ev339_68 => ?_)
                refine z_goto (pc := 340) hZ 345 dM_addNumbers_340 (by decide) ?_
                have RR : RT (v286_67.toInt.toNat * 2 ^ (v339_68.toInt + (OFF : Int)).toNat) false = RT (sc na.toInt ea.toInt + sc nb.toInt eb.toInt).natAbs false := by first | exact (adn_s FG FS SX.1 BY BB GX (p274_64).2 ev282_65 (p283_66).2 BD1 BD2 ev286_67 ev339_68 (SC SS) G0 T0).trans (congrArg (fun z => RT z false) CM) | exact (adn_d FG FS SX.1 BY BB GX SW (nokey_).1 (nokey_).2 nokey_ (fun q => SS (SD q)) G0 T0).trans (congrArg (fun z => RT z false) CM)
                refine z_iload (pc := 345) hZ 1 dM_addNumbers_345 rfl ?_
                refine z_callV (pc := 347) (As := [.long v286_67, .int v339_68, .int 0]) (rest := []) hZ (cM_nearest l D cR c1 c2 c3 h0 a1 a2 a3 Y ka na ea kb nb eb k n e bits scale K N E v286_67 v339_68 0 (by exact SZ.1) (by exact SZ.2) (by first | exact ad_e X1 ev339_68 | exact ad_e X2 ev339_68 | (have := X1; have := X2; omega))) zyM_nearest (z_goodV ml_M_43 im_M_nearest se_M_nearest in_M co_M_nearest) 0 rfl rfl rfl rfl (by decide) rfl rfl (Nat.le_of_ble_eq_true rfl) ⟨Nat.zero_le _, Nat.zero_le _⟩ dM_addNumbers_347 (z_kv (fun w1 tys1 hp => ?_))
                obtain ⟨k347_69, n347_69, e347_69, rfl, rfl, p347_69⟩ := hp
                exact z_retv (pc := 350) hZ dM_addNumbers_350 rfl ⟨rfl, _, _, _, rfl, rfl, (by exact ⟨((p347_69).1.1), ad_fin _ (sc_n0 (e := ea) c6_1) (sc_n0 (e := eb) c15_3) RR LS (p347_69).2.2⟩)⟩
              · refine z_iconst (pc := 263) hZ 1 dM_addNumbers_263 (by decide) ?_
                refine z_goto (pc := 264) hZ 268 dM_addNumbers_264 (by decide) ?_
                refine z_icmp_ne (pc := 268) hZ 290 dM_addNumbers_268 (by decide) (fun c268 => ?_) (fun c9 => False.elim (absurd c9 (by decide)))
                have SS : ¬ (sc na.toInt ea.toInt).sign = (sc nb.toInt eb.toInt).sign := by first | exact sg_pm c246 c260_63 | exact sg_mp c246 c260_63
                refine z_lload (pc := 290) hZ 4 dM_addNumbers_290 rfl ?_
                refine z_lload (pc := 292) hZ 3 dM_addNumbers_292 rfl ?_
                refine z_iload (pc := 294) hZ 1 dM_addNumbers_294 rfl ?_
                refine z_callS (pc := 296) (As := [.long v95_11, .int v199_61]) (rest := [.long v85_9]) hZ (cM_down l D (TY cR c1 c2 c3) (MW h0 a1 a2 a3 c1 c2 c3 (ka, na, ea, kb, nb, eb, k, n, e, bits, scale, K, N, E) ++ Y) v95_11 v199_61 (by have := A1; have := A2; omega) (by have := A1; have := A2; omega) (by omega)) zyM_down (z_goodS ml_M_82 st_M_down in_M co_M_down) rfl rfl (by decide) rfl rfl (Nat.le_of_ble_eq_true rfl) ⟨Nat.zero_le _, Nat.zero_le _⟩ dM_addNumbers_296 (z_kl (fun r296_70 w1 tys1 hp => ?_))
                obtain ⟨rfl, rfl, p296_70⟩ := hp
                refine z_lsub (pc := 299) hZ dM_addNumbers_299 (fun v299_71 ev299_71 => ?_)
                have SZ : 0 ≤ v299_71.toInt ∧ v299_71.toInt < 4611686018427387904 := by first | exact ad_s1 ((nokey_).1) ((nokey_).1) B1 nokey_ | exact ad_s2 A1 SW BY ((p296_70).1) ev299_71 | exact ad_s2 A2 SW BY ((p296_70).1) ev299_71
                refine z_lstore (pc := 300) hZ [(17, .long v299_71), (16, .int 0), (15, .int v199_61), (14, .int v103_12), (12, .long v95_11), (10, .long v85_9), (9, .int 0), (8, .int v111_13), (7, .int v103_12), (5, .long v95_11), (3, .long v85_9), (2, .int r73_7), (1, .int r62_5), (0, .ref h0)] dM_addNumbers_300 (by decide) rfl ?_
                refine z_aload_n (pc := 302) hZ 13 dM_addNumbers_302 rfl rfl ?_
                refine z_lload (pc := 303) hZ 0 dM_addNumbers_303 rfl ?_
                refine z_aload_n (pc := 305) hZ 13 dM_addNumbers_305 rfl rfl ?_
                refine z_get (pc := 306) (ci := 2) hZ 0 rfl rfl uc_M 4 (by decide) (zb fl_M_54) rfl dM_addNumbers_306 ?_
                refine z_lconst (pc := 309) hZ 0 dM_addNumbers_309 (by decide) ?_
                refine z_lif_ge (pc := 310) hZ 318 dM_addNumbers_310 dM_addNumbers_311 (by decide) (fun c311 => ?_) (fun c9 => False.elim (by first | exact absurd c9 c230_62 | exact absurd c230_62 c9 | exact absurd c9 (Int64.not_lt.mpr c230_62) | exact absurd c9 (Int64.not_le.mpr c230_62) | exact c9 ((Int64.not_lt).mp c230_62) | exact c9 ((Int64.not_le).mp c230_62)))
                refine z_iconst (pc := 318) hZ 0 dM_addNumbers_318 (by decide) ?_
                refine z_aload_n (pc := 319) hZ 13 dM_addNumbers_319 rfl rfl ?_
                refine z_get (pc := 320) (ci := 2) hZ 0 rfl rfl uc_M 7 (by decide) (zb fl_M_63) rfl dM_addNumbers_320 ?_
                refine z_lconst (pc := 323) hZ 0 dM_addNumbers_323 (by decide) ?_
                refine z_lif_ge (pc := 324) hZ 332 dM_addNumbers_324 dM_addNumbers_325 (by decide) (fun c9 => False.elim (by first | exact absurd c9 c260_63 | exact absurd c260_63 c9 | exact absurd c9 (Int64.not_lt.mpr c260_63) | exact absurd c9 (Int64.not_le.mpr c260_63) | exact c9 ((Int64.not_lt).mp c260_63) | exact c9 ((Int64.not_le).mp c260_63))) (fun c325 => ?_)
                refine z_iconst (pc := 328) hZ 1 dM_addNumbers_328 (by decide) ?_
                refine z_goto (pc := 329) hZ 333 dM_addNumbers_329 (by decide) ?_
                refine z_icmp_ne (pc := 333) hZ 343 dM_addNumbers_333 (by decide) (fun c333 => ?_) (fun c9 => False.elim (absurd c9 (by decide)))
                refine z_iload (pc := 343) hZ 3 dM_addNumbers_343 rfl ?_
                have RR : RT (v299_71.toInt.toNat * 2 ^ (v103_12.toInt + (OFF : Int)).toNat) false = RT (sc na.toInt ea.toInt + sc nb.toInt eb.toInt).natAbs false := by first | exact (adn_s FG FS SX.1 BY BB GX (nokey_).2 nokey_ (nokey_).2 BD1 BD2 nokey_ nokey_ (SC SS) G0 T0).trans (congrArg (fun z => RT z false) CM) | exact (adn_d FG FS SX.1 BY BB GX SW (p296_70).1 (p296_70).2 ev299_71 (fun q => SS (SD q)) G0 T0).trans (congrArg (fun z => RT z false) CM)
                refine z_iload (pc := 345) hZ 1 dM_addNumbers_345 rfl ?_
                refine z_callV (pc := 347) (As := [.long v299_71, .int v103_12, .int 0]) (rest := []) hZ (cM_nearest l D cR c1 c2 c3 h0 a1 a2 a3 Y ka na ea kb nb eb k n e bits scale K N E v299_71 v103_12 0 (by exact SZ.1) (by exact SZ.2) (by first | exact ad_e X1 nokey_ | exact ad_e X2 nokey_ | (have := X1; have := X2; omega))) zyM_nearest (z_goodV ml_M_43 im_M_nearest se_M_nearest in_M co_M_nearest) 0 rfl rfl rfl rfl (by decide) rfl rfl (Nat.le_of_ble_eq_true rfl) ⟨Nat.zero_le _, Nat.zero_le _⟩ dM_addNumbers_347 (z_kv (fun w1 tys1 hp => ?_))
                obtain ⟨k347_72, n347_72, e347_72, rfl, rfl, p347_72⟩ := hp
                exact z_retv (pc := 350) hZ dM_addNumbers_350 rfl ⟨rfl, _, _, _, rfl, rfl, (by exact ⟨((p347_72).1.1), ad_fin _ (sc_n0 (e := ea) c6_1) (sc_n0 (e := eb) c15_3) RR LS (p347_72).2.2⟩)⟩
            · have LS := HP 1 (sn_m c230_62)
              refine z_iconst (pc := 233) hZ 1 dM_addNumbers_233 (by decide) ?_
              refine z_goto (pc := 234) hZ 238 dM_addNumbers_234 (by decide) ?_
              refine z_istore (pc := 238) hZ [(16, .int 1), (15, .int v199_61), (14, .int v103_12), (12, .long v95_11), (10, .long v85_9), (9, .int 0), (8, .int v111_13), (7, .int v103_12), (5, .long v95_11), (3, .long v85_9), (2, .int r73_7), (1, .int r62_5), (0, .ref h0)] dM_addNumbers_238 (by decide) rfl ?_
              refine z_aload_n (pc := 240) hZ 12 dM_addNumbers_240 rfl rfl ?_
              refine z_get (pc := 241) (ci := 2) hZ 0 rfl rfl uc_M 4 (by decide) (zb fl_M_54) rfl dM_addNumbers_241 ?_
              refine z_lconst (pc := 244) hZ 0 dM_addNumbers_244 (by decide) ?_
              refine z_lif_ge (pc := 245) hZ 253 dM_addNumbers_245 dM_addNumbers_246 (by decide) (fun c9 => False.elim (by first | exact absurd c9 c230_62 | exact absurd c230_62 c9 | exact absurd c9 (Int64.not_lt.mpr c230_62) | exact absurd c9 (Int64.not_le.mpr c230_62) | exact c9 ((Int64.not_lt).mp c230_62) | exact c9 ((Int64.not_le).mp c230_62))) (fun c246 => ?_)
              refine z_iconst (pc := 249) hZ 1 dM_addNumbers_249 (by decide) ?_
              refine z_goto (pc := 250) hZ 254 dM_addNumbers_250 (by decide) ?_
              refine z_aload_n (pc := 254) hZ 12 dM_addNumbers_254 rfl rfl ?_
              refine z_get (pc := 255) (ci := 2) hZ 0 rfl rfl uc_M 7 (by decide) (zb fl_M_63) rfl dM_addNumbers_255 ?_
              refine z_lconst (pc := 258) hZ 0 dM_addNumbers_258 (by decide) ?_
              refine z_lif_ge (pc := 259) hZ 267 dM_addNumbers_259 dM_addNumbers_260 (by decide) (fun c260_73 => ?_) (fun c260_73 => ?_)
              · refine z_iconst (pc := 267) hZ 0 dM_addNumbers_267 (by decide) ?_
                refine z_icmp_ne (pc := 268) hZ 290 dM_addNumbers_268 (by decide) (fun c268 => ?_) (fun c9 => False.elim (absurd c9 (by decide)))
                have SS : ¬ (sc na.toInt ea.toInt).sign = (sc nb.toInt eb.toInt).sign := by first | exact sg_pm c246 c260_73 | exact sg_mp c246 c260_73
                refine z_lload (pc := 290) hZ 4 dM_addNumbers_290 rfl ?_
                refine z_lload (pc := 292) hZ 3 dM_addNumbers_292 rfl ?_
                refine z_iload (pc := 294) hZ 1 dM_addNumbers_294 rfl ?_
                refine z_callS (pc := 296) (As := [.long v95_11, .int v199_61]) (rest := [.long v85_9]) hZ (cM_down l D (TY cR c1 c2 c3) (MW h0 a1 a2 a3 c1 c2 c3 (ka, na, ea, kb, nb, eb, k, n, e, bits, scale, K, N, E) ++ Y) v95_11 v199_61 (by have := A1; have := A2; omega) (by have := A1; have := A2; omega) (by omega)) zyM_down (z_goodS ml_M_82 st_M_down in_M co_M_down) rfl rfl (by decide) rfl rfl (Nat.le_of_ble_eq_true rfl) ⟨Nat.zero_le _, Nat.zero_le _⟩ dM_addNumbers_296 (z_kl (fun r296_74 w1 tys1 hp => ?_))
                obtain ⟨rfl, rfl, p296_74⟩ := hp
                refine z_lsub (pc := 299) hZ dM_addNumbers_299 (fun v299_75 ev299_75 => ?_)
                have SZ : 0 ≤ v299_75.toInt ∧ v299_75.toInt < 4611686018427387904 := by first | exact ad_s1 ((nokey_).1) ((nokey_).1) B1 nokey_ | exact ad_s2 A1 SW BY ((p296_74).1) ev299_75 | exact ad_s2 A2 SW BY ((p296_74).1) ev299_75
                refine z_lstore (pc := 300) hZ [(17, .long v299_75), (16, .int 1), (15, .int v199_61), (14, .int v103_12), (12, .long v95_11), (10, .long v85_9), (9, .int 0), (8, .int v111_13), (7, .int v103_12), (5, .long v95_11), (3, .long v85_9), (2, .int r73_7), (1, .int r62_5), (0, .ref h0)] dM_addNumbers_300 (by decide) rfl ?_
                refine z_aload_n (pc := 302) hZ 13 dM_addNumbers_302 rfl rfl ?_
                refine z_lload (pc := 303) hZ 0 dM_addNumbers_303 rfl ?_
                refine z_aload_n (pc := 305) hZ 13 dM_addNumbers_305 rfl rfl ?_
                refine z_get (pc := 306) (ci := 2) hZ 0 rfl rfl uc_M 4 (by decide) (zb fl_M_54) rfl dM_addNumbers_306 ?_
                refine z_lconst (pc := 309) hZ 0 dM_addNumbers_309 (by decide) ?_
                refine z_lif_ge (pc := 310) hZ 318 dM_addNumbers_310 dM_addNumbers_311 (by decide) (fun c9 => False.elim (by first | exact absurd c9 c230_62 | exact absurd c230_62 c9 | exact absurd c9 (Int64.not_lt.mpr c230_62) | exact absurd c9 (Int64.not_le.mpr c230_62) | exact c9 ((Int64.not_lt).mp c230_62) | exact c9 ((Int64.not_le).mp c230_62))) (fun c311 => ?_)
                refine z_iconst (pc := 314) hZ 1 dM_addNumbers_314 (by decide) ?_
                refine z_goto (pc := 315) hZ 319 dM_addNumbers_315 (by decide) ?_
                refine z_aload_n (pc := 319) hZ 13 dM_addNumbers_319 rfl rfl ?_
                refine z_get (pc := 320) (ci := 2) hZ 0 rfl rfl uc_M 7 (by decide) (zb fl_M_63) rfl dM_addNumbers_320 ?_
                refine z_lconst (pc := 323) hZ 0 dM_addNumbers_323 (by decide) ?_
                refine z_lif_ge (pc := 324) hZ 332 dM_addNumbers_324 dM_addNumbers_325 (by decide) (fun c325 => ?_) (fun c9 => False.elim (by first | exact absurd c9 c260_73 | exact absurd c260_73 c9 | exact absurd c9 (Int64.not_lt.mpr c260_73) | exact absurd c9 (Int64.not_le.mpr c260_73) | exact c9 ((Int64.not_lt).mp c260_73) | exact c9 ((Int64.not_le).mp c260_73)))
                refine z_iconst (pc := 332) hZ 0 dM_addNumbers_332 (by decide) ?_
                refine z_icmp_ne (pc := 333) hZ 343 dM_addNumbers_333 (by decide) (fun c333 => ?_) (fun c9 => False.elim (absurd c9 (by decide)))
                refine z_iload (pc := 343) hZ 3 dM_addNumbers_343 rfl ?_
                have RR : RT (v299_75.toInt.toNat * 2 ^ (v103_12.toInt + (OFF : Int)).toNat) false = RT (sc na.toInt ea.toInt + sc nb.toInt eb.toInt).natAbs false := by first | exact (adn_s FG FS SX.1 BY BB GX (nokey_).2 nokey_ (nokey_).2 BD1 BD2 nokey_ nokey_ (SC SS) G0 T0).trans (congrArg (fun z => RT z false) CM) | exact (adn_d FG FS SX.1 BY BB GX SW (p296_74).1 (p296_74).2 ev299_75 (fun q => SS (SD q)) G0 T0).trans (congrArg (fun z => RT z false) CM)
                refine z_iload (pc := 345) hZ 1 dM_addNumbers_345 rfl ?_
                refine z_callV (pc := 347) (As := [.long v299_75, .int v103_12, .int 1]) (rest := []) hZ (cM_nearest l D cR c1 c2 c3 h0 a1 a2 a3 Y ka na ea kb nb eb k n e bits scale K N E v299_75 v103_12 1 (by exact SZ.1) (by exact SZ.2) (by first | exact ad_e X1 nokey_ | exact ad_e X2 nokey_ | (have := X1; have := X2; omega))) zyM_nearest (z_goodV ml_M_43 im_M_nearest se_M_nearest in_M co_M_nearest) 0 rfl rfl rfl rfl (by decide) rfl rfl (Nat.le_of_ble_eq_true rfl) ⟨Nat.zero_le _, Nat.zero_le _⟩ dM_addNumbers_347 (z_kv (fun w1 tys1 hp => ?_))
                obtain ⟨k347_76, n347_76, e347_76, rfl, rfl, p347_76⟩ := hp
                exact z_retv (pc := 350) hZ dM_addNumbers_350 rfl ⟨rfl, _, _, _, rfl, rfl, (by exact ⟨((p347_76).1.1), ad_fin _ (sc_n0 (e := ea) c6_1) (sc_n0 (e := eb) c15_3) RR LS (p347_76).2.2⟩)⟩
              · refine z_iconst (pc := 263) hZ 1 dM_addNumbers_263 (by decide) ?_
                refine z_goto (pc := 264) hZ 268 dM_addNumbers_264 (by decide) ?_
                refine z_icmp_ne (pc := 268) hZ 290 dM_addNumbers_268 (by decide) (fun c9 => False.elim (absurd c9 (by decide))) (fun c268 => ?_)
                have SS : (sc na.toInt ea.toInt).sign = (sc nb.toInt eb.toInt).sign := by first | exact sg_pp c246 c260_73 c6_1 c15_3 | exact sg_mm c246 c260_73
                refine z_lload (pc := 271) hZ 4 dM_addNumbers_271 rfl ?_
                refine z_iconst (pc := 273) hZ 1 dM_addNumbers_273 (by decide) ?_
                refine z_callS (pc := 274) (As := [.long v85_9, .int 1]) (rest := []) hZ (cM_down l D (TY cR c1 c2 c3) (MW h0 a1 a2 a3 c1 c2 c3 (ka, na, ea, kb, nb, eb, k, n, e, bits, scale, K, N, E) ++ Y) v85_9 1 (by have := A1; have := A2; omega) (by have := A1; have := A2; omega) (by decide)) zyM_down (z_goodS ml_M_82 st_M_down in_M co_M_down) rfl rfl (by decide) rfl rfl (Nat.le_of_ble_eq_true rfl) ⟨Nat.zero_le _, Nat.zero_le _⟩ dM_addNumbers_274 (z_kl (fun r274_77 w1 tys1 hp => ?_))
                obtain ⟨rfl, rfl, p274_77⟩ := hp
                refine z_lload (pc := 277) hZ 3 dM_addNumbers_277 rfl ?_
                refine z_iload (pc := 279) hZ 1 dM_addNumbers_279 rfl ?_
                refine z_iconst (pc := 281) hZ 1 dM_addNumbers_281 (by decide) ?_
                refine z_iadd (pc := 282) hZ dM_addNumbers_282 (fun v282_78 ev282_78 => ?_)
                have B1 := ad_1 BB ev282_78
                refine z_callS (pc := 283) (As := [.long v95_11, .int v282_78]) (rest := [.long r274_77]) hZ (cM_down l D (TY cR c1 c2 c3) (MW h0 a1 a2 a3 c1 c2 c3 (ka, na, ea, kb, nb, eb, k, n, e, bits, scale, K, N, E) ++ Y) v95_11 v282_78 (by have := A1; have := A2; omega) (by have := A1; have := A2; omega) (by omega)) zyM_down (z_goodS ml_M_82 st_M_down in_M co_M_down) rfl rfl (by decide) rfl rfl (Nat.le_of_ble_eq_true rfl) ⟨Nat.zero_le _, Nat.zero_le _⟩ dM_addNumbers_283 (z_kl (fun r283_79 w1 tys1 hp => ?_))
                obtain ⟨rfl, rfl, p283_79⟩ := hp
                have BD1 : 0 ≤ r274_77.toInt ∧ r274_77.toInt < 2305843009213693952 := ⟨(p274_77).1.1, (p274_77).1.2.2 (by decide)⟩
                have BD2 : 0 ≤ r283_79.toInt ∧ r283_79.toInt < 2305843009213693952 := ⟨(p283_79).1.1, (p283_79).1.2.2 B1⟩
                refine z_ladd (pc := 286) hZ dM_addNumbers_286 (fun v286_80 ev286_80 => ?_)
                refine z_goto (pc := 287) hZ 300 dM_addNumbers_287 (by decide) ?_
                have SZ : 0 ≤ v286_80.toInt ∧ v286_80.toInt < 4611686018427387904 := by first | exact ad_s1 ((p274_77).1) ((p283_79).1) B1 ev286_80 | exact ad_s2 A1 SW BY ((nokey_).1) nokey_ | exact ad_s2 A2 SW BY ((nokey_).1) nokey_
                refine z_lstore (pc := 300) hZ [(17, .long v286_80), (16, .int 1), (15, .int v199_61), (14, .int v103_12), (12, .long v95_11), (10, .long v85_9), (9, .int 0), (8, .int v111_13), (7, .int v103_12), (5, .long v95_11), (3, .long v85_9), (2, .int r73_7), (1, .int r62_5), (0, .ref h0)] dM_addNumbers_300 (by decide) rfl ?_
                refine z_aload_n (pc := 302) hZ 13 dM_addNumbers_302 rfl rfl ?_
                refine z_lload (pc := 303) hZ 0 dM_addNumbers_303 rfl ?_
                refine z_aload_n (pc := 305) hZ 13 dM_addNumbers_305 rfl rfl ?_
                refine z_get (pc := 306) (ci := 2) hZ 0 rfl rfl uc_M 4 (by decide) (zb fl_M_54) rfl dM_addNumbers_306 ?_
                refine z_lconst (pc := 309) hZ 0 dM_addNumbers_309 (by decide) ?_
                refine z_lif_ge (pc := 310) hZ 318 dM_addNumbers_310 dM_addNumbers_311 (by decide) (fun c9 => False.elim (by first | exact absurd c9 c230_62 | exact absurd c230_62 c9 | exact absurd c9 (Int64.not_lt.mpr c230_62) | exact absurd c9 (Int64.not_le.mpr c230_62) | exact c9 ((Int64.not_lt).mp c230_62) | exact c9 ((Int64.not_le).mp c230_62))) (fun c311 => ?_)
                refine z_iconst (pc := 314) hZ 1 dM_addNumbers_314 (by decide) ?_
                refine z_goto (pc := 315) hZ 319 dM_addNumbers_315 (by decide) ?_
                refine z_aload_n (pc := 319) hZ 13 dM_addNumbers_319 rfl rfl ?_
                refine z_get (pc := 320) (ci := 2) hZ 0 rfl rfl uc_M 7 (by decide) (zb fl_M_63) rfl dM_addNumbers_320 ?_
                refine z_lconst (pc := 323) hZ 0 dM_addNumbers_323 (by decide) ?_
                refine z_lif_ge (pc := 324) hZ 332 dM_addNumbers_324 dM_addNumbers_325 (by decide) (fun c9 => False.elim (by first | exact absurd c9 c260_73 | exact absurd c260_73 c9 | exact absurd c9 (Int64.not_lt.mpr c260_73) | exact absurd c9 (Int64.not_le.mpr c260_73) | exact c9 ((Int64.not_lt).mp c260_73) | exact c9 ((Int64.not_le).mp c260_73))) (fun c325 => ?_)
                refine z_iconst (pc := 328) hZ 1 dM_addNumbers_328 (by decide) ?_
                refine z_goto (pc := 329) hZ 333 dM_addNumbers_329 (by decide) ?_
                refine z_icmp_ne (pc := 333) hZ 343 dM_addNumbers_333 (by decide) (fun c9 => False.elim (absurd c9 (by decide))) (fun c333 => ?_)
                refine z_iload (pc := 336) hZ 3 dM_addNumbers_336 rfl ?_
                refine z_iconst (pc := 338) hZ 1 dM_addNumbers_338 (by decide) ?_
                refine z_iadd (pc := 339) hZ dM_addNumbers_339 (fun v339_81 ev339_81 => ?_)
                refine z_goto (pc := 340) hZ 345 dM_addNumbers_340 (by decide) ?_
                have RR : RT (v286_80.toInt.toNat * 2 ^ (v339_81.toInt + (OFF : Int)).toNat) false = RT (sc na.toInt ea.toInt + sc nb.toInt eb.toInt).natAbs false := by first | exact (adn_s FG FS SX.1 BY BB GX (p274_77).2 ev282_78 (p283_79).2 BD1 BD2 ev286_80 ev339_81 (SC SS) G0 T0).trans (congrArg (fun z => RT z false) CM) | exact (adn_d FG FS SX.1 BY BB GX SW (nokey_).1 (nokey_).2 nokey_ (fun q => SS (SD q)) G0 T0).trans (congrArg (fun z => RT z false) CM)
                refine z_iload (pc := 345) hZ 1 dM_addNumbers_345 rfl ?_
                refine z_callV (pc := 347) (As := [.long v286_80, .int v339_81, .int 1]) (rest := []) hZ (cM_nearest l D cR c1 c2 c3 h0 a1 a2 a3 Y ka na ea kb nb eb k n e bits scale K N E v286_80 v339_81 1 (by exact SZ.1) (by exact SZ.2) (by first | exact ad_e X1 ev339_81 | exact ad_e X2 ev339_81 | (have := X1; have := X2; omega))) zyM_nearest (z_goodV ml_M_43 im_M_nearest se_M_nearest in_M co_M_nearest) 0 rfl rfl rfl rfl (by decide) rfl rfl (Nat.le_of_ble_eq_true rfl) ⟨Nat.zero_le _, Nat.zero_le _⟩ dM_addNumbers_347 (z_kv (fun w1 tys1 hp => ?_))
                obtain ⟨k347_82, n347_82, e347_82, rfl, rfl, p347_82⟩ := hp
                exact z_retv (pc := 350) hZ dM_addNumbers_350 rfl ⟨rfl, _, _, _, rfl, rfl, (by exact ⟨((p347_82).1.1), ad_fin _ (sc_n0 (e := ea) c6_1) (sc_n0 (e := eb) c15_3) RR LS (p347_82).2.2⟩)⟩
          · have SW : SWP v103_12 v111_13 v85_9 v95_11 := by first | exact sw_2 c125_37 c132_60 | exact sw_1 c118_14
            have FG := (adv_of gb c15_3 p70_6 p73_7 p91_10 ev95_11 ev111_13)
            have FS := (adv_of ga c6_1 p59_4 p62_5 p81_8 ev85_9 ev103_12)
            have GX := X2
            have SX := X1
            have G0 := (sc_n0 (e := eb) c15_3)
            have T0 := (sc_n0 (e := ea) c6_1)
            have LE := adv_le (y := 0) FG FS SX.1 GX.1 SW
            have CM : (sc nb.toInt eb.toInt + sc na.toInt ea.toInt).natAbs = (sc na.toInt ea.toInt + sc nb.toInt eb.toInt).natAbs := by rw [Int.add_comm]
            have SC : (sc na.toInt ea.toInt).sign = (sc nb.toInt eb.toInt).sign → (sc nb.toInt eb.toInt).sign = (sc na.toInt ea.toInt).sign := Eq.symm
            have SD : (sc nb.toInt eb.toInt).sign = (sc na.toInt ea.toInt).sign → (sc na.toInt ea.toInt).sign = (sc nb.toInt eb.toInt).sign := Eq.symm
            have HP : ∀ p : Int32, bb p = decide (sc nb.toInt eb.toInt < 0) → (bb p = decide (sc na.toInt ea.toInt < 0) ∧ (sc nb.toInt eb.toInt).natAbs ≤ (sc na.toInt ea.toInt).natAbs) ∨ (bb p = decide (sc nb.toInt eb.toInt < 0) ∧ (sc na.toInt ea.toInt).natAbs ≤ (sc nb.toInt eb.toInt).natAbs) := fun p h => Or.inr ⟨h, LE⟩
            refine z_iconst (pc := 135) hZ 1 dM_addNumbers_135 (by decide) ?_
            refine z_goto (pc := 136) hZ 140 dM_addNumbers_136 (by decide) ?_
            refine z_istore (pc := 140) hZ [(9, .int 1), (8, .int v111_13), (7, .int v103_12), (5, .long v95_11), (3, .long v85_9), (2, .int r73_7), (1, .int r62_5), (0, .ref h0)] dM_addNumbers_140 (by decide) rfl ?_
            refine z_iload (pc := 142) hZ 0 dM_addNumbers_142 rfl ?_
            refine z_if_eq (pc := 144) hZ 152 dM_addNumbers_144 (by decide) (fun c9 => False.elim (absurd c9 (by decide))) (fun c144 => ?_)
            refine z_lload (pc := 147) hZ 3 dM_addNumbers_147 rfl ?_
            refine z_goto (pc := 149) hZ 153 dM_addNumbers_149 (by decide) ?_
            refine z_lstore (pc := 153) hZ [(10, .long v95_11), (9, .int 1), (8, .int v111_13), (7, .int v103_12), (5, .long v95_11), (3, .long v85_9), (2, .int r73_7), (1, .int r62_5), (0, .ref h0)] dM_addNumbers_153 (by decide) rfl ?_
            refine z_iload (pc := 155) hZ 1 dM_addNumbers_155 rfl ?_
            refine z_if_eq (pc := 157) hZ 164 dM_addNumbers_157 (by decide) (fun c9 => False.elim (absurd c9 (by decide))) (fun c157 => ?_)
            refine z_lload_n (pc := 160) hZ 5 dM_addNumbers_160 rfl rfl ?_
            refine z_goto (pc := 161) hZ 166 dM_addNumbers_161 (by decide) ?_
            refine z_lstore (pc := 166) hZ [(12, .long v85_9), (10, .long v95_11), (9, .int 1), (8, .int v111_13), (7, .int v103_12), (5, .long v95_11), (3, .long v85_9), (2, .int r73_7), (1, .int r62_5), (0, .ref h0)] dM_addNumbers_166 (by decide) rfl ?_
            refine z_iload (pc := 168) hZ 2 dM_addNumbers_168 rfl ?_
            refine z_if_eq (pc := 170) hZ 178 dM_addNumbers_170 (by decide) (fun c9 => False.elim (absurd c9 (by decide))) (fun c170 => ?_)
            refine z_iload (pc := 173) hZ 3 dM_addNumbers_173 rfl ?_
            refine z_goto (pc := 175) hZ 180 dM_addNumbers_175 (by decide) ?_
            refine z_istore (pc := 180) hZ [(14, .int v111_13), (12, .long v85_9), (10, .long v95_11), (9, .int 1), (8, .int v111_13), (7, .int v103_12), (5, .long v95_11), (3, .long v85_9), (2, .int r73_7), (1, .int r62_5), (0, .ref h0)] dM_addNumbers_180 (by decide) rfl ?_
            refine z_iload (pc := 182) hZ 3 dM_addNumbers_182 rfl ?_
            refine z_if_eq (pc := 184) hZ 195 dM_addNumbers_184 (by decide) (fun c9 => False.elim (absurd c9 (by decide))) (fun c184 => ?_)
            refine z_iload (pc := 187) hZ 4 dM_addNumbers_187 rfl ?_
            refine z_iload (pc := 189) hZ 5 dM_addNumbers_189 rfl ?_
            refine z_isub (pc := 191) hZ dM_addNumbers_191 (fun v191_83 ev191_83 => ?_)
            have BY := ad_by X2 X1 ev191_83
            have BB := sw_b X1 X2 SW BY
            have GG := A2
            refine z_goto (pc := 192) hZ 200 dM_addNumbers_192 (by decide) ?_
            first | (have BY := ad_by X1 X2 nokey_) | skip
            first | (have BB := sw_b X2 X1 SW BY) | skip
            first | (have GG := A1) | skip
            refine z_istore (pc := 200) hZ [(15, .int v191_83), (14, .int v111_13), (12, .long v85_9), (10, .long v95_11), (9, .int 1), (8, .int v111_13), (7, .int v103_12), (5, .long v95_11), (3, .long v85_9), (2, .int r73_7), (1, .int r62_5), (0, .ref h0)] dM_addNumbers_200 (by decide) rfl ?_
            refine z_iload (pc := 202) hZ 4 dM_addNumbers_202 rfl ?_
            refine z_if_eq (pc := 204) hZ 224 dM_addNumbers_204 (by decide) (fun c9 => False.elim (absurd c9 (by decide))) (fun c204 => ?_)
            refine z_aload_n (pc := 207) hZ 11 dM_addNumbers_207 rfl rfl ?_
            refine z_get (pc := 208) (ci := 2) hZ 0 rfl rfl uc_M 7 (by decide) (zb fl_M_63) rfl dM_addNumbers_208 ?_
            refine z_lconst (pc := 211) hZ 0 dM_addNumbers_211 (by decide) ?_
            refine z_lif_ge (pc := 212) hZ 220 dM_addNumbers_212 dM_addNumbers_213 (by decide) (fun c213_84 => ?_) (fun c213_84 => ?_)
            · have LS := HP 0 (sn_p c213_84)
              refine z_iconst (pc := 220) hZ 0 dM_addNumbers_220 (by decide) ?_
              refine z_goto (pc := 221) hZ 238 dM_addNumbers_221 (by decide) ?_
              refine z_istore (pc := 238) hZ [(16, .int 0), (15, .int v191_83), (14, .int v111_13), (12, .long v85_9), (10, .long v95_11), (9, .int 1), (8, .int v111_13), (7, .int v103_12), (5, .long v95_11), (3, .long v85_9), (2, .int r73_7), (1, .int r62_5), (0, .ref h0)] dM_addNumbers_238 (by decide) rfl ?_
              refine z_aload_n (pc := 240) hZ 12 dM_addNumbers_240 rfl rfl ?_
              refine z_get (pc := 241) (ci := 2) hZ 0 rfl rfl uc_M 4 (by decide) (zb fl_M_54) rfl dM_addNumbers_241 ?_
              refine z_lconst (pc := 244) hZ 0 dM_addNumbers_244 (by decide) ?_
              refine z_lif_ge (pc := 245) hZ 253 dM_addNumbers_245 dM_addNumbers_246 (by decide) (fun c246_85 => ?_) (fun c246_85 => ?_)
              · refine z_iconst (pc := 253) hZ 0 dM_addNumbers_253 (by decide) ?_
                refine z_aload_n (pc := 254) hZ 12 dM_addNumbers_254 rfl rfl ?_
                refine z_get (pc := 255) (ci := 2) hZ 0 rfl rfl uc_M 7 (by decide) (zb fl_M_63) rfl dM_addNumbers_255 ?_
                refine z_lconst (pc := 258) hZ 0 dM_addNumbers_258 (by decide) ?_
                refine z_lif_ge (pc := 259) hZ 267 dM_addNumbers_259 dM_addNumbers_260 (by decide) (fun c260 => ?_) (fun c9 => False.elim (by first | exact absurd c9 c213_84 | exact absurd c213_84 c9 | exact absurd c9 (Int64.not_lt.mpr c213_84) | exact absurd c9 (Int64.not_le.mpr c213_84) | exact c9 ((Int64.not_lt).mp c213_84) | exact c9 ((Int64.not_le).mp c213_84)))
                refine z_iconst (pc := 267) hZ 0 dM_addNumbers_267 (by decide) ?_
                refine z_icmp_ne (pc := 268) hZ 290 dM_addNumbers_268 (by decide) (fun c9 => False.elim (absurd c9 (by decide))) (fun c268 => ?_)
                have SS : (sc na.toInt ea.toInt).sign = (sc nb.toInt eb.toInt).sign := by first | exact sg_pp c246_85 c260 c6_1 c15_3 | exact sg_mm c246_85 c260
                refine z_lload (pc := 271) hZ 4 dM_addNumbers_271 rfl ?_
                refine z_iconst (pc := 273) hZ 1 dM_addNumbers_273 (by decide) ?_
                refine z_callS (pc := 274) (As := [.long v95_11, .int 1]) (rest := []) hZ (cM_down l D (TY cR c1 c2 c3) (MW h0 a1 a2 a3 c1 c2 c3 (ka, na, ea, kb, nb, eb, k, n, e, bits, scale, K, N, E) ++ Y) v95_11 1 (by have := A1; have := A2; omega) (by have := A1; have := A2; omega) (by decide)) zyM_down (z_goodS ml_M_82 st_M_down in_M co_M_down) rfl rfl (by decide) rfl rfl (Nat.le_of_ble_eq_true rfl) ⟨Nat.zero_le _, Nat.zero_le _⟩ dM_addNumbers_274 (z_kl (fun r274_86 w1 tys1 hp => ?_))
                obtain ⟨rfl, rfl, p274_86⟩ := hp
                refine z_lload (pc := 277) hZ 3 dM_addNumbers_277 rfl ?_
                refine z_iload (pc := 279) hZ 1 dM_addNumbers_279 rfl ?_
                refine z_iconst (pc := 281) hZ 1 dM_addNumbers_281 (by decide) ?_
                refine z_iadd (pc := 282) hZ dM_addNumbers_282 (fun v282_87 ev282_87 => ?_)
                have B1 := ad_1 BB ev282_87
                refine z_callS (pc := 283) (As := [.long v85_9, .int v282_87]) (rest := [.long r274_86]) hZ (cM_down l D (TY cR c1 c2 c3) (MW h0 a1 a2 a3 c1 c2 c3 (ka, na, ea, kb, nb, eb, k, n, e, bits, scale, K, N, E) ++ Y) v85_9 v282_87 (by have := A1; have := A2; omega) (by have := A1; have := A2; omega) (by omega)) zyM_down (z_goodS ml_M_82 st_M_down in_M co_M_down) rfl rfl (by decide) rfl rfl (Nat.le_of_ble_eq_true rfl) ⟨Nat.zero_le _, Nat.zero_le _⟩ dM_addNumbers_283 (z_kl (fun r283_88 w1 tys1 hp => ?_))
                obtain ⟨rfl, rfl, p283_88⟩ := hp
                have BD1 : 0 ≤ r274_86.toInt ∧ r274_86.toInt < 2305843009213693952 := ⟨(p274_86).1.1, (p274_86).1.2.2 (by decide)⟩
                have BD2 : 0 ≤ r283_88.toInt ∧ r283_88.toInt < 2305843009213693952 := ⟨(p283_88).1.1, (p283_88).1.2.2 B1⟩
                refine z_ladd (pc := 286) hZ dM_addNumbers_286 (fun v286_89 ev286_89 => ?_)
                refine z_goto (pc := 287) hZ 300 dM_addNumbers_287 (by decide) ?_
                have SZ : 0 ≤ v286_89.toInt ∧ v286_89.toInt < 4611686018427387904 := by first | exact ad_s1 ((p274_86).1) ((p283_88).1) B1 ev286_89 | exact ad_s2 A1 SW BY ((nokey_).1) nokey_ | exact ad_s2 A2 SW BY ((nokey_).1) nokey_
                refine z_lstore (pc := 300) hZ [(17, .long v286_89), (16, .int 0), (15, .int v191_83), (14, .int v111_13), (12, .long v85_9), (10, .long v95_11), (9, .int 1), (8, .int v111_13), (7, .int v103_12), (5, .long v95_11), (3, .long v85_9), (2, .int r73_7), (1, .int r62_5), (0, .ref h0)] dM_addNumbers_300 (by decide) rfl ?_
                refine z_aload_n (pc := 302) hZ 13 dM_addNumbers_302 rfl rfl ?_
                refine z_lload (pc := 303) hZ 0 dM_addNumbers_303 rfl ?_
                refine z_aload_n (pc := 305) hZ 13 dM_addNumbers_305 rfl rfl ?_
                refine z_get (pc := 306) (ci := 2) hZ 0 rfl rfl uc_M 4 (by decide) (zb fl_M_54) rfl dM_addNumbers_306 ?_
                refine z_lconst (pc := 309) hZ 0 dM_addNumbers_309 (by decide) ?_
                refine z_lif_ge (pc := 310) hZ 318 dM_addNumbers_310 dM_addNumbers_311 (by decide) (fun c311 => ?_) (fun c9 => False.elim (by first | exact absurd c9 c246_85 | exact absurd c246_85 c9 | exact absurd c9 (Int64.not_lt.mpr c246_85) | exact absurd c9 (Int64.not_le.mpr c246_85) | exact c9 ((Int64.not_lt).mp c246_85) | exact c9 ((Int64.not_le).mp c246_85)))
                refine z_iconst (pc := 318) hZ 0 dM_addNumbers_318 (by decide) ?_
                refine z_aload_n (pc := 319) hZ 13 dM_addNumbers_319 rfl rfl ?_
                refine z_get (pc := 320) (ci := 2) hZ 0 rfl rfl uc_M 7 (by decide) (zb fl_M_63) rfl dM_addNumbers_320 ?_
                refine z_lconst (pc := 323) hZ 0 dM_addNumbers_323 (by decide) ?_
                refine z_lif_ge (pc := 324) hZ 332 dM_addNumbers_324 dM_addNumbers_325 (by decide) (fun c325 => ?_) (fun c9 => False.elim (by first | exact absurd c9 c213_84 | exact absurd c213_84 c9 | exact absurd c9 (Int64.not_lt.mpr c213_84) | exact absurd c9 (Int64.not_le.mpr c213_84) | exact c9 ((Int64.not_lt).mp c213_84) | exact c9 ((Int64.not_le).mp c213_84)))
                refine z_iconst (pc := 332) hZ 0 dM_addNumbers_332 (by decide) ?_
                refine z_icmp_ne (pc := 333) hZ 343 dM_addNumbers_333 (by decide) (fun c9 => False.elim (absurd c9 (by decide))) (fun c333 => ?_)
                refine z_iload (pc := 336) hZ 3 dM_addNumbers_336 rfl ?_
                refine z_iconst (pc := 338) hZ 1 dM_addNumbers_338 (by decide) ?_
                refine z_iadd (pc := 339) hZ dM_addNumbers_339 (fun v339_90 ev339_90 => ?_)
                refine z_goto (pc := 340) hZ 345 dM_addNumbers_340 (by decide) ?_
                have RR : RT (v286_89.toInt.toNat * 2 ^ (v339_90.toInt + (OFF : Int)).toNat) false = RT (sc na.toInt ea.toInt + sc nb.toInt eb.toInt).natAbs false := by first | exact (adn_s FG FS SX.1 BY BB GX (p274_86).2 ev282_87 (p283_88).2 BD1 BD2 ev286_89 ev339_90 (SC SS) G0 T0).trans (congrArg (fun z => RT z false) CM) | exact (adn_d FG FS SX.1 BY BB GX SW (nokey_).1 (nokey_).2 nokey_ (fun q => SS (SD q)) G0 T0).trans (congrArg (fun z => RT z false) CM)
                refine z_iload (pc := 345) hZ 1 dM_addNumbers_345 rfl ?_
                refine z_callV (pc := 347) (As := [.long v286_89, .int v339_90, .int 0]) (rest := []) hZ (cM_nearest l D cR c1 c2 c3 h0 a1 a2 a3 Y ka na ea kb nb eb k n e bits scale K N E v286_89 v339_90 0 (by exact SZ.1) (by exact SZ.2) (by first | exact ad_e X1 ev339_90 | exact ad_e X2 ev339_90 | (have := X1; have := X2; omega))) zyM_nearest (z_goodV ml_M_43 im_M_nearest se_M_nearest in_M co_M_nearest) 0 rfl rfl rfl rfl (by decide) rfl rfl (Nat.le_of_ble_eq_true rfl) ⟨Nat.zero_le _, Nat.zero_le _⟩ dM_addNumbers_347 (z_kv (fun w1 tys1 hp => ?_))
                obtain ⟨k347_91, n347_91, e347_91, rfl, rfl, p347_91⟩ := hp
                exact z_retv (pc := 350) hZ dM_addNumbers_350 rfl ⟨rfl, _, _, _, rfl, rfl, (by exact ⟨((p347_91).1.1), ad_fin _ (sc_n0 (e := ea) c6_1) (sc_n0 (e := eb) c15_3) RR LS (p347_91).2.2⟩)⟩
              · refine z_iconst (pc := 249) hZ 1 dM_addNumbers_249 (by decide) ?_
                refine z_goto (pc := 250) hZ 254 dM_addNumbers_250 (by decide) ?_
                refine z_aload_n (pc := 254) hZ 12 dM_addNumbers_254 rfl rfl ?_
                refine z_get (pc := 255) (ci := 2) hZ 0 rfl rfl uc_M 7 (by decide) (zb fl_M_63) rfl dM_addNumbers_255 ?_
                refine z_lconst (pc := 258) hZ 0 dM_addNumbers_258 (by decide) ?_
                refine z_lif_ge (pc := 259) hZ 267 dM_addNumbers_259 dM_addNumbers_260 (by decide) (fun c260 => ?_) (fun c9 => False.elim (by first | exact absurd c9 c213_84 | exact absurd c213_84 c9 | exact absurd c9 (Int64.not_lt.mpr c213_84) | exact absurd c9 (Int64.not_le.mpr c213_84) | exact c9 ((Int64.not_lt).mp c213_84) | exact c9 ((Int64.not_le).mp c213_84)))
                refine z_iconst (pc := 267) hZ 0 dM_addNumbers_267 (by decide) ?_
                refine z_icmp_ne (pc := 268) hZ 290 dM_addNumbers_268 (by decide) (fun c268 => ?_) (fun c9 => False.elim (absurd c9 (by decide)))
                have SS : ¬ (sc na.toInt ea.toInt).sign = (sc nb.toInt eb.toInt).sign := by first | exact sg_pm c246_85 c260 | exact sg_mp c246_85 c260
                refine z_lload (pc := 290) hZ 4 dM_addNumbers_290 rfl ?_
                refine z_lload (pc := 292) hZ 3 dM_addNumbers_292 rfl ?_
                refine z_iload (pc := 294) hZ 1 dM_addNumbers_294 rfl ?_
                refine z_callS (pc := 296) (As := [.long v85_9, .int v191_83]) (rest := [.long v95_11]) hZ (cM_down l D (TY cR c1 c2 c3) (MW h0 a1 a2 a3 c1 c2 c3 (ka, na, ea, kb, nb, eb, k, n, e, bits, scale, K, N, E) ++ Y) v85_9 v191_83 (by have := A1; have := A2; omega) (by have := A1; have := A2; omega) (by omega)) zyM_down (z_goodS ml_M_82 st_M_down in_M co_M_down) rfl rfl (by decide) rfl rfl (Nat.le_of_ble_eq_true rfl) ⟨Nat.zero_le _, Nat.zero_le _⟩ dM_addNumbers_296 (z_kl (fun r296_92 w1 tys1 hp => ?_))
                obtain ⟨rfl, rfl, p296_92⟩ := hp
                refine z_lsub (pc := 299) hZ dM_addNumbers_299 (fun v299_93 ev299_93 => ?_)
                have SZ : 0 ≤ v299_93.toInt ∧ v299_93.toInt < 4611686018427387904 := by first | exact ad_s1 ((nokey_).1) ((nokey_).1) B1 nokey_ | exact ad_s2 A1 SW BY ((p296_92).1) ev299_93 | exact ad_s2 A2 SW BY ((p296_92).1) ev299_93
                refine z_lstore (pc := 300) hZ [(17, .long v299_93), (16, .int 0), (15, .int v191_83), (14, .int v111_13), (12, .long v85_9), (10, .long v95_11), (9, .int 1), (8, .int v111_13), (7, .int v103_12), (5, .long v95_11), (3, .long v85_9), (2, .int r73_7), (1, .int r62_5), (0, .ref h0)] dM_addNumbers_300 (by decide) rfl ?_
                refine z_aload_n (pc := 302) hZ 13 dM_addNumbers_302 rfl rfl ?_
                refine z_lload (pc := 303) hZ 0 dM_addNumbers_303 rfl ?_
                refine z_aload_n (pc := 305) hZ 13 dM_addNumbers_305 rfl rfl ?_
                refine z_get (pc := 306) (ci := 2) hZ 0 rfl rfl uc_M 4 (by decide) (zb fl_M_54) rfl dM_addNumbers_306 ?_
                refine z_lconst (pc := 309) hZ 0 dM_addNumbers_309 (by decide) ?_
                refine z_lif_ge (pc := 310) hZ 318 dM_addNumbers_310 dM_addNumbers_311 (by decide) (fun c9 => False.elim (by first | exact absurd c9 c246_85 | exact absurd c246_85 c9 | exact absurd c9 (Int64.not_lt.mpr c246_85) | exact absurd c9 (Int64.not_le.mpr c246_85) | exact c9 ((Int64.not_lt).mp c246_85) | exact c9 ((Int64.not_le).mp c246_85))) (fun c311 => ?_)
                refine z_iconst (pc := 314) hZ 1 dM_addNumbers_314 (by decide) ?_
                refine z_goto (pc := 315) hZ 319 dM_addNumbers_315 (by decide) ?_
                refine z_aload_n (pc := 319) hZ 13 dM_addNumbers_319 rfl rfl ?_
                refine z_get (pc := 320) (ci := 2) hZ 0 rfl rfl uc_M 7 (by decide) (zb fl_M_63) rfl dM_addNumbers_320 ?_
                refine z_lconst (pc := 323) hZ 0 dM_addNumbers_323 (by decide) ?_
                refine z_lif_ge (pc := 324) hZ 332 dM_addNumbers_324 dM_addNumbers_325 (by decide) (fun c325 => ?_) (fun c9 => False.elim (by first | exact absurd c9 c213_84 | exact absurd c213_84 c9 | exact absurd c9 (Int64.not_lt.mpr c213_84) | exact absurd c9 (Int64.not_le.mpr c213_84) | exact c9 ((Int64.not_lt).mp c213_84) | exact c9 ((Int64.not_le).mp c213_84)))
                refine z_iconst (pc := 332) hZ 0 dM_addNumbers_332 (by decide) ?_
                refine z_icmp_ne (pc := 333) hZ 343 dM_addNumbers_333 (by decide) (fun c333 => ?_) (fun c9 => False.elim (absurd c9 (by decide)))
                refine z_iload (pc := 343) hZ 3 dM_addNumbers_343 rfl ?_
                have RR : RT (v299_93.toInt.toNat * 2 ^ (v111_13.toInt + (OFF : Int)).toNat) false = RT (sc na.toInt ea.toInt + sc nb.toInt eb.toInt).natAbs false := by first | exact (adn_s FG FS SX.1 BY BB GX (nokey_).2 nokey_ (nokey_).2 BD1 BD2 nokey_ nokey_ (SC SS) G0 T0).trans (congrArg (fun z => RT z false) CM) | exact (adn_d FG FS SX.1 BY BB GX SW (p296_92).1 (p296_92).2 ev299_93 (fun q => SS (SD q)) G0 T0).trans (congrArg (fun z => RT z false) CM)
                refine z_iload (pc := 345) hZ 1 dM_addNumbers_345 rfl ?_
                refine z_callV (pc := 347) (As := [.long v299_93, .int v111_13, .int 0]) (rest := []) hZ (cM_nearest l D cR c1 c2 c3 h0 a1 a2 a3 Y ka na ea kb nb eb k n e bits scale K N E v299_93 v111_13 0 (by exact SZ.1) (by exact SZ.2) (by first | exact ad_e X1 nokey_ | exact ad_e X2 nokey_ | (have := X1; have := X2; omega))) zyM_nearest (z_goodV ml_M_43 im_M_nearest se_M_nearest in_M co_M_nearest) 0 rfl rfl rfl rfl (by decide) rfl rfl (Nat.le_of_ble_eq_true rfl) ⟨Nat.zero_le _, Nat.zero_le _⟩ dM_addNumbers_347 (z_kv (fun w1 tys1 hp => ?_))
                obtain ⟨k347_94, n347_94, e347_94, rfl, rfl, p347_94⟩ := hp
                exact z_retv (pc := 350) hZ dM_addNumbers_350 rfl ⟨rfl, _, _, _, rfl, rfl, (by exact ⟨((p347_94).1.1), ad_fin _ (sc_n0 (e := ea) c6_1) (sc_n0 (e := eb) c15_3) RR LS (p347_94).2.2⟩)⟩
            · have LS := HP 1 (sn_m c213_84)
              refine z_iconst (pc := 216) hZ 1 dM_addNumbers_216 (by decide) ?_
              refine z_goto (pc := 217) hZ 238 dM_addNumbers_217 (by decide) ?_
              refine z_istore (pc := 238) hZ [(16, .int 1), (15, .int v191_83), (14, .int v111_13), (12, .long v85_9), (10, .long v95_11), (9, .int 1), (8, .int v111_13), (7, .int v103_12), (5, .long v95_11), (3, .long v85_9), (2, .int r73_7), (1, .int r62_5), (0, .ref h0)] dM_addNumbers_238 (by decide) rfl ?_
              refine z_aload_n (pc := 240) hZ 12 dM_addNumbers_240 rfl rfl ?_
              refine z_get (pc := 241) (ci := 2) hZ 0 rfl rfl uc_M 4 (by decide) (zb fl_M_54) rfl dM_addNumbers_241 ?_
              refine z_lconst (pc := 244) hZ 0 dM_addNumbers_244 (by decide) ?_
              refine z_lif_ge (pc := 245) hZ 253 dM_addNumbers_245 dM_addNumbers_246 (by decide) (fun c246_95 => ?_) (fun c246_95 => ?_)
              · refine z_iconst (pc := 253) hZ 0 dM_addNumbers_253 (by decide) ?_
                refine z_aload_n (pc := 254) hZ 12 dM_addNumbers_254 rfl rfl ?_
                refine z_get (pc := 255) (ci := 2) hZ 0 rfl rfl uc_M 7 (by decide) (zb fl_M_63) rfl dM_addNumbers_255 ?_
                refine z_lconst (pc := 258) hZ 0 dM_addNumbers_258 (by decide) ?_
                refine z_lif_ge (pc := 259) hZ 267 dM_addNumbers_259 dM_addNumbers_260 (by decide) (fun c9 => False.elim (by first | exact absurd c9 c213_84 | exact absurd c213_84 c9 | exact absurd c9 (Int64.not_lt.mpr c213_84) | exact absurd c9 (Int64.not_le.mpr c213_84) | exact c9 ((Int64.not_lt).mp c213_84) | exact c9 ((Int64.not_le).mp c213_84))) (fun c260 => ?_)
                refine z_iconst (pc := 263) hZ 1 dM_addNumbers_263 (by decide) ?_
                refine z_goto (pc := 264) hZ 268 dM_addNumbers_264 (by decide) ?_
                refine z_icmp_ne (pc := 268) hZ 290 dM_addNumbers_268 (by decide) (fun c268 => ?_) (fun c9 => False.elim (absurd c9 (by decide)))
                have SS : ¬ (sc na.toInt ea.toInt).sign = (sc nb.toInt eb.toInt).sign := by first | exact sg_pm c246_95 c260 | exact sg_mp c246_95 c260
                refine z_lload (pc := 290) hZ 4 dM_addNumbers_290 rfl ?_
                refine z_lload (pc := 292) hZ 3 dM_addNumbers_292 rfl ?_
                refine z_iload (pc := 294) hZ 1 dM_addNumbers_294 rfl ?_
                refine z_callS (pc := 296) (As := [.long v85_9, .int v191_83]) (rest := [.long v95_11]) hZ (cM_down l D (TY cR c1 c2 c3) (MW h0 a1 a2 a3 c1 c2 c3 (ka, na, ea, kb, nb, eb, k, n, e, bits, scale, K, N, E) ++ Y) v85_9 v191_83 (by have := A1; have := A2; omega) (by have := A1; have := A2; omega) (by omega)) zyM_down (z_goodS ml_M_82 st_M_down in_M co_M_down) rfl rfl (by decide) rfl rfl (Nat.le_of_ble_eq_true rfl) ⟨Nat.zero_le _, Nat.zero_le _⟩ dM_addNumbers_296 (z_kl (fun r296_96 w1 tys1 hp => ?_))
                obtain ⟨rfl, rfl, p296_96⟩ := hp
                refine z_lsub (pc := 299) hZ dM_addNumbers_299 (fun v299_97 ev299_97 => ?_)
                have SZ : 0 ≤ v299_97.toInt ∧ v299_97.toInt < 4611686018427387904 := by first | exact ad_s1 ((nokey_).1) ((nokey_).1) B1 nokey_ | exact ad_s2 A1 SW BY ((p296_96).1) ev299_97 | exact ad_s2 A2 SW BY ((p296_96).1) ev299_97
                refine z_lstore (pc := 300) hZ [(17, .long v299_97), (16, .int 1), (15, .int v191_83), (14, .int v111_13), (12, .long v85_9), (10, .long v95_11), (9, .int 1), (8, .int v111_13), (7, .int v103_12), (5, .long v95_11), (3, .long v85_9), (2, .int r73_7), (1, .int r62_5), (0, .ref h0)] dM_addNumbers_300 (by decide) rfl ?_
                refine z_aload_n (pc := 302) hZ 13 dM_addNumbers_302 rfl rfl ?_
                refine z_lload (pc := 303) hZ 0 dM_addNumbers_303 rfl ?_
                refine z_aload_n (pc := 305) hZ 13 dM_addNumbers_305 rfl rfl ?_
                refine z_get (pc := 306) (ci := 2) hZ 0 rfl rfl uc_M 4 (by decide) (zb fl_M_54) rfl dM_addNumbers_306 ?_
                refine z_lconst (pc := 309) hZ 0 dM_addNumbers_309 (by decide) ?_
                refine z_lif_ge (pc := 310) hZ 318 dM_addNumbers_310 dM_addNumbers_311 (by decide) (fun c311 => ?_) (fun c9 => False.elim (by first | exact absurd c9 c246_95 | exact absurd c246_95 c9 | exact absurd c9 (Int64.not_lt.mpr c246_95) | exact absurd c9 (Int64.not_le.mpr c246_95) | exact c9 ((Int64.not_lt).mp c246_95) | exact c9 ((Int64.not_le).mp c246_95)))
                refine z_iconst (pc := 318) hZ 0 dM_addNumbers_318 (by decide) ?_
                refine z_aload_n (pc := 319) hZ 13 dM_addNumbers_319 rfl rfl ?_
                refine z_get (pc := 320) (ci := 2) hZ 0 rfl rfl uc_M 7 (by decide) (zb fl_M_63) rfl dM_addNumbers_320 ?_
                refine z_lconst (pc := 323) hZ 0 dM_addNumbers_323 (by decide) ?_
                refine z_lif_ge (pc := 324) hZ 332 dM_addNumbers_324 dM_addNumbers_325 (by decide) (fun c9 => False.elim (by first | exact absurd c9 c213_84 | exact absurd c213_84 c9 | exact absurd c9 (Int64.not_lt.mpr c213_84) | exact absurd c9 (Int64.not_le.mpr c213_84) | exact c9 ((Int64.not_lt).mp c213_84) | exact c9 ((Int64.not_le).mp c213_84))) (fun c325 => ?_)
                refine z_iconst (pc := 328) hZ 1 dM_addNumbers_328 (by decide) ?_
                refine z_goto (pc := 329) hZ 333 dM_addNumbers_329 (by decide) ?_
                refine z_icmp_ne (pc := 333) hZ 343 dM_addNumbers_333 (by decide) (fun c333 => ?_) (fun c9 => False.elim (absurd c9 (by decide)))
                refine z_iload (pc := 343) hZ 3 dM_addNumbers_343 rfl ?_
                have RR : RT (v299_97.toInt.toNat * 2 ^ (v111_13.toInt + (OFF : Int)).toNat) false = RT (sc na.toInt ea.toInt + sc nb.toInt eb.toInt).natAbs false := by first | exact (adn_s FG FS SX.1 BY BB GX (nokey_).2 nokey_ (nokey_).2 BD1 BD2 nokey_ nokey_ (SC SS) G0 T0).trans (congrArg (fun z => RT z false) CM) | exact (adn_d FG FS SX.1 BY BB GX SW (p296_96).1 (p296_96).2 ev299_97 (fun q => SS (SD q)) G0 T0).trans (congrArg (fun z => RT z false) CM)
                refine z_iload (pc := 345) hZ 1 dM_addNumbers_345 rfl ?_
                refine z_callV (pc := 347) (As := [.long v299_97, .int v111_13, .int 1]) (rest := []) hZ (cM_nearest l D cR c1 c2 c3 h0 a1 a2 a3 Y ka na ea kb nb eb k n e bits scale K N E v299_97 v111_13 1 (by exact SZ.1) (by exact SZ.2) (by first | exact ad_e X1 nokey_ | exact ad_e X2 nokey_ | (have := X1; have := X2; omega))) zyM_nearest (z_goodV ml_M_43 im_M_nearest se_M_nearest in_M co_M_nearest) 0 rfl rfl rfl rfl (by decide) rfl rfl (Nat.le_of_ble_eq_true rfl) ⟨Nat.zero_le _, Nat.zero_le _⟩ dM_addNumbers_347 (z_kv (fun w1 tys1 hp => ?_))
                obtain ⟨k347_98, n347_98, e347_98, rfl, rfl, p347_98⟩ := hp
                exact z_retv (pc := 350) hZ dM_addNumbers_350 rfl ⟨rfl, _, _, _, rfl, rfl, (by exact ⟨((p347_98).1.1), ad_fin _ (sc_n0 (e := ea) c6_1) (sc_n0 (e := eb) c15_3) RR LS (p347_98).2.2⟩)⟩
              · refine z_iconst (pc := 249) hZ 1 dM_addNumbers_249 (by decide) ?_
                refine z_goto (pc := 250) hZ 254 dM_addNumbers_250 (by decide) ?_
                refine z_aload_n (pc := 254) hZ 12 dM_addNumbers_254 rfl rfl ?_
                refine z_get (pc := 255) (ci := 2) hZ 0 rfl rfl uc_M 7 (by decide) (zb fl_M_63) rfl dM_addNumbers_255 ?_
                refine z_lconst (pc := 258) hZ 0 dM_addNumbers_258 (by decide) ?_
                refine z_lif_ge (pc := 259) hZ 267 dM_addNumbers_259 dM_addNumbers_260 (by decide) (fun c9 => False.elim (by first | exact absurd c9 c213_84 | exact absurd c213_84 c9 | exact absurd c9 (Int64.not_lt.mpr c213_84) | exact absurd c9 (Int64.not_le.mpr c213_84) | exact c9 ((Int64.not_lt).mp c213_84) | exact c9 ((Int64.not_le).mp c213_84))) (fun c260 => ?_)
                refine z_iconst (pc := 263) hZ 1 dM_addNumbers_263 (by decide) ?_
                refine z_goto (pc := 264) hZ 268 dM_addNumbers_264 (by decide) ?_
                refine z_icmp_ne (pc := 268) hZ 290 dM_addNumbers_268 (by decide) (fun c9 => False.elim (absurd c9 (by decide))) (fun c268 => ?_)
                have SS : (sc na.toInt ea.toInt).sign = (sc nb.toInt eb.toInt).sign := by first | exact sg_pp c246_95 c260 c6_1 c15_3 | exact sg_mm c246_95 c260
                refine z_lload (pc := 271) hZ 4 dM_addNumbers_271 rfl ?_
                refine z_iconst (pc := 273) hZ 1 dM_addNumbers_273 (by decide) ?_
                refine z_callS (pc := 274) (As := [.long v95_11, .int 1]) (rest := []) hZ (cM_down l D (TY cR c1 c2 c3) (MW h0 a1 a2 a3 c1 c2 c3 (ka, na, ea, kb, nb, eb, k, n, e, bits, scale, K, N, E) ++ Y) v95_11 1 (by have := A1; have := A2; omega) (by have := A1; have := A2; omega) (by decide)) zyM_down (z_goodS ml_M_82 st_M_down in_M co_M_down) rfl rfl (by decide) rfl rfl (Nat.le_of_ble_eq_true rfl) ⟨Nat.zero_le _, Nat.zero_le _⟩ dM_addNumbers_274 (z_kl (fun r274_99 w1 tys1 hp => ?_))
                obtain ⟨rfl, rfl, p274_99⟩ := hp
                refine z_lload (pc := 277) hZ 3 dM_addNumbers_277 rfl ?_
                refine z_iload (pc := 279) hZ 1 dM_addNumbers_279 rfl ?_
                refine z_iconst (pc := 281) hZ 1 dM_addNumbers_281 (by decide) ?_
                refine z_iadd (pc := 282) hZ dM_addNumbers_282 (fun v282_100 ev282_100 => ?_)
                have B1 := ad_1 BB ev282_100
                refine z_callS (pc := 283) (As := [.long v85_9, .int v282_100]) (rest := [.long r274_99]) hZ (cM_down l D (TY cR c1 c2 c3) (MW h0 a1 a2 a3 c1 c2 c3 (ka, na, ea, kb, nb, eb, k, n, e, bits, scale, K, N, E) ++ Y) v85_9 v282_100 (by have := A1; have := A2; omega) (by have := A1; have := A2; omega) (by omega)) zyM_down (z_goodS ml_M_82 st_M_down in_M co_M_down) rfl rfl (by decide) rfl rfl (Nat.le_of_ble_eq_true rfl) ⟨Nat.zero_le _, Nat.zero_le _⟩ dM_addNumbers_283 (z_kl (fun r283_101 w1 tys1 hp => ?_))
                obtain ⟨rfl, rfl, p283_101⟩ := hp
                have BD1 : 0 ≤ r274_99.toInt ∧ r274_99.toInt < 2305843009213693952 := ⟨(p274_99).1.1, (p274_99).1.2.2 (by decide)⟩
                have BD2 : 0 ≤ r283_101.toInt ∧ r283_101.toInt < 2305843009213693952 := ⟨(p283_101).1.1, (p283_101).1.2.2 B1⟩
                refine z_ladd (pc := 286) hZ dM_addNumbers_286 (fun v286_102 ev286_102 => ?_)
                refine z_goto (pc := 287) hZ 300 dM_addNumbers_287 (by decide) ?_
                have SZ : 0 ≤ v286_102.toInt ∧ v286_102.toInt < 4611686018427387904 := by first | exact ad_s1 ((p274_99).1) ((p283_101).1) B1 ev286_102 | exact ad_s2 A1 SW BY ((nokey_).1) nokey_ | exact ad_s2 A2 SW BY ((nokey_).1) nokey_
                refine z_lstore (pc := 300) hZ [(17, .long v286_102), (16, .int 1), (15, .int v191_83), (14, .int v111_13), (12, .long v85_9), (10, .long v95_11), (9, .int 1), (8, .int v111_13), (7, .int v103_12), (5, .long v95_11), (3, .long v85_9), (2, .int r73_7), (1, .int r62_5), (0, .ref h0)] dM_addNumbers_300 (by decide) rfl ?_
                refine z_aload_n (pc := 302) hZ 13 dM_addNumbers_302 rfl rfl ?_
                refine z_lload (pc := 303) hZ 0 dM_addNumbers_303 rfl ?_
                refine z_aload_n (pc := 305) hZ 13 dM_addNumbers_305 rfl rfl ?_
                refine z_get (pc := 306) (ci := 2) hZ 0 rfl rfl uc_M 4 (by decide) (zb fl_M_54) rfl dM_addNumbers_306 ?_
                refine z_lconst (pc := 309) hZ 0 dM_addNumbers_309 (by decide) ?_
                refine z_lif_ge (pc := 310) hZ 318 dM_addNumbers_310 dM_addNumbers_311 (by decide) (fun c9 => False.elim (by first | exact absurd c9 c246_95 | exact absurd c246_95 c9 | exact absurd c9 (Int64.not_lt.mpr c246_95) | exact absurd c9 (Int64.not_le.mpr c246_95) | exact c9 ((Int64.not_lt).mp c246_95) | exact c9 ((Int64.not_le).mp c246_95))) (fun c311 => ?_)
                refine z_iconst (pc := 314) hZ 1 dM_addNumbers_314 (by decide) ?_
                refine z_goto (pc := 315) hZ 319 dM_addNumbers_315 (by decide) ?_
                refine z_aload_n (pc := 319) hZ 13 dM_addNumbers_319 rfl rfl ?_
                refine z_get (pc := 320) (ci := 2) hZ 0 rfl rfl uc_M 7 (by decide) (zb fl_M_63) rfl dM_addNumbers_320 ?_
                refine z_lconst (pc := 323) hZ 0 dM_addNumbers_323 (by decide) ?_
                refine z_lif_ge (pc := 324) hZ 332 dM_addNumbers_324 dM_addNumbers_325 (by decide) (fun c9 => False.elim (by first | exact absurd c9 c213_84 | exact absurd c213_84 c9 | exact absurd c9 (Int64.not_lt.mpr c213_84) | exact absurd c9 (Int64.not_le.mpr c213_84) | exact c9 ((Int64.not_lt).mp c213_84) | exact c9 ((Int64.not_le).mp c213_84))) (fun c325 => ?_)
                refine z_iconst (pc := 328) hZ 1 dM_addNumbers_328 (by decide) ?_
                refine z_goto (pc := 329) hZ 333 dM_addNumbers_329 (by decide) ?_
                refine z_icmp_ne (pc := 333) hZ 343 dM_addNumbers_333 (by decide) (fun c9 => False.elim (absurd c9 (by decide))) (fun c333 => ?_)
                refine z_iload (pc := 336) hZ 3 dM_addNumbers_336 rfl ?_
                refine z_iconst (pc := 338) hZ 1 dM_addNumbers_338 (by decide) ?_
                refine z_iadd (pc := 339) hZ dM_addNumbers_339 (fun v339_103 ev339_103 => ?_)
                refine z_goto (pc := 340) hZ 345 dM_addNumbers_340 (by decide) ?_
                have RR : RT (v286_102.toInt.toNat * 2 ^ (v339_103.toInt + (OFF : Int)).toNat) false = RT (sc na.toInt ea.toInt + sc nb.toInt eb.toInt).natAbs false := by first | exact (adn_s FG FS SX.1 BY BB GX (p274_99).2 ev282_100 (p283_101).2 BD1 BD2 ev286_102 ev339_103 (SC SS) G0 T0).trans (congrArg (fun z => RT z false) CM) | exact (adn_d FG FS SX.1 BY BB GX SW (nokey_).1 (nokey_).2 nokey_ (fun q => SS (SD q)) G0 T0).trans (congrArg (fun z => RT z false) CM)
                refine z_iload (pc := 345) hZ 1 dM_addNumbers_345 rfl ?_
                refine z_callV (pc := 347) (As := [.long v286_102, .int v339_103, .int 1]) (rest := []) hZ (cM_nearest l D cR c1 c2 c3 h0 a1 a2 a3 Y ka na ea kb nb eb k n e bits scale K N E v286_102 v339_103 1 (by exact SZ.1) (by exact SZ.2) (by first | exact ad_e X1 ev339_103 | exact ad_e X2 ev339_103 | (have := X1; have := X2; omega))) zyM_nearest (z_goodV ml_M_43 im_M_nearest se_M_nearest in_M co_M_nearest) 0 rfl rfl rfl rfl (by decide) rfl rfl (Nat.le_of_ble_eq_true rfl) ⟨Nat.zero_le _, Nat.zero_le _⟩ dM_addNumbers_347 (z_kv (fun w1 tys1 hp => ?_))
                obtain ⟨k347_104, n347_104, e347_104, rfl, rfl, p347_104⟩ := hp
                exact z_retv (pc := 350) hZ dM_addNumbers_350 rfl ⟨rfl, _, _, _, rfl, rfl, (by exact ⟨((p347_104).1.1), ad_fin _ (sc_n0 (e := ea) c6_1) (sc_n0 (e := eb) c15_3) RR LS (p347_104).2.2⟩)⟩
    · refine z_aload_n (pc := 18) hZ 0 dM_addNumbers_18 rfl rfl ?_
      refine z_get (pc := 19) (ci := 2) hZ 0 rfl rfl uc_M 4 (by decide) (zb fl_M_54) rfl dM_addNumbers_19 ?_
      refine z_lconst (pc := 22) hZ 0 dM_addNumbers_22 (by decide) ?_
      refine z_lif_ne (pc := 23) hZ 42 dM_addNumbers_23 dM_addNumbers_24 (by decide) (fun c24 => ?_) (fun c9 => False.elim (by first | exact absurd c9 c6_1 | exact absurd c6_1 c9 | exact absurd c9 (Int64.not_lt.mpr c6_1) | exact absurd c9 (Int64.not_le.mpr c6_1) | exact c9 ((Int64.not_lt).mp c6_1) | exact c9 ((Int64.not_le).mp c6_1)))
      refine z_aload_n (pc := 42) hZ 0 dM_addNumbers_42 rfl rfl ?_
      refine z_aload_n (pc := 43) hZ 0 dM_addNumbers_43 rfl rfl ?_
      refine z_get (pc := 44) (ci := 2) hZ 0 rfl rfl uc_M 4 (by decide) (zb fl_M_54) rfl dM_addNumbers_44 ?_
      refine z_aload_n (pc := 47) hZ 0 dM_addNumbers_47 rfl rfl ?_
      refine z_get (pc := 48) (ci := 2) hZ 0 rfl rfl uc_M 5 (by decide) (zb fl_M_57) rfl dM_addNumbers_48 ?_
      refine z_callV (pc := 51) (As := [.long na, .int ea]) (rest := []) hZ (cM_plain l D cR c1 c2 c3 h0 a1 a2 a3 Y ka na ea kb nb eb k n e bits scale K N E na ea (by exact GR_PP ga)) zyM_plain (z_goodV ml_M_31 im_M_plain se_M_plain in_M co_M_plain) 0 rfl rfl rfl rfl (by decide) rfl rfl (Nat.le_of_ble_eq_true rfl) ⟨Nat.zero_le _, Nat.zero_le _⟩ dM_addNumbers_51 (z_kv (fun w1 tys1 hp => ?_))
      obtain ⟨k51_105, n51_105, e51_105, rfl, rfl, p51_105⟩ := hp
      exact z_retv (pc := 54) hZ dM_addNumbers_54 rfl ⟨rfl, _, _, _, rfl, rfl, (by first | exact ⟨RK_of (nokey_).1, ad_z1 c6_1 (nokey_).1 (nokey_).2.2⟩ | exact ⟨RK_of (nokey_).1, ad_z1 c24 (nokey_).1 (nokey_).2.2⟩ | exact ⟨RK_of (p51_105).1, ad_z2 c6_1 c15_3 (p51_105).1 (p51_105).2.2⟩)⟩
