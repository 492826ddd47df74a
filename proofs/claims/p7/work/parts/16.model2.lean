set_option maxHeartbeats 4000000 in
set_option maxRecDepth 100000 in
theorem cM_room (l : Launch) (D : va_G) (tys : zT) (w : va_W) (p0 : Int64) (hr1 : 0 < p0.toInt) (hr2 : p0.toInt < 4611686018427387904) : zM l D vwCl zNF zNM yM_room wsM_room { frames := 0, cells := 0, slots := 0, locals := 0 } [.long p0] (w) tys (qI (fun r w' tys' => w = w' ∧ tys = tys' ∧ (RMX p0 r))) := by
  refine z_met (cc := bM_room) (maxL := 3) (ret := (some .int)) (isI := false) (own := RM) (by decide +kernel) rfl rfl (fun h => by cases h) (Nat.le_of_ble_eq_true rfl) (fun Z hZ => ?_)
  show Z 0 0 tys 0 [(0, .long p0)] [] (w)
  refine z_iconst (pc := 0) hZ 0 dM_room_0 (by decide) ?_
  refine z_istore_n (pc := 1) hZ [(2, .int 0), (0, .long p0)] dM_room_1 rfl (by decide) rfl ?_
  have L2 : ∀ (N2 : Nat) (x2_2 : Int32), (62 - x2_2.toInt).toNat < N2 → (RMi p0 x2_2) → Z 0 0 tys 2 [(2, .int x2_2), (0, .long p0)] [] (w) := by
    intro N2
    induction N2 with
    | zero => intro x2_2 m2; exact absurd m2 (Nat.not_lt_zero _)
    | succ N2 ih2 =>
      intro x2_2 m2 i2
      refine z_lload_n (pc := 2) hZ 1 dM_room_2 rfl rfl ?_
      refine z_iload_n (pc := 3) hZ 0 dM_room_3 rfl rfl ?_
      refine z_lshl (pc := 4) hZ dM_room_4 (fun v4_1 ev4_1 => ?_)
      refine z_bipush (pc := 5) hZ 61 dM_room_5 (by decide) ?_
      refine z_lshr (pc := 7) hZ dM_room_7 (fun v7_2 ev7_2 => ?_)
      refine z_lconst (pc := 8) hZ 0 dM_room_8 (by decide) ?_
      refine z_lif_ne (pc := 9) hZ 19 dM_room_9 dM_room_10 (by decide) (fun c10_3 => ?_) (fun c10_3 => ?_)
      · refine z_iload_n (pc := 19) hZ 0 dM_room_19 rfl rfl ?_
        exact z_reti (pc := 20) hZ dM_room_20 .int rfl rfl ⟨_, rfl, rfl, rfl, (by exact rm_x (p := p0) (r := x2_2) hr1 (by assumption) (by assumption) (by assumption) (by assumption))⟩
      · refine z_iinc (pc := 13) hZ 0 (fun v9 => [(2, .int v9), (0, .long p0)]) dM_room_13 rfl (by decide) (fun _ => rfl) (fun v13_4 ev13_4 => ?_)
        refine z_goto (pc := 16) hZ 2 dM_room_16 (by decide) ?_
        exact z_sub (pc := 2) hZ [0, 1] rfl (ih2 v13_4 (by exact Nat.lt_of_lt_of_le (rm_s (p := p0) (r := x2_2) hr1 (by assumption) (by assumption) (by assumption) (by assumption) (by assumption)).2 (Nat.le_of_lt_succ m2)) (by exact (rm_s (p := p0) (r := x2_2) hr1 (by assumption) (by assumption) (by assumption) (by assumption) (by assumption)).1))
  exact z_sub (pc := 2) hZ [0, 1] rfl (L2 _ 0 (Nat.lt_succ_self _) (by exact rm_0 hr2))
set_option maxHeartbeats 4000000 in
set_option maxRecDepth 100000 in
theorem cM_down (l : Launch) (D : va_G) (tys : zT) (w : va_W) (p0 : Int64) (p1 : Int32) (hd1 : 0 ≤ p0.toInt) (hd2 : p0.toInt < 4611686018427387904) (hd3 : 0 ≤ p1.toInt) : zM l D vwCl zNF zNM yM_down wsM_down { frames := 0, cells := 0, slots := 0, locals := 0 } [.long p0, .int p1] (w) tys (qL (fun r w' tys' => w = w' ∧ tys = tys' ∧ (DN p0 p1 r ∧ DNV p0 p1 r))) := by
  refine z_met (cc := bM_down) (maxL := 5) (ret := (some .long)) (isI := false) (own := RM) (by decide +kernel) rfl rfl (fun h => by cases h) (Nat.le_of_ble_eq_true rfl) (fun Z hZ => ?_)
  show Z 0 0 tys 0 [(0, .long p0), (2, .int p1)] [] (w)
  refine z_iload_n (pc := 0) hZ 1 dM_down_0 rfl rfl ?_
  refine z_if_ne (pc := 1) hZ 6 dM_down_1 (by decide) (fun c1_1 => ?_) (fun c1_1 => ?_)
  · refine z_iload_n (pc := 6) hZ 1 dM_down_6 rfl rfl ?_
    refine z_bipush (pc := 7) hZ 62 dM_down_7 (by decide) ?_
    refine z_icmp_le (pc := 9) hZ 14 dM_down_9 (by decide) (fun c9_2 => ?_) (fun c9_2 => ?_)
    · refine z_lload_n (pc := 14) hZ 0 dM_down_14 rfl rfl ?_
      refine z_iload_n (pc := 15) hZ 1 dM_down_15 rfl rfl ?_
      refine z_lshr (pc := 16) hZ dM_down_16 (fun v16_3 ev16_3 => ?_)
      refine z_lstore_n (pc := 17) hZ [(3, .long v16_3), (0, .long p0), (2, .int p1)] dM_down_17 rfl (by decide) rfl ?_
      refine z_lload_n (pc := 18) hZ 0 dM_down_18 rfl rfl ?_
      refine z_iload_n (pc := 19) hZ 2 dM_down_19 rfl rfl ?_
      refine z_lshl (pc := 20) hZ dM_down_20 (fun v20_4 ev20_4 => ?_)
      refine z_lload_n (pc := 21) hZ 1 dM_down_21 rfl rfl ?_
      refine z_lif_ne (pc := 22) hZ 30 dM_down_22 dM_down_23 (by decide) (fun c23_5 => ?_) (fun c23_5 => ?_)
      · refine z_lload_n (pc := 30) hZ 0 dM_down_30 rfl rfl ?_
        refine z_lconst (pc := 31) hZ 1 dM_down_31 (by decide) ?_
        refine z_lor (pc := 32) hZ dM_down_32 (fun v32_6 ev32_6 => ?_)
        exact z_retl (pc := 33) hZ dM_down_33 rfl ⟨_, rfl, rfl, rfl, (by first | exact ⟨dn_q hd1 hd2 hd3 c1_1 c9_2 ev16_3, dnv_q hd1 hd2 hd3 c9_2 ev16_3 ev20_4 c23_5⟩ | exact ⟨dn_r hd1 hd2 hd3 c1_1 c9_2 ev16_3 ev32_6, dnv_r hd1 hd2 hd3 c9_2 ev16_3 ev20_4 c23_5 ev32_6⟩)⟩
      · refine z_lload_n (pc := 26) hZ 0 dM_down_26 rfl rfl ?_
        refine z_goto (pc := 27) hZ 33 dM_down_27 (by decide) ?_
        exact z_retl (pc := 33) hZ dM_down_33 rfl ⟨_, rfl, rfl, rfl, (by first | exact ⟨dn_q hd1 hd2 hd3 c1_1 c9_2 ev16_3, dnv_q hd1 hd2 hd3 c9_2 ev16_3 ev20_4 c23_5⟩ | exact ⟨dn_r hd1 hd2 hd3 c1_1 c9_2 ev16_3 nokey_, dnv_r hd1 hd2 hd3 c9_2 ev16_3 ev20_4 c23_5 nokey_⟩)⟩
    · refine z_lconst (pc := 12) hZ 1 dM_down_12 (by decide) ?_
      exact z_retl (pc := 13) hZ dM_down_13 rfl ⟨_, rfl, rfl, rfl, (by exact ⟨dn_1 c9_2, dnv_1 hd2 c9_2⟩)⟩
  · refine z_lload_n (pc := 4) hZ 0 dM_down_4 rfl rfl ?_
    exact z_retl (pc := 5) hZ dM_down_5 rfl ⟨_, rfl, rfl, rfl, (by exact ⟨dn_0 hd1 c1_1, dnv_0 c1_1⟩)⟩
set_option maxHeartbeats 4000000 in
set_option maxRecDepth 100000 in
theorem cM_nearest (l : Launch) (D : va_G) (cR c1 c2 c3 : ClassId) (h0 a1 a2 a3 : Nat) (Y : va_W) (ka : Int32) (na : Int64) (ea : Int32) (kb : Int32) (nb : Int64) (eb : Int32) (k : Int32) (n : Int64) (e : Int32) (bits : Int64) (scale : Int32) (K : Nat → Int32) (N : Nat → Int64) (E : Nat → Int32) (p1 : Int64) (p2 : Int32) (p3 : Int32) (hn1 : 0 ≤ p1.toInt) (hn2 : p1.toInt < 4611686018427387904) (hn3 : -5000 ≤ p2.toInt ∧ p2.toInt ≤ 5000) : zM l D vwCl zNF zNM yM_nearest wsM_nearest { frames := 1, cells := 0, slots := 0, locals := 23 } [.ref h0, .long p1, .int p2, .int p3] (MW h0 a1 a2 a3 c1 c2 c3 (ka, na, ea, kb, nb, eb, k, n, e, bits, scale, K, N, E) ++ Y) (TY cR c1 c2 c3) (qV (fun w' tys' => ∃ k' : Int32, ∃ n' : Int64, ∃ e' : Int32, MW h0 a1 a2 a3 c1 c2 c3 (ka, na, ea, kb, nb, eb, k', n', e', bits, scale, K, N, E) ++ Y = w' ∧ (TY cR c1 c2 c3) = tys' ∧ ((RK k' n' e' ∧ GR n' e') ∧ (p1 = 0 → k' = 2 ∧ n' = 0 ∧ e' = 0) ∧ MA k' n' e' (rnd (bb p3) (p1.toInt.toNat * 2 ^ (p2.toInt + (OFF : Int)).toNat) false)))) := by
  refine z_met (cc := bM_nearest) (maxL := 15) (ret := none) (isI := false) (own := RM) (by decide +kernel) rfl rfl (fun h => by cases h) (Nat.le_of_ble_eq_true rfl) (fun Z hZ => ?_)
  show Z 0 0 (TY cR c1 c2 c3) 0 [(0, .ref h0), (1, .long p1), (3, .int p2), (4, .int p3)] [] (MW h0 a1 a2 a3 c1 c2 c3 (ka, na, ea, kb, nb, eb, k, n, e, bits, scale, K, N, E) ++ Y)
  refine z_lload_n (pc := 0) hZ 1 dM_nearest_0 rfl rfl ?_
  refine z_lconst (pc := 1) hZ 0 dM_nearest_1 (by decide) ?_
  refine z_lif_ne (pc := 2) hZ 13 dM_nearest_2 dM_nearest_3 (by decide) (fun c3_1 => ?_) (fun c3_1 => ?_)
  · refine z_lload_n (pc := 13) hZ 1 dM_nearest_13 rfl rfl ?_
    refine z_lstore (pc := 14) hZ [(5, .long p1), (0, .ref h0), (1, .long p1), (3, .int p2), (4, .int p3)] dM_nearest_14 (by decide) rfl ?_
    refine z_iload_n (pc := 16) hZ 3 dM_nearest_16 rfl rfl ?_
    refine z_istore (pc := 17) hZ [(7, .int p2), (5, .long p1), (0, .ref h0), (1, .long p1), (3, .int p2), (4, .int p3)] dM_nearest_17 (by decide) rfl ?_
    have L19 : ∀ (N19 : Nat) (x7_19 : Int32) (x5_19 : Int64), (4611686018427387904 - x5_19.toInt).toNat < N19 → (NB p2 x5_19 x7_19) → (NBV p1 p2 x5_19 x7_19) → Z 0 0 (TY cR c1 c2 c3) 19 [(7, .int x7_19), (5, .long x5_19), (0, .ref h0), (4, .int p3)] [] (MW h0 a1 a2 a3 c1 c2 c3 (ka, na, ea, kb, nb, eb, k, n, e, bits, scale, K, N, E) ++ Y) := by
      intro N19
      induction N19 with
      | zero => intro x7_19 x5_19 m19; exact absurd m19 (Nat.not_lt_zero _)
      | succ N19 ih19 =>
        intro x7_19 x5_19 m19 i19 w19
        refine z_lload (pc := 19) hZ 1 dM_nearest_19 rfl ?_
        refine z_bipush (pc := 21) hZ 61 dM_nearest_21 (by decide) ?_
        refine z_lshr (pc := 23) hZ dM_nearest_23 (fun v23_2 ev23_2 => ?_)
        refine z_lconst (pc := 24) hZ 0 dM_nearest_24 (by decide) ?_
        refine z_lif_ne (pc := 25) hZ 41 dM_nearest_25 dM_nearest_26 (by decide) (fun c26_3 => ?_) (fun c26_3 => ?_)
        · have NX := nb_x (m := x5_19) (x := x7_19) i19 (by assumption) (by assumption)
          have HX := nx_x hn3 NX.2.2
          refine z_iload (pc := 41) hZ 0 dM_nearest_41 rfl ?_
          refine z_bipush (pc := 43) hZ 9 dM_nearest_43 (by decide) ?_
          refine z_iadd (pc := 45) hZ dM_nearest_45 (fun v45_4 ev45_4 => ?_)
          refine z_sipush (pc := 46) hZ (-1074) dM_nearest_46 (by decide) ?_
          refine z_icmp_ge (pc := 49) hZ 61 dM_nearest_49 (by decide) (fun c49_5 => ?_) (fun c49_5 => ?_)
          · have DB1 := db_1 HX ev45_4 c49_5
            have DE := dbe_1 HX ev45_4 c49_5
            refine z_bipush (pc := 61) hZ 9 dM_nearest_61 (by decide) ?_
            refine z_istore (pc := 63) hZ [(8, .int 9), (7, .int x7_19), (5, .long x5_19), (0, .ref h0), (4, .int p3)] dM_nearest_63 (by decide) rfl ?_
            refine z_lconst (pc := 65) hZ 0 dM_nearest_65 (by decide) ?_
            refine z_lstore (pc := 66) hZ [(9, .long 0), (8, .int 9), (7, .int x7_19), (5, .long x5_19), (0, .ref h0), (4, .int p3)] dM_nearest_66 (by decide) rfl ?_
            refine z_iload (pc := 68) hZ 1 dM_nearest_68 rfl ?_
            refine z_bipush (pc := 70) hZ 62 dM_nearest_70 (by decide) ?_
            refine z_icmp_gt (pc := 72) hZ 131 dM_nearest_72 (by decide) (fun c9 => False.elim (absurd c9 (by decide))) (fun c72 => ?_)
            refine z_lload (pc := 75) hZ 3 dM_nearest_75 rfl ?_
            refine z_iload (pc := 77) hZ 1 dM_nearest_77 rfl ?_
            refine z_lshr (pc := 79) hZ dM_nearest_79 (fun v79_6 ev79_6 => ?_)
            refine z_lstore (pc := 80) hZ [(9, .long v79_6), (8, .int 9), (7, .int x7_19), (5, .long x5_19), (0, .ref h0), (4, .int p3)] dM_nearest_80 (by decide) rfl ?_
            refine z_lload (pc := 82) hZ 3 dM_nearest_82 rfl ?_
            refine z_lload (pc := 84) hZ 0 dM_nearest_84 rfl ?_
            refine z_iload (pc := 86) hZ 1 dM_nearest_86 rfl ?_
            refine z_lshl (pc := 88) hZ dM_nearest_88 (fun v88_7 ev88_7 => ?_)
            refine z_lsub (pc := 89) hZ dM_nearest_89 (fun v89_8 ev89_8 => ?_)
            refine z_lstore (pc := 90) hZ [(11, .long v89_8), (9, .long v79_6), (8, .int 9), (7, .int x7_19), (5, .long x5_19), (0, .ref h0), (4, .int p3)] dM_nearest_90 (by decide) rfl ?_
            refine z_lconst (pc := 92) hZ 1 dM_nearest_92 (by decide) ?_
            refine z_iload (pc := 93) hZ 2 dM_nearest_93 rfl ?_
            refine z_iconst (pc := 95) hZ 1 dM_nearest_95 (by decide) ?_
            refine z_isub (pc := 96) hZ dM_nearest_96 (fun v96_9 ev96_9 => ?_)
            refine z_lshl (pc := 97) hZ dM_nearest_97 (fun v97_10 ev97_10 => ?_)
            refine z_lstore (pc := 98) hZ [(13, .long v97_10), (11, .long v89_8), (9, .long v79_6), (8, .int 9), (7, .int x7_19), (5, .long x5_19), (0, .ref h0), (4, .int p3)] dM_nearest_98 (by decide) rfl ?_
            refine z_lload (pc := 100) hZ 1 dM_nearest_100 rfl ?_
            refine z_lload (pc := 102) hZ 0 dM_nearest_102 rfl ?_
            refine z_lif_gt (pc := 104) hZ 125 dM_nearest_104 dM_nearest_105 (by decide) (fun c105_11 => ?_) (fun c105_11 => ?_)
            · refine z_lload (pc := 125) hZ 2 dM_nearest_125 rfl ?_
              refine z_lconst (pc := 127) hZ 1 dM_nearest_127 (by decide) ?_
              refine z_ladd (pc := 128) hZ dM_nearest_128 (fun v128_12 ev128_12 => ?_)
              refine z_lstore (pc := 129) hZ [(9, .long v128_12), (13, .long v97_10), (11, .long v89_8), (8, .int 9), (7, .int x7_19), (5, .long x5_19), (0, .ref h0), (4, .int p3)] dM_nearest_129 (by decide) rfl ?_
              have HV : NVQ p1 p2 v128_12 x7_19 9 := by first | exact nv_0 hn1 HX ⟨NX.1, NX.2.1⟩ w19 DE c72 | (have F := nv_v ⟨NX.1, NX.2.1⟩ DE c72 ev79_6 ev88_7 ev89_8 ev96_9 ev97_10; first | exact nv_u hn1 HX ⟨NX.1, NX.2.1⟩ w19 DE F (nv_u1 F c105_11) ev128_12 | exact nv_u hn1 HX ⟨NX.1, NX.2.1⟩ w19 DE F (nv_u2 F nokey_ nokey_ nokey_) ev128_12 | exact nv_n hn1 HX ⟨NX.1, NX.2.1⟩ w19 DE F (nv_n1 F c105_11 nokey_) | exact nv_n hn1 HX ⟨NX.1, NX.2.1⟩ w19 DE F (nv_n2 F c105_11 nokey_ nokey_))
              refine z_iconst (pc := 131) hZ 0 dM_nearest_131 (by decide) ?_
              refine z_istore (pc := 132) hZ [(11, .int 0), (9, .long v128_12), (13, .long v97_10), (8, .int 9), (7, .int x7_19), (5, .long x5_19), (0, .ref h0), (4, .int p3)] dM_nearest_132 (by decide) rfl ?_
              have L134 : ∀ (N134 : Nat) (x11_134 : Int32), (60 - x11_134.toInt).toNat < N134 → (LB v128_12 x11_134) → (LBM v128_12 x11_134) → Z 0 0 (TY cR c1 c2 c3) 134 [(11, .int x11_134), (9, .long v128_12), (8, .int 9), (7, .int x7_19), (0, .ref h0), (4, .int p3)] [] (MW h0 a1 a2 a3 c1 c2 c3 (ka, na, ea, kb, nb, eb, k, n, e, bits, scale, K, N, E) ++ Y) := by
                intro N134
                induction N134 with
                | zero => intro x11_134 m134; exact absurd m134 (Nat.not_lt_zero _)
                | succ N134 ih134 =>
                  intro x11_134 m134 i134 b134
                  refine z_lload (pc := 134) hZ 1 dM_nearest_134 rfl ?_
                  refine z_iload (pc := 136) hZ 0 dM_nearest_136 rfl ?_
                  refine z_lshr (pc := 138) hZ dM_nearest_138 (fun v138_13 ev138_13 => ?_)
                  refine z_lconst (pc := 139) hZ 0 dM_nearest_139 (by decide) ?_
                  refine z_lif_eq (pc := 140) hZ 150 dM_nearest_140 dM_nearest_141 (by decide) (fun c141_14 => ?_) (fun c141_14 => ?_)
                  · have HL := lbm_e i134 b134 ev138_13 c141_14
                    refine z_iload (pc := 150) hZ 0 dM_nearest_150 rfl ?_
                    refine z_iload (pc := 152) hZ 3 dM_nearest_152 rfl ?_
                    refine z_iadd (pc := 154) hZ dM_nearest_154 (fun v154_15 ev154_15 => ?_)
                    refine z_iload (pc := 155) hZ 2 dM_nearest_155 rfl ?_
                    refine z_iadd (pc := 157) hZ dM_nearest_157 (fun v157_16 ev157_16 => ?_)
                    refine z_sipush (pc := 158) hZ 1024 dM_nearest_158 (by decide) ?_
                    refine z_icmp_le (pc := 161) hZ 181 dM_nearest_161 (by decide) (fun c161_17 => ?_) (fun c161_17 => ?_)
                    · refine z_aload_n (pc := 181) hZ 4 dM_nearest_181 rfl rfl ?_
                      refine z_iload (pc := 182) hZ 5 dM_nearest_182 rfl ?_
                      refine z_if_eq (pc := 184) hZ 193 dM_nearest_184 (by decide) (fun c184_18 => ?_) (fun c184_18 => ?_)
                      · refine z_lload (pc := 193) hZ 1 dM_nearest_193 rfl ?_
                        refine z_iload (pc := 195) hZ 3 dM_nearest_195 rfl ?_
                        refine z_iload (pc := 197) hZ 2 dM_nearest_197 rfl ?_
                        refine z_iadd (pc := 199) hZ dM_nearest_199 (fun v199_19 ev199_19 => ?_)
                        refine z_callV (pc := 200) (As := [.long v128_12, .int v199_19]) (rest := []) hZ (cM_plain l D cR c1 c2 c3 h0 a1 a2 a3 Y ka na ea kb nb eb k n e bits scale K N E v128_12 v199_19 (by first | exact Or.inl rfl | exact nr_pp (l := x11_134) (x := x7_19) (d := 9) (by assumption) (by assumption) (by assumption) DB1 HX (by assumption) (by assumption) (by assumption) (by assumption) | exact PP_neg (nr_pp (l := x11_134) (x := x7_19) (d := 9) (by assumption) (by assumption) (by assumption) DB1 HX (by assumption) (by assumption) (by assumption) (by assumption)) (by assumption))) zyM_plain (z_goodV ml_M_31 im_M_plain se_M_plain in_M co_M_plain) 0 rfl rfl rfl rfl (by decide) rfl rfl (Nat.le_of_ble_eq_true rfl) ⟨Nat.zero_le _, Nat.zero_le _⟩ dM_nearest_200 (z_kv (fun w1 tys1 hp => ?_))
                        obtain ⟨k200_20, n200_20, e200_20, rfl, rfl, p200_20⟩ := hp
                        exact z_retv (pc := 203) hZ dM_nearest_203 rfl ⟨rfl, _, _, _, rfl, rfl, (by first | exact ⟨nr_sp (Or.inl rfl) nokey_, (fun h => absurd h c3_1), nv_i 3 p3 HV HX DE HL ev154_15 ev157_16 c161_17 (Or.inl ⟨nokey_, rfl⟩) nokey_⟩ | exact ⟨nr_sp (Or.inr (Or.inl rfl)) nokey_, (fun h => absurd h c3_1), nv_i 4 p3 HV HX DE HL ev154_15 ev157_16 c161_17 (Or.inr ⟨nokey_, rfl⟩) nokey_⟩ | exact ⟨nr_ok (p200_20).1, (fun h => absurd h c3_1), nv_p p3 HV HX DE HL ev154_15 ev157_16 c161_17 ev199_19 (Or.inl ⟨c184_18, rfl⟩) (p200_20).1 (p200_20).2.2⟩ | exact ⟨nr_ok (p200_20).1, (fun h => absurd h c3_1), nv_p p3 HV HX DE HL ev154_15 ev157_16 c161_17 ev199_19 (Or.inr ⟨c184_18, nokey_⟩) (p200_20).1 (p200_20).2.2⟩)⟩
                      · refine z_lload (pc := 187) hZ 1 dM_nearest_187 rfl ?_
                        refine z_lneg (pc := 189) hZ dM_nearest_189 (fun v189_21 ev189_21 => ?_)
                        refine z_goto (pc := 190) hZ 195 dM_nearest_190 (by decide) ?_
                        refine z_iload (pc := 195) hZ 3 dM_nearest_195 rfl ?_
                        refine z_iload (pc := 197) hZ 2 dM_nearest_197 rfl ?_
                        refine z_iadd (pc := 199) hZ dM_nearest_199 (fun v199_22 ev199_22 => ?_)
                        refine z_callV (pc := 200) (As := [.long v189_21, .int v199_22]) (rest := []) hZ (cM_plain l D cR c1 c2 c3 h0 a1 a2 a3 Y ka na ea kb nb eb k n e bits scale K N E v189_21 v199_22 (by first | exact Or.inl rfl | exact nr_pp (l := x11_134) (x := x7_19) (d := 9) (by assumption) (by assumption) (by assumption) DB1 HX (by assumption) (by assumption) (by assumption) (by assumption) | exact PP_neg (nr_pp (l := x11_134) (x := x7_19) (d := 9) (by assumption) (by assumption) (by assumption) DB1 HX (by assumption) (by assumption) (by assumption) (by assumption)) (by assumption))) zyM_plain (z_goodV ml_M_31 im_M_plain se_M_plain in_M co_M_plain) 0 rfl rfl rfl rfl (by decide) rfl rfl (Nat.le_of_ble_eq_true rfl) ⟨Nat.zero_le _, Nat.zero_le _⟩ dM_nearest_200 (z_kv (fun w1 tys1 hp => ?_))
                        obtain ⟨k200_23, n200_23, e200_23, rfl, rfl, p200_23⟩ := hp
                        exact z_retv (pc := 203) hZ dM_nearest_203 rfl ⟨rfl, _, _, _, rfl, rfl, (by first | exact ⟨nr_sp (Or.inl rfl) nokey_, (fun h => absurd h c3_1), nv_i 3 p3 HV HX DE HL ev154_15 ev157_16 c161_17 (Or.inl ⟨nokey_, rfl⟩) nokey_⟩ | exact ⟨nr_sp (Or.inr (Or.inl rfl)) nokey_, (fun h => absurd h c3_1), nv_i 4 p3 HV HX DE HL ev154_15 ev157_16 c161_17 (Or.inr ⟨nokey_, rfl⟩) nokey_⟩ | exact ⟨nr_ok (p200_23).1, (fun h => absurd h c3_1), nv_p p3 HV HX DE HL ev154_15 ev157_16 c161_17 ev199_22 (Or.inl ⟨c184_18, rfl⟩) (p200_23).1 (p200_23).2.2⟩ | exact ⟨nr_ok (p200_23).1, (fun h => absurd h c3_1), nv_p p3 HV HX DE HL ev154_15 ev157_16 c161_17 ev199_22 (Or.inr ⟨c184_18, ev189_21⟩) (p200_23).1 (p200_23).2.2⟩)⟩
                    · refine z_aload_n (pc := 164) hZ 4 dM_nearest_164 rfl rfl ?_
                      refine z_iload (pc := 165) hZ 5 dM_nearest_165 rfl ?_
                      refine z_if_eq (pc := 167) hZ 174 dM_nearest_167 (by decide) (fun c167_24 => ?_) (fun c167_24 => ?_)
                      · refine z_iconst (pc := 174) hZ 3 dM_nearest_174 (by decide) ?_
                        refine z_callV (pc := 175) (As := [.int 3]) (rest := []) hZ (cM_setSpecial l D cR c1 c2 c3 h0 a1 a2 a3 Y ka na ea kb nb eb k n e bits scale K N E 3) zyM_setSpecial (z_goodV ml_M_35 im_M_setSpecial se_M_setSpecial in_M co_M_setSpecial) 0 rfl rfl rfl rfl (by decide) rfl rfl (Nat.le_of_ble_eq_true rfl) ⟨Nat.zero_le _, Nat.zero_le _⟩ dM_nearest_175 (z_kv (fun w1 tys1 hp => ?_))
                        obtain ⟨k175_25, n175_25, e175_25, rfl, rfl, p175_25⟩ := hp
                        refine z_goto (pc := 178) hZ 203 dM_nearest_178 (by decide) ?_
                        exact z_retv (pc := 203) hZ dM_nearest_203 rfl ⟨rfl, _, _, _, rfl, rfl, (by first | exact ⟨nr_sp (Or.inl rfl) p175_25, (fun h => absurd h c3_1), nv_i 3 p3 HV HX DE HL ev154_15 ev157_16 c161_17 (Or.inl ⟨c167_24, rfl⟩) p175_25⟩ | exact ⟨nr_sp (Or.inr (Or.inl rfl)) p175_25, (fun h => absurd h c3_1), nv_i 4 p3 HV HX DE HL ev154_15 ev157_16 c161_17 (Or.inr ⟨c167_24, rfl⟩) p175_25⟩ | exact ⟨nr_ok (nokey_).1, (fun h => absurd h c3_1), nv_p p3 HV HX DE HL ev154_15 ev157_16 c161_17 nokey_ (Or.inl ⟨nokey_, rfl⟩) (nokey_).1 (nokey_).2.2⟩ | exact ⟨nr_ok (nokey_).1, (fun h => absurd h c3_1), nv_p p3 HV HX DE HL ev154_15 ev157_16 c161_17 nokey_ (Or.inr ⟨nokey_, nokey_⟩) (nokey_).1 (nokey_).2.2⟩)⟩
                      · refine z_iconst (pc := 170) hZ 4 dM_nearest_170 (by decide) ?_
                        refine z_goto (pc := 171) hZ 175 dM_nearest_171 (by decide) ?_
                        refine z_callV (pc := 175) (As := [.int 4]) (rest := []) hZ (cM_setSpecial l D cR c1 c2 c3 h0 a1 a2 a3 Y ka na ea kb nb eb k n e bits scale K N E 4) zyM_setSpecial (z_goodV ml_M_35 im_M_setSpecial se_M_setSpecial in_M co_M_setSpecial) 0 rfl rfl rfl rfl (by decide) rfl rfl (Nat.le_of_ble_eq_true rfl) ⟨Nat.zero_le _, Nat.zero_le _⟩ dM_nearest_175 (z_kv (fun w1 tys1 hp => ?_))
                        obtain ⟨k175_26, n175_26, e175_26, rfl, rfl, p175_26⟩ := hp
                        refine z_goto (pc := 178) hZ 203 dM_nearest_178 (by decide) ?_
                        exact z_retv (pc := 203) hZ dM_nearest_203 rfl ⟨rfl, _, _, _, rfl, rfl, (by first | exact ⟨nr_sp (Or.inl rfl) p175_26, (fun h => absurd h c3_1), nv_i 3 p3 HV HX DE HL ev154_15 ev157_16 c161_17 (Or.inl ⟨c167_24, rfl⟩) p175_26⟩ | exact ⟨nr_sp (Or.inr (Or.inl rfl)) p175_26, (fun h => absurd h c3_1), nv_i 4 p3 HV HX DE HL ev154_15 ev157_16 c161_17 (Or.inr ⟨c167_24, rfl⟩) p175_26⟩ | exact ⟨nr_ok (nokey_).1, (fun h => absurd h c3_1), nv_p p3 HV HX DE HL ev154_15 ev157_16 c161_17 nokey_ (Or.inl ⟨nokey_, rfl⟩) (nokey_).1 (nokey_).2.2⟩ | exact ⟨nr_ok (nokey_).1, (fun h => absurd h c3_1), nv_p p3 HV HX DE HL ev154_15 ev157_16 c161_17 nokey_ (Or.inr ⟨nokey_, nokey_⟩) (nokey_).1 (nokey_).2.2⟩)⟩
                  · refine z_iinc (pc := 144) hZ 0 (fun v9 => [(11, .int v9), (9, .long v128_12), (8, .int 9), (7, .int x7_19), (0, .ref h0), (4, .int p3)]) dM_nearest_144 rfl (by decide) (fun _ => rfl) (fun v144_27 ev144_27 => ?_)
                    refine z_goto (pc := 147) hZ 134 dM_nearest_147 (by decide) ?_
                    exact z_sub (pc := 134) hZ [0, 1, 2, 3, 4, 5] rfl (ih134 v144_27 (by exact Nat.lt_of_lt_of_le (lb_s (l := x11_134) (by assumption) (by assumption) (by assumption) (by assumption)).2 (Nat.le_of_lt_succ m134)) (by exact (lb_s (l := x11_134) (by assumption) (by assumption) (by assumption) (by assumption)).1) (by exact lbm_s i134 ev138_13 c141_14 ev144_27))
              exact z_sub (pc := 134) hZ [0, 1, 3, 4, 6, 7] rfl (L134 _ 0 (Nat.lt_succ_self _) (by first | exact lb_0 | exact lb_a (lb_q (x := x7_19) ⟨NX.1, NX.2.1⟩ DB1 (by assumption) (by assumption)) | exact lb_b (lb_q (x := x7_19) ⟨NX.1, NX.2.1⟩ DB1 (by assumption) (by assumption)) (by assumption)) (by exact lbm_0))
            · refine z_lload (pc := 108) hZ 1 dM_nearest_108 rfl ?_
              refine z_lload (pc := 110) hZ 0 dM_nearest_110 rfl ?_
              refine z_lif_ne (pc := 112) hZ 131 dM_nearest_112 dM_nearest_113 (by decide) (fun c113_28 => ?_) (fun c113_28 => ?_)
              · have HV : NVQ p1 p2 v79_6 x7_19 9 := by first | exact nv_0 hn1 HX ⟨NX.1, NX.2.1⟩ w19 DE c72 | (have F := nv_v ⟨NX.1, NX.2.1⟩ DE c72 ev79_6 ev88_7 ev89_8 ev96_9 ev97_10; first | exact nv_u hn1 HX ⟨NX.1, NX.2.1⟩ w19 DE F (nv_u1 F c105_11) nokey_ | exact nv_u hn1 HX ⟨NX.1, NX.2.1⟩ w19 DE F (nv_u2 F c113_28 nokey_ nokey_) nokey_ | exact nv_n hn1 HX ⟨NX.1, NX.2.1⟩ w19 DE F (nv_n1 F c105_11 c113_28) | exact nv_n hn1 HX ⟨NX.1, NX.2.1⟩ w19 DE F (nv_n2 F c105_11 nokey_ nokey_))
                refine z_iconst (pc := 131) hZ 0 dM_nearest_131 (by decide) ?_
                refine z_istore (pc := 132) hZ [(11, .int 0), (13, .long v97_10), (9, .long v79_6), (8, .int 9), (7, .int x7_19), (5, .long x5_19), (0, .ref h0), (4, .int p3)] dM_nearest_132 (by decide) rfl ?_
                have L134 : ∀ (N134 : Nat) (x11_134 : Int32), (60 - x11_134.toInt).toNat < N134 → (LB v79_6 x11_134) → (LBM v79_6 x11_134) → Z 0 0 (TY cR c1 c2 c3) 134 [(11, .int x11_134), (9, .long v79_6), (8, .int 9), (7, .int x7_19), (0, .ref h0), (4, .int p3)] [] (MW h0 a1 a2 a3 c1 c2 c3 (ka, na, ea, kb, nb, eb, k, n, e, bits, scale, K, N, E) ++ Y) := by
                  intro N134
                  induction N134 with
                  | zero => intro x11_134 m134; exact absurd m134 (Nat.not_lt_zero _)
                  | succ N134 ih134 =>
                    intro x11_134 m134 i134 b134
                    refine z_lload (pc := 134) hZ 1 dM_nearest_134 rfl ?_
                    refine z_iload (pc := 136) hZ 0 dM_nearest_136 rfl ?_
                    refine z_lshr (pc := 138) hZ dM_nearest_138 (fun v138_29 ev138_29 => ?_)
                    refine z_lconst (pc := 139) hZ 0 dM_nearest_139 (by decide) ?_
                    refine z_lif_eq (pc := 140) hZ 150 dM_nearest_140 dM_nearest_141 (by decide) (fun c141_30 => ?_) (fun c141_30 => ?_)
                    · have HL := lbm_e i134 b134 ev138_29 c141_30
                      refine z_iload (pc := 150) hZ 0 dM_nearest_150 rfl ?_
                      refine z_iload (pc := 152) hZ 3 dM_nearest_152 rfl ?_
                      refine z_iadd (pc := 154) hZ dM_nearest_154 (fun v154_31 ev154_31 => ?_)
                      refine z_iload (pc := 155) hZ 2 dM_nearest_155 rfl ?_
                      refine z_iadd (pc := 157) hZ dM_nearest_157 (fun v157_32 ev157_32 => ?_)
                      refine z_sipush (pc := 158) hZ 1024 dM_nearest_158 (by decide) ?_
                      refine z_icmp_le (pc := 161) hZ 181 dM_nearest_161 (by decide) (fun c161_33 => ?_) (fun c161_33 => ?_)
                      · refine z_aload_n (pc := 181) hZ 4 dM_nearest_181 rfl rfl ?_
                        refine z_iload (pc := 182) hZ 5 dM_nearest_182 rfl ?_
                        refine z_if_eq (pc := 184) hZ 193 dM_nearest_184 (by decide) (fun c184_34 => ?_) (fun c184_34 => ?_)
                        · refine z_lload (pc := 193) hZ 1 dM_nearest_193 rfl ?_
                          refine z_iload (pc := 195) hZ 3 dM_nearest_195 rfl ?_
                          refine z_iload (pc := 197) hZ 2 dM_nearest_197 rfl ?_
                          refine z_iadd (pc := 199) hZ dM_nearest_199 (fun v199_35 ev199_35 => ?_)
                          refine z_callV (pc := 200) (As := [.long v79_6, .int v199_35]) (rest := []) hZ (cM_plain l D cR c1 c2 c3 h0 a1 a2 a3 Y ka na ea kb nb eb k n e bits scale K N E v79_6 v199_35 (by first | exact Or.inl rfl | exact nr_pp (l := x11_134) (x := x7_19) (d := 9) (by assumption) (by assumption) (by assumption) DB1 HX (by assumption) (by assumption) (by assumption) (by assumption) | exact PP_neg (nr_pp (l := x11_134) (x := x7_19) (d := 9) (by assumption) (by assumption) (by assumption) DB1 HX (by assumption) (by assumption) (by assumption) (by assumption)) (by assumption))) zyM_plain (z_goodV ml_M_31 im_M_plain se_M_plain in_M co_M_plain) 0 rfl rfl rfl rfl (by decide) rfl rfl (Nat.le_of_ble_eq_true rfl) ⟨Nat.zero_le _, Nat.zero_le _⟩ dM_nearest_200 (z_kv (fun w1 tys1 hp => ?_))
                          obtain ⟨k200_36, n200_36, e200_36, rfl, rfl, p200_36⟩ := hp
                          exact z_retv (pc := 203) hZ dM_nearest_203 rfl ⟨rfl, _, _, _, rfl, rfl, (by first | exact ⟨nr_sp (Or.inl rfl) nokey_, (fun h => absurd h c3_1), nv_i 3 p3 HV HX DE HL ev154_31 ev157_32 c161_33 (Or.inl ⟨nokey_, rfl⟩) nokey_⟩ | exact ⟨nr_sp (Or.inr (Or.inl rfl)) nokey_, (fun h => absurd h c3_1), nv_i 4 p3 HV HX DE HL ev154_31 ev157_32 c161_33 (Or.inr ⟨nokey_, rfl⟩) nokey_⟩ | exact ⟨nr_ok (p200_36).1, (fun h => absurd h c3_1), nv_p p3 HV HX DE HL ev154_31 ev157_32 c161_33 ev199_35 (Or.inl ⟨c184_34, rfl⟩) (p200_36).1 (p200_36).2.2⟩ | exact ⟨nr_ok (p200_36).1, (fun h => absurd h c3_1), nv_p p3 HV HX DE HL ev154_31 ev157_32 c161_33 ev199_35 (Or.inr ⟨c184_34, nokey_⟩) (p200_36).1 (p200_36).2.2⟩)⟩
                        · refine z_lload (pc := 187) hZ 1 dM_nearest_187 rfl ?_
                          refine z_lneg (pc := 189) hZ dM_nearest_189 (fun v189_37 ev189_37 => ?_)
                          refine z_goto (pc := 190) hZ 195 dM_nearest_190 (by decide) ?_
                          refine z_iload (pc := 195) hZ 3 dM_nearest_195 rfl ?_
                          refine z_iload (pc := 197) hZ 2 dM_nearest_197 rfl ?_
                          refine z_iadd (pc := 199) hZ dM_nearest_199 (fun v199_38 ev199_38 => ?_)
                          refine z_callV (pc := 200) (As := [.long v189_37, .int v199_38]) (rest := []) hZ (cM_plain l D cR c1 c2 c3 h0 a1 a2 a3 Y ka na ea kb nb eb k n e bits scale K N E v189_37 v199_38 (by first | exact Or.inl rfl | exact nr_pp (l := x11_134) (x := x7_19) (d := 9) (by assumption) (by assumption) (by assumption) DB1 HX (by assumption) (by assumption) (by assumption) (by assumption) | exact PP_neg (nr_pp (l := x11_134) (x := x7_19) (d := 9) (by assumption) (by assumption) (by assumption) DB1 HX (by assumption) (by assumption) (by assumption) (by assumption)) (by assumption))) zyM_plain (z_goodV ml_M_31 im_M_plain se_M_plain in_M co_M_plain) 0 rfl rfl rfl rfl (by decide) rfl rfl (Nat.le_of_ble_eq_true rfl) ⟨Nat.zero_le _, Nat.zero_le _⟩ dM_nearest_200 (z_kv (fun w1 tys1 hp => ?_))
                          obtain ⟨k200_39, n200_39, e200_39, rfl, rfl, p200_39⟩ := hp
                          exact z_retv (pc := 203) hZ dM_nearest_203 rfl ⟨rfl, _, _, _, rfl, rfl, (by first | exact ⟨nr_sp (Or.inl rfl) nokey_, (fun h => absurd h c3_1), nv_i 3 p3 HV HX DE HL ev154_31 ev157_32 c161_33 (Or.inl ⟨nokey_, rfl⟩) nokey_⟩ | exact ⟨nr_sp (Or.inr (Or.inl rfl)) nokey_, (fun h => absurd h c3_1), nv_i 4 p3 HV HX DE HL ev154_31 ev157_32 c161_33 (Or.inr ⟨nokey_, rfl⟩) nokey_⟩ | exact ⟨nr_ok (p200_39).1, (fun h => absurd h c3_1), nv_p p3 HV HX DE HL ev154_31 ev157_32 c161_33 ev199_38 (Or.inl ⟨c184_34, rfl⟩) (p200_39).1 (p200_39).2.2⟩ | exact ⟨nr_ok (p200_39).1, (fun h => absurd h c3_1), nv_p p3 HV HX DE HL ev154_31 ev157_32 c161_33 ev199_38 (Or.inr ⟨c184_34, ev189_37⟩) (p200_39).1 (p200_39).2.2⟩)⟩
                      · refine z_aload_n (pc := 164) hZ 4 dM_nearest_164 rfl rfl ?_
                        refine z_iload (pc := 165) hZ 5 dM_nearest_165 rfl ?_
                        refine z_if_eq (pc := 167) hZ 174 dM_nearest_167 (by decide) (fun c167_40 => ?_) (fun c167_40 => ?_)
                        · refine z_iconst (pc := 174) hZ 3 dM_nearest_174 (by decide) ?_
                          refine z_callV (pc := 175) (As := [.int 3]) (rest := []) hZ (cM_setSpecial l D cR c1 c2 c3 h0 a1 a2 a3 Y ka na ea kb nb eb k n e bits scale K N E 3) zyM_setSpecial (z_goodV ml_M_35 im_M_setSpecial se_M_setSpecial in_M co_M_setSpecial) 0 rfl rfl rfl rfl (by decide) rfl rfl (Nat.le_of_ble_eq_true rfl) ⟨Nat.zero_le _, Nat.zero_le _⟩ dM_nearest_175 (z_kv (fun w1 tys1 hp => ?_))
                          obtain ⟨k175_41, n175_41, e175_41, rfl, rfl, p175_41⟩ := hp
                          refine z_goto (pc := 178) hZ 203 dM_nearest_178 (by decide) ?_
                          exact z_retv (pc := 203) hZ dM_nearest_203 rfl ⟨rfl, _, _, _, rfl, rfl, (by first | exact ⟨nr_sp (Or.inl rfl) p175_41, (fun h => absurd h c3_1), nv_i 3 p3 HV HX DE HL ev154_31 ev157_32 c161_33 (Or.inl ⟨c167_40, rfl⟩) p175_41⟩ | exact ⟨nr_sp (Or.inr (Or.inl rfl)) p175_41, (fun h => absurd h c3_1), nv_i 4 p3 HV HX DE HL ev154_31 ev157_32 c161_33 (Or.inr ⟨c167_40, rfl⟩) p175_41⟩ | exact ⟨nr_ok (nokey_).1, (fun h => absurd h c3_1), nv_p p3 HV HX DE HL ev154_31 ev157_32 c161_33 nokey_ (Or.inl ⟨nokey_, rfl⟩) (nokey_).1 (nokey_).2.2⟩ | exact ⟨nr_ok (nokey_).1, (fun h => absurd h c3_1), nv_p p3 HV HX DE HL ev154_31 ev157_32 c161_33 nokey_ (Or.inr ⟨nokey_, nokey_⟩) (nokey_).1 (nokey_).2.2⟩)⟩
                        · refine z_iconst (pc := 170) hZ 4 dM_nearest_170 (by decide) ?_
                          refine z_goto (pc := 171) hZ 175 dM_nearest_171 (by decide) ?_
                          refine z_callV (pc := 175) (As := [.int 4]) (rest := []) hZ (cM_setSpecial l D cR c1 c2 c3 h0 a1 a2 a3 Y ka na ea kb nb eb k n e bits scale K N E 4) zyM_setSpecial (z_goodV ml_M_35 im_M_setSpecial se_M_setSpecial in_M co_M_setSpecial) 0 rfl rfl rfl rfl (by decide) rfl rfl (Nat.le_of_ble_eq_true rfl) ⟨Nat.zero_le _, Nat.zero_le _⟩ dM_nearest_175 (z_kv (fun w1 tys1 hp => ?_))
                          obtain ⟨k175_42, n175_42, e175_42, rfl, rfl, p175_42⟩ := hp
                          refine z_goto (pc := 178) hZ 203 dM_nearest_178 (by decide) ?_
                          exact z_retv (pc := 203) hZ dM_nearest_203 rfl ⟨rfl, _, _, _, rfl, rfl, (by first | exact ⟨nr_sp (Or.inl rfl) p175_42, (fun h => absurd h c3_1), nv_i 3 p3 HV HX DE HL ev154_31 ev157_32 c161_33 (Or.inl ⟨c167_40, rfl⟩) p175_42⟩ | exact ⟨nr_sp (Or.inr (Or.inl rfl)) p175_42, (fun h => absurd h c3_1), nv_i 4 p3 HV HX DE HL ev154_31 ev157_32 c161_33 (Or.inr ⟨c167_40, rfl⟩) p175_42⟩ | exact ⟨nr_ok (nokey_).1, (fun h => absurd h c3_1), nv_p p3 HV HX DE HL ev154_31 ev157_32 c161_33 nokey_ (Or.inl ⟨nokey_, rfl⟩) (nokey_).1 (nokey_).2.2⟩ | exact ⟨nr_ok (nokey_).1, (fun h => absurd h c3_1), nv_p p3 HV HX DE HL ev154_31 ev157_32 c161_33 nokey_ (Or.inr ⟨nokey_, nokey_⟩) (nokey_).1 (nokey_).2.2⟩)⟩
                    · refine z_iinc (pc := 144) hZ 0 (fun v9 => [(11, .int v9), (9, .long v79_6), (8, .int 9), (7, .int x7_19), (0, .ref h0), (4, .int p3)]) dM_nearest_144 rfl (by decide) (fun _ => rfl) (fun v144_43 ev144_43 => ?_)
                      refine z_goto (pc := 147) hZ 134 dM_nearest_147 (by decide) ?_
                      exact z_sub (pc := 134) hZ [0, 1, 2, 3, 4, 5] rfl (ih134 v144_43 (by exact Nat.lt_of_lt_of_le (lb_s (l := x11_134) (by assumption) (by assumption) (by assumption) (by assumption)).2 (Nat.le_of_lt_succ m134)) (by exact (lb_s (l := x11_134) (by assumption) (by assumption) (by assumption) (by assumption)).1) (by exact lbm_s i134 ev138_29 c141_30 ev144_43))
                exact z_sub (pc := 134) hZ [0, 2, 3, 4, 6, 7] rfl (L134 _ 0 (Nat.lt_succ_self _) (by first | exact lb_0 | exact lb_a (lb_q (x := x7_19) ⟨NX.1, NX.2.1⟩ DB1 (by assumption) (by assumption)) | exact lb_b (lb_q (x := x7_19) ⟨NX.1, NX.2.1⟩ DB1 (by assumption) (by assumption)) (by assumption)) (by exact lbm_0))
              · refine z_lload (pc := 116) hZ 2 dM_nearest_116 rfl ?_
                refine z_lconst (pc := 118) hZ 1 dM_nearest_118 (by decide) ?_
                refine z_land (pc := 119) hZ dM_nearest_119 (fun v119_44 ev119_44 => ?_)
                refine z_lconst (pc := 120) hZ 1 dM_nearest_120 (by decide) ?_
                refine z_lif_ne (pc := 121) hZ 131 dM_nearest_121 dM_nearest_122 (by decide) (fun c122_45 => ?_) (fun c122_45 => ?_)
                · have HV : NVQ p1 p2 v79_6 x7_19 9 := by first | exact nv_0 hn1 HX ⟨NX.1, NX.2.1⟩ w19 DE c72 | (have F := nv_v ⟨NX.1, NX.2.1⟩ DE c72 ev79_6 ev88_7 ev89_8 ev96_9 ev97_10; first | exact nv_u hn1 HX ⟨NX.1, NX.2.1⟩ w19 DE F (nv_u1 F c105_11) nokey_ | exact nv_u hn1 HX ⟨NX.1, NX.2.1⟩ w19 DE F (nv_u2 F c113_28 ev119_44 c122_45) nokey_ | exact nv_n hn1 HX ⟨NX.1, NX.2.1⟩ w19 DE F (nv_n1 F c105_11 c113_28) | exact nv_n hn1 HX ⟨NX.1, NX.2.1⟩ w19 DE F (nv_n2 F c105_11 ev119_44 c122_45))
                  refine z_iconst (pc := 131) hZ 0 dM_nearest_131 (by decide) ?_
                  refine z_istore (pc := 132) hZ [(11, .int 0), (13, .long v97_10), (9, .long v79_6), (8, .int 9), (7, .int x7_19), (5, .long x5_19), (0, .ref h0), (4, .int p3)] dM_nearest_132 (by decide) rfl ?_
                  have L134 : ∀ (N134 : Nat) (x11_134 : Int32), (60 - x11_134.toInt).toNat < N134 → (LB v79_6 x11_134) → (LBM v79_6 x11_134) → Z 0 0 (TY cR c1 c2 c3) 134 [(11, .int x11_134), (9, .long v79_6), (8, .int 9), (7, .int x7_19), (0, .ref h0), (4, .int p3)] [] (MW h0 a1 a2 a3 c1 c2 c3 (ka, na, ea, kb, nb, eb, k, n, e, bits, scale, K, N, E) ++ Y) := by
                    intro N134
                    induction N134 with
                    | zero => intro x11_134 m134; exact absurd m134 (Nat.not_lt_zero _)
                    | succ N134 ih134 =>
                      intro x11_134 m134 i134 b134
                      refine z_lload (pc := 134) hZ 1 dM_nearest_134 rfl ?_
                      refine z_iload (pc := 136) hZ 0 dM_nearest_136 rfl ?_
                      refine z_lshr (pc := 138) hZ dM_nearest_138 (fun v138_46 ev138_46 => ?_)
                      refine z_lconst (pc := 139) hZ 0 dM_nearest_139 (by decide) ?_
                      refine z_lif_eq (pc := 140) hZ 150 dM_nearest_140 dM_nearest_141 (by decide) (fun c141_47 => ?_) (fun c141_47 => ?_)
                      · have HL := lbm_e i134 b134 ev138_46 c141_47
                        refine z_iload (pc := 150) hZ 0 dM_nearest_150 rfl ?_
                        refine z_iload (pc := 152) hZ 3 dM_nearest_152 rfl ?_
                        refine z_iadd (pc := 154) hZ dM_nearest_154 (fun v154_48 ev154_48 => ?_)
                        refine z_iload (pc := 155) hZ 2 dM_nearest_155 rfl ?_
                        refine z_iadd (pc := 157) hZ dM_nearest_157 (fun v157_49 ev157_49 => ?_)
                        refine z_sipush (pc := 158) hZ 1024 dM_nearest_158 (by decide) ?_
                        refine z_icmp_le (pc := 161) hZ 181 dM_nearest_161 (by decide) (fun c161_50 => ?_) (fun c161_50 => ?_)
                        · refine z_aload_n (pc := 181) hZ 4 dM_nearest_181 rfl rfl ?_
                          refine z_iload (pc := 182) hZ 5 dM_nearest_182 rfl ?_
                          refine z_if_eq (pc := 184) hZ 193 dM_nearest_184 (by decide) (fun c184_51 => ?_) (fun c184_51 => ?_)
                          · refine z_lload (pc := 193) hZ 1 dM_nearest_193 rfl ?_
                            refine z_iload (pc := 195) hZ 3 dM_nearest_195 rfl ?_
                            refine z_iload (pc := 197) hZ 2 dM_nearest_197 rfl ?_
                            refine z_iadd (pc := 199) hZ dM_nearest_199 (fun v199_52 ev199_52 => ?_)
                            refine z_callV (pc := 200) (As := [.long v79_6, .int v199_52]) (rest := []) hZ (cM_plain l D cR c1 c2 c3 h0 a1 a2 a3 Y ka na ea kb nb eb k n e bits scale K N E v79_6 v199_52 (by first | exact Or.inl rfl | exact nr_pp (l := x11_134) (x := x7_19) (d := 9) (by assumption) (by assumption) (by assumption) DB1 HX (by assumption) (by assumption) (by assumption) (by assumption) | exact PP_neg (nr_pp (l := x11_134) (x := x7_19) (d := 9) (by assumption) (by assumption) (by assumption) DB1 HX (by assumption) (by assumption) (by assumption) (by assumption)) (by assumption))) zyM_plain (z_goodV ml_M_31 im_M_plain se_M_plain in_M co_M_plain) 0 rfl rfl rfl rfl (by decide) rfl rfl (Nat.le_of_ble_eq_true rfl) ⟨Nat.zero_le _, Nat.zero_le _⟩ dM_nearest_200 (z_kv (fun w1 tys1 hp => ?_))
                            obtain ⟨k200_53, n200_53, e200_53, rfl, rfl, p200_53⟩ := hp
                            exact z_retv (pc := 203) hZ dM_nearest_203 rfl ⟨rfl, _, _, _, rfl, rfl, (by first | exact ⟨nr_sp (Or.inl rfl) nokey_, (fun h => absurd h c3_1), nv_i 3 p3 HV HX DE HL ev154_48 ev157_49 c161_50 (Or.inl ⟨nokey_, rfl⟩) nokey_⟩ | exact ⟨nr_sp (Or.inr (Or.inl rfl)) nokey_, (fun h => absurd h c3_1), nv_i 4 p3 HV HX DE HL ev154_48 ev157_49 c161_50 (Or.inr ⟨nokey_, rfl⟩) nokey_⟩ | exact ⟨nr_ok (p200_53).1, (fun h => absurd h c3_1), nv_p p3 HV HX DE HL ev154_48 ev157_49 c161_50 ev199_52 (Or.inl ⟨c184_51, rfl⟩) (p200_53).1 (p200_53).2.2⟩ | exact ⟨nr_ok (p200_53).1, (fun h => absurd h c3_1), nv_p p3 HV HX DE HL ev154_48 ev157_49 c161_50 ev199_52 (Or.inr ⟨c184_51, nokey_⟩) (p200_53).1 (p200_53).2.2⟩)⟩
                          · refine z_lload (pc := 187) hZ 1 dM_nearest_187 rfl ?_
                            refine z_lneg (pc := 189) hZ dM_nearest_189 (fun v189_54 ev189_54 => ?_)
                            refine z_goto (pc := 190) hZ 195 dM_nearest_190 (by decide) ?_
                            refine z_iload (pc := 195) hZ 3 dM_nearest_195 rfl ?_
                            refine z_iload (pc := 197) hZ 2 dM_nearest_197 rfl ?_
                            refine z_iadd (pc := 199) hZ dM_nearest_199 (fun v199_55 ev199_55 => ?_)
                            refine z_callV (pc := 200) (As := [.long v189_54, .int v199_55]) (rest := []) hZ (cM_plain l D cR c1 c2 c3 h0 a1 a2 a3 Y ka na ea kb nb eb k n e bits scale K N E v189_54 v199_55 (by first | exact Or.inl rfl | exact nr_pp (l := x11_134) (x := x7_19) (d := 9) (by assumption) (by assumption) (by assumption) DB1 HX (by assumption) (by assumption) (by assumption) (by assumption) | exact PP_neg (nr_pp (l := x11_134) (x := x7_19) (d := 9) (by assumption) (by assumption) (by assumption) DB1 HX (by assumption) (by assumption) (by assumption) (by assumption)) (by assumption))) zyM_plain (z_goodV ml_M_31 im_M_plain se_M_plain in_M co_M_plain) 0 rfl rfl rfl rfl (by decide) rfl rfl (Nat.le_of_ble_eq_true rfl) ⟨Nat.zero_le _, Nat.zero_le _⟩ dM_nearest_200 (z_kv (fun w1 tys1 hp => ?_))
                            obtain ⟨k200_56, n200_56, e200_56, rfl, rfl, p200_56⟩ := hp
                            exact z_retv (pc := 203) hZ dM_nearest_203 rfl ⟨rfl, _, _, _, rfl, rfl, (by first | exact ⟨nr_sp (Or.inl rfl) nokey_, (fun h => absurd h c3_1), nv_i 3 p3 HV HX DE HL ev154_48 ev157_49 c161_50 (Or.inl ⟨nokey_, rfl⟩) nokey_⟩ | exact ⟨nr_sp (Or.inr (Or.inl rfl)) nokey_, (fun h => absurd h c3_1), nv_i 4 p3 HV HX DE HL ev154_48 ev157_49 c161_50 (Or.inr ⟨nokey_, rfl⟩) nokey_⟩ | exact ⟨nr_ok (p200_56).1, (fun h => absurd h c3_1), nv_p p3 HV HX DE HL ev154_48 ev157_49 c161_50 ev199_55 (Or.inl ⟨c184_51, rfl⟩) (p200_56).1 (p200_56).2.2⟩ | exact ⟨nr_ok (p200_56).1, (fun h => absurd h c3_1), nv_p p3 HV HX DE HL ev154_48 ev157_49 c161_50 ev199_55 (Or.inr ⟨c184_51, ev189_54⟩) (p200_56).1 (p200_56).2.2⟩)⟩
                        · refine z_aload_n (pc := 164) hZ 4 dM_nearest_164 rfl rfl ?_
                          refine z_iload (pc := 165) hZ 5 dM_nearest_165 rfl ?_
                          refine z_if_eq (pc := 167) hZ 174 dM_nearest_167 (by decide) (fun c167_57 => ?_) (fun c167_57 => ?_)
                          · refine z_iconst (pc := 174) hZ 3 dM_nearest_174 (by decide) ?_
                            refine z_callV (pc := 175) (As := [.int 3]) (rest := []) hZ (cM_setSpecial l D cR c1 c2 c3 h0 a1 a2 a3 Y ka na ea kb nb eb k n e bits scale K N E 3) zyM_setSpecial (z_goodV ml_M_35 im_M_setSpecial se_M_setSpecial in_M co_M_setSpecial) 0 rfl rfl rfl rfl (by decide) rfl rfl (Nat.le_of_ble_eq_true rfl) ⟨Nat.zero_le _, Nat.zero_le _⟩ dM_nearest_175 (z_kv (fun w1 tys1 hp => ?_))
                            obtain ⟨k175_58, n175_58, e175_58, rfl, rfl, p175_58⟩ := hp
                            refine z_goto (pc := 178) hZ 203 dM_nearest_178 (by decide) ?_
                            exact z_retv (pc := 203) hZ dM_nearest_203 rfl ⟨rfl, _, _, _, rfl, rfl, (by first | exact ⟨nr_sp (Or.inl rfl) p175_58, (fun h => absurd h c3_1), nv_i 3 p3 HV HX DE HL ev154_48 ev157_49 c161_50 (Or.inl ⟨c167_57, rfl⟩) p175_58⟩ | exact ⟨nr_sp (Or.inr (Or.inl rfl)) p175_58, (fun h => absurd h c3_1), nv_i 4 p3 HV HX DE HL ev154_48 ev157_49 c161_50 (Or.inr ⟨c167_57, rfl⟩) p175_58⟩ | exact ⟨nr_ok (nokey_).1, (fun h => absurd h c3_1), nv_p p3 HV HX DE HL ev154_48 ev157_49 c161_50 nokey_ (Or.inl ⟨nokey_, rfl⟩) (nokey_).1 (nokey_).2.2⟩ | exact ⟨nr_ok (nokey_).1, (fun h => absurd h c3_1), nv_p p3 HV HX DE HL ev154_48 ev157_49 c161_50 nokey_ (Or.inr ⟨nokey_, nokey_⟩) (nokey_).1 (nokey_).2.2⟩)⟩
                          · refine z_iconst (pc := 170) hZ 4 dM_nearest_170 (by decide) ?_
                            refine z_goto (pc := 171) hZ 175 dM_nearest_171 (by decide) ?_
                            refine z_callV (pc := 175) (As := [.int 4]) (rest := []) hZ (cM_setSpecial l D cR c1 c2 c3 h0 a1 a2 a3 Y ka na ea kb nb eb k n e bits scale K N E 4) zyM_setSpecial (z_goodV ml_M_35 im_M_setSpecial se_M_setSpecial in_M co_M_setSpecial) 0 rfl rfl rfl rfl (by decide) rfl rfl (Nat.le_of_ble_eq_true rfl) ⟨Nat.zero_le _, Nat.zero_le _⟩ dM_nearest_175 (z_kv (fun w1 tys1 hp => ?_))
                            obtain ⟨k175_59, n175_59, e175_59, rfl, rfl, p175_59⟩ := hp
                            refine z_goto (pc := 178) hZ 203 dM_nearest_178 (by decide) ?_
                            exact z_retv (pc := 203) hZ dM_nearest_203 rfl ⟨rfl, _, _, _, rfl, rfl, (by first | exact ⟨nr_sp (Or.inl rfl) p175_59, (fun h => absurd h c3_1), nv_i 3 p3 HV HX DE HL ev154_48 ev157_49 c161_50 (Or.inl ⟨c167_57, rfl⟩) p175_59⟩ | exact ⟨nr_sp (Or.inr (Or.inl rfl)) p175_59, (fun h => absurd h c3_1), nv_i 4 p3 HV HX DE HL ev154_48 ev157_49 c161_50 (Or.inr ⟨c167_57, rfl⟩) p175_59⟩ | exact ⟨nr_ok (nokey_).1, (fun h => absurd h c3_1), nv_p p3 HV HX DE HL ev154_48 ev157_49 c161_50 nokey_ (Or.inl ⟨nokey_, rfl⟩) (nokey_).1 (nokey_).2.2⟩ | exact ⟨nr_ok (nokey_).1, (fun h => absurd h c3_1), nv_p p3 HV HX DE HL ev154_48 ev157_49 c161_50 nokey_ (Or.inr ⟨nokey_, nokey_⟩) (nokey_).1 (nokey_).2.2⟩)⟩
                      · refine z_iinc (pc := 144) hZ 0 (fun v9 => [(11, .int v9), (9, .long v79_6), (8, .int 9), (7, .int x7_19), (0, .ref h0), (4, .int p3)]) dM_nearest_144 rfl (by decide) (fun _ => rfl) (fun v144_60 ev144_60 => ?_)
                        refine z_goto (pc := 147) hZ 134 dM_nearest_147 (by decide) ?_
                        exact z_sub (pc := 134) hZ [0, 1, 2, 3, 4, 5] rfl (ih134 v144_60 (by exact Nat.lt_of_lt_of_le (lb_s (l := x11_134) (by assumption) (by assumption) (by assumption) (by assumption)).2 (Nat.le_of_lt_succ m134)) (by exact (lb_s (l := x11_134) (by assumption) (by assumption) (by assumption) (by assumption)).1) (by exact lbm_s i134 ev138_46 c141_47 ev144_60))
                  exact z_sub (pc := 134) hZ [0, 2, 3, 4, 6, 7] rfl (L134 _ 0 (Nat.lt_succ_self _) (by first | exact lb_0 | exact lb_a (lb_q (x := x7_19) ⟨NX.1, NX.2.1⟩ DB1 (by assumption) (by assumption)) | exact lb_b (lb_q (x := x7_19) ⟨NX.1, NX.2.1⟩ DB1 (by assumption) (by assumption)) (by assumption)) (by exact lbm_0))
                · refine z_lload (pc := 125) hZ 2 dM_nearest_125 rfl ?_
                  refine z_lconst (pc := 127) hZ 1 dM_nearest_127 (by decide) ?_
                  refine z_ladd (pc := 128) hZ dM_nearest_128 (fun v128_61 ev128_61 => ?_)
                  refine z_lstore (pc := 129) hZ [(9, .long v128_61), (13, .long v97_10), (11, .long v89_8), (8, .int 9), (7, .int x7_19), (5, .long x5_19), (0, .ref h0), (4, .int p3)] dM_nearest_129 (by decide) rfl ?_
                  have HV : NVQ p1 p2 v128_61 x7_19 9 := by first | exact nv_0 hn1 HX ⟨NX.1, NX.2.1⟩ w19 DE c72 | (have F := nv_v ⟨NX.1, NX.2.1⟩ DE c72 ev79_6 ev88_7 ev89_8 ev96_9 ev97_10; first | exact nv_u hn1 HX ⟨NX.1, NX.2.1⟩ w19 DE F (nv_u1 F c105_11) ev128_61 | exact nv_u hn1 HX ⟨NX.1, NX.2.1⟩ w19 DE F (nv_u2 F c113_28 ev119_44 c122_45) ev128_61 | exact nv_n hn1 HX ⟨NX.1, NX.2.1⟩ w19 DE F (nv_n1 F c105_11 c113_28) | exact nv_n hn1 HX ⟨NX.1, NX.2.1⟩ w19 DE F (nv_n2 F c105_11 ev119_44 c122_45))
                  refine z_iconst (pc := 131) hZ 0 dM_nearest_131 (by decide) ?_
                  refine z_istore (pc := 132) hZ [(11, .int 0), (9, .long v128_61), (13, .long v97_10), (8, .int 9), (7, .int x7_19), (5, .long x5_19), (0, .ref h0), (4, .int p3)] dM_nearest_132 (by decide) rfl ?_
                  have L134 : ∀ (N134 : Nat) (x11_134 : Int32), (60 - x11_134.toInt).toNat < N134 → (LB v128_61 x11_134) → (LBM v128_61 x11_134) → Z 0 0 (TY cR c1 c2 c3) 134 [(11, .int x11_134), (9, .long v128_61), (8, .int 9), (7, .int x7_19), (0, .ref h0), (4, .int p3)] [] (MW h0 a1 a2 a3 c1 c2 c3 (ka, na, ea, kb, nb, eb, k, n, e, bits, scale, K, N, E) ++ Y) := by
                    intro N134
                    induction N134 with
                    | zero => intro x11_134 m134; exact absurd m134 (Nat.not_lt_zero _)
                    | succ N134 ih134 =>
                      intro x11_134 m134 i134 b134
                      refine z_lload (pc := 134) hZ 1 dM_nearest_134 rfl ?_
                      refine z_iload (pc := 136) hZ 0 dM_nearest_136 rfl ?_
                      refine z_lshr (pc := 138) hZ dM_nearest_138 (fun v138_62 ev138_62 => ?_)
                      refine z_lconst (pc := 139) hZ 0 dM_nearest_139 (by decide) ?_
                      refine z_lif_eq (pc := 140) hZ 150 dM_nearest_140 dM_nearest_141 (by decide) (fun c141_63 => ?_) (fun c141_63 => ?_)
                      · have HL := lbm_e i134 b134 ev138_62 c141_63
                        refine z_iload (pc := 150) hZ 0 dM_nearest_150 rfl ?_
                        refine z_iload (pc := 152) hZ 3 dM_nearest_152 rfl ?_
                        refine z_iadd (pc := 154) hZ dM_nearest_154 (fun v154_64 ev154_64 => ?_)
                        refine z_iload (pc := 155) hZ 2 dM_nearest_155 rfl ?_
                        refine z_iadd (pc := 157) hZ dM_nearest_157 (fun v157_65 ev157_65 => ?_)
                        refine z_sipush (pc := 158) hZ 1024 dM_nearest_158 (by decide) ?_
                        refine z_icmp_le (pc := 161) hZ 181 dM_nearest_161 (by decide) (fun c161_66 => ?_) (fun c161_66 => ?_)
                        · refine z_aload_n (pc := 181) hZ 4 dM_nearest_181 rfl rfl ?_
                          refine z_iload (pc := 182) hZ 5 dM_nearest_182 rfl ?_
                          refine z_if_eq (pc := 184) hZ 193 dM_nearest_184 (by decide) (fun c184_67 => ?_) (fun c184_67 => ?_)
                          · refine z_lload (pc := 193) hZ 1 dM_nearest_193 rfl ?_
                            refine z_iload (pc := 195) hZ 3 dM_nearest_195 rfl ?_
                            refine z_iload (pc := 197) hZ 2 dM_nearest_197 rfl ?_
                            refine z_iadd (pc := 199) hZ dM_nearest_199 (fun v199_68 ev199_68 => ?_)
                            refine z_callV (pc := 200) (As := [.long v128_61, .int v199_68]) (rest := []) hZ (cM_plain l D cR c1 c2 c3 h0 a1 a2 a3 Y ka na ea kb nb eb k n e bits scale K N E v128_61 v199_68 (by first | exact Or.inl rfl | exact nr_pp (l := x11_134) (x := x7_19) (d := 9) (by assumption) (by assumption) (by assumption) DB1 HX (by assumption) (by assumption) (by assumption) (by assumption) | exact PP_neg (nr_pp (l := x11_134) (x := x7_19) (d := 9) (by assumption) (by assumption) (by assumption) DB1 HX (by assumption) (by assumption) (by assumption) (by assumption)) (by assumption))) zyM_plain (z_goodV ml_M_31 im_M_plain se_M_plain in_M co_M_plain) 0 rfl rfl rfl rfl (by decide) rfl rfl (Nat.le_of_ble_eq_true rfl) ⟨Nat.zero_le _, Nat.zero_le _⟩ dM_nearest_200 (z_kv (fun w1 tys1 hp => ?_))
                            obtain ⟨k200_69, n200_69, e200_69, rfl, rfl, p200_69⟩ := hp
                            exact z_retv (pc := 203) hZ dM_nearest_203 rfl ⟨rfl, _, _, _, rfl, rfl, (by first | exact ⟨nr_sp (Or.inl rfl) nokey_, (fun h => absurd h c3_1), nv_i 3 p3 HV HX DE HL ev154_64 ev157_65 c161_66 (Or.inl ⟨nokey_, rfl⟩) nokey_⟩ | exact ⟨nr_sp (Or.inr (Or.inl rfl)) nokey_, (fun h => absurd h c3_1), nv_i 4 p3 HV HX DE HL ev154_64 ev157_65 c161_66 (Or.inr ⟨nokey_, rfl⟩) nokey_⟩ | exact ⟨nr_ok (p200_69).1, (fun h => absurd h c3_1), nv_p p3 HV HX DE HL ev154_64 ev157_65 c161_66 ev199_68 (Or.inl ⟨c184_67, rfl⟩) (p200_69).1 (p200_69).2.2⟩ | exact ⟨nr_ok (p200_69).1, (fun h => absurd h c3_1), nv_p p3 HV HX DE HL ev154_64 ev157_65 c161_66 ev199_68 (Or.inr ⟨c184_67, nokey_⟩) (p200_69).1 (p200_69).2.2⟩)⟩
                          · refine z_lload (pc := 187) hZ 1 dM_nearest_187 rfl ?_
                            refine z_lneg (pc := 189) hZ dM_nearest_189 (fun v189_70 ev189_70 => ?_)
                            refine z_goto (pc := 190) hZ 195 dM_nearest_190 (by decide) ?_
                            refine z_iload (pc := 195) hZ 3 dM_nearest_195 rfl ?_
                            refine z_iload (pc := 197) hZ 2 dM_nearest_197 rfl ?_
                            refine z_iadd (pc := 199) hZ dM_nearest_199 (fun v199_71 ev199_71 => ?_)
                            refine z_callV (pc := 200) (As := [.long v189_70, .int v199_71]) (rest := []) hZ (cM_plain l D cR c1 c2 c3 h0 a1 a2 a3 Y ka na ea kb nb eb k n e bits scale K N E v189_70 v199_71 (by first | exact Or.inl rfl | exact nr_pp (l := x11_134) (x := x7_19) (d := 9) (by assumption) (by assumption) (by assumption) DB1 HX (by assumption) (by assumption) (by assumption) (by assumption) | exact PP_neg (nr_pp (l := x11_134) (x := x7_19) (d := 9) (by assumption) (by assumption) (by assumption) DB1 HX (by assumption) (by assumption) (by assumption) (by assumption)) (by assumption))) zyM_plain (z_goodV ml_M_31 im_M_plain se_M_plain in_M co_M_plain) 0 rfl rfl rfl rfl (by decide) rfl rfl (Nat.le_of_ble_eq_true rfl) ⟨Nat.zero_le _, Nat.zero_le _⟩ dM_nearest_200 (z_kv (fun w1 tys1 hp => ?_))
                            obtain ⟨k200_72, n200_72, e200_72, rfl, rfl, p200_72⟩ := hp
                            exact z_retv (pc := 203) hZ dM_nearest_203 rfl ⟨rfl, _, _, _, rfl, rfl, (by first | exact ⟨nr_sp (Or.inl rfl) nokey_, (fun h => absurd h c3_1), nv_i 3 p3 HV HX DE HL ev154_64 ev157_65 c161_66 (Or.inl ⟨nokey_, rfl⟩) nokey_⟩ | exact ⟨nr_sp (Or.inr (Or.inl rfl)) nokey_, (fun h => absurd h c3_1), nv_i 4 p3 HV HX DE HL ev154_64 ev157_65 c161_66 (Or.inr ⟨nokey_, rfl⟩) nokey_⟩ | exact ⟨nr_ok (p200_72).1, (fun h => absurd h c3_1), nv_p p3 HV HX DE HL ev154_64 ev157_65 c161_66 ev199_71 (Or.inl ⟨c184_67, rfl⟩) (p200_72).1 (p200_72).2.2⟩ | exact ⟨nr_ok (p200_72).1, (fun h => absurd h c3_1), nv_p p3 HV HX DE HL ev154_64 ev157_65 c161_66 ev199_71 (Or.inr ⟨c184_67, ev189_70⟩) (p200_72).1 (p200_72).2.2⟩)⟩
                        · refine z_aload_n (pc := 164) hZ 4 dM_nearest_164 rfl rfl ?_
                          refine z_iload (pc := 165) hZ 5 dM_nearest_165 rfl ?_
                          refine z_if_eq (pc := 167) hZ 174 dM_nearest_167 (by decide) (fun c167_73 => ?_) (fun c167_73 => ?_)
                          · refine z_iconst (pc := 174) hZ 3 dM_nearest_174 (by decide) ?_
                            refine z_callV (pc := 175) (As := [.int 3]) (rest := []) hZ (cM_setSpecial l D cR c1 c2 c3 h0 a1 a2 a3 Y ka na ea kb nb eb k n e bits scale K N E 3) zyM_setSpecial (z_goodV ml_M_35 im_M_setSpecial se_M_setSpecial in_M co_M_setSpecial) 0 rfl rfl rfl rfl (by decide) rfl rfl (Nat.le_of_ble_eq_true rfl) ⟨Nat.zero_le _, Nat.zero_le _⟩ dM_nearest_175 (z_kv (fun w1 tys1 hp => ?_))
                            obtain ⟨k175_74, n175_74, e175_74, rfl, rfl, p175_74⟩ := hp
                            refine z_goto (pc := 178) hZ 203 dM_nearest_178 (by decide) ?_
                            exact z_retv (pc := 203) hZ dM_nearest_203 rfl ⟨rfl, _, _, _, rfl, rfl, (by first | exact ⟨nr_sp (Or.inl rfl) p175_74, (fun h => absurd h c3_1), nv_i 3 p3 HV HX DE HL ev154_64 ev157_65 c161_66 (Or.inl ⟨c167_73, rfl⟩) p175_74⟩ | exact ⟨nr_sp (Or.inr (Or.inl rfl)) p175_74, (fun h => absurd h c3_1), nv_i 4 p3 HV HX DE HL ev154_64 ev157_65 c161_66 (Or.inr ⟨c167_73, rfl⟩) p175_74⟩ | exact ⟨nr_ok (nokey_).1, (fun h => absurd h c3_1), nv_p p3 HV HX DE HL ev154_64 ev157_65 c161_66 nokey_ (Or.inl ⟨nokey_, rfl⟩) (nokey_).1 (nokey_).2.2⟩ | exact ⟨nr_ok (nokey_).1, (fun h => absurd h c3_1), nv_p p3 HV HX DE HL ev154_64 ev157_65 c161_66 nokey_ (Or.inr ⟨nokey_, nokey_⟩) (nokey_).1 (nokey_).2.2⟩)⟩
                          · refine z_iconst (pc := 170) hZ 4 dM_nearest_170 (by decide) ?_
                            refine z_goto (pc := 171) hZ 175 dM_nearest_171 (by decide) ?_
                            refine z_callV (pc := 175) (As := [.int 4]) (rest := []) hZ (cM_setSpecial l D cR c1 c2 c3 h0 a1 a2 a3 Y ka na ea kb nb eb k n e bits scale K N E 4) zyM_setSpecial (z_goodV ml_M_35 im_M_setSpecial se_M_setSpecial in_M co_M_setSpecial) 0 rfl rfl rfl rfl (by decide) rfl rfl (Nat.le_of_ble_eq_true rfl) ⟨Nat.zero_le _, Nat.zero_le _⟩ dM_nearest_175 (z_kv (fun w1 tys1 hp => ?_))
                            obtain ⟨k175_75, n175_75, e175_75, rfl, rfl, p175_75⟩ := hp
                            refine z_goto (pc := 178) hZ 203 dM_nearest_178 (by decide) ?_
                            exact z_retv (pc := 203) hZ dM_nearest_203 rfl ⟨rfl, _, _, _, rfl, rfl, (by first | exact ⟨nr_sp (Or.inl rfl) p175_75, (fun h => absurd h c3_1), nv_i 3 p3 HV HX DE HL ev154_64 ev157_65 c161_66 (Or.inl ⟨c167_73, rfl⟩) p175_75⟩ | exact ⟨nr_sp (Or.inr (Or.inl rfl)) p175_75, (fun h => absurd h c3_1), nv_i 4 p3 HV HX DE HL ev154_64 ev157_65 c161_66 (Or.inr ⟨c167_73, rfl⟩) p175_75⟩ | exact ⟨nr_ok (nokey_).1, (fun h => absurd h c3_1), nv_p p3 HV HX DE HL ev154_64 ev157_65 c161_66 nokey_ (Or.inl ⟨nokey_, rfl⟩) (nokey_).1 (nokey_).2.2⟩ | exact ⟨nr_ok (nokey_).1, (fun h => absurd h c3_1), nv_p p3 HV HX DE HL ev154_64 ev157_65 c161_66 nokey_ (Or.inr ⟨nokey_, nokey_⟩) (nokey_).1 (nokey_).2.2⟩)⟩
                      · refine z_iinc (pc := 144) hZ 0 (fun v9 => [(11, .int v9), (9, .long v128_61), (8, .int 9), (7, .int x7_19), (0, .ref h0), (4, .int p3)]) dM_nearest_144 rfl (by decide) (fun _ => rfl) (fun v144_76 ev144_76 => ?_)
                        refine z_goto (pc := 147) hZ 134 dM_nearest_147 (by decide) ?_
                        exact z_sub (pc := 134) hZ [0, 1, 2, 3, 4, 5] rfl (ih134 v144_76 (by exact Nat.lt_of_lt_of_le (lb_s (l := x11_134) (by assumption) (by assumption) (by assumption) (by assumption)).2 (Nat.le_of_lt_succ m134)) (by exact (lb_s (l := x11_134) (by assumption) (by assumption) (by assumption) (by assumption)).1) (by exact lbm_s i134 ev138_62 c141_63 ev144_76))
                  exact z_sub (pc := 134) hZ [0, 1, 3, 4, 6, 7] rfl (L134 _ 0 (Nat.lt_succ_self _) (by first | exact lb_0 | exact lb_a (lb_q (x := x7_19) ⟨NX.1, NX.2.1⟩ DB1 (by assumption) (by assumption)) | exact lb_b (lb_q (x := x7_19) ⟨NX.1, NX.2.1⟩ DB1 (by assumption) (by assumption)) (by assumption)) (by exact lbm_0))
          · refine z_sipush (pc := 52) hZ (-1074) dM_nearest_52 (by decide) ?_
            refine z_iload (pc := 55) hZ 0 dM_nearest_55 rfl ?_
            refine z_isub (pc := 57) hZ dM_nearest_57 (fun v57_77 ev57_77 => ?_)
            have DB1 := db_2 HX ev45_4 c49_5 ev57_77
            have DE := dbe_2 HX ev45_4 c49_5 ev57_77
            refine z_goto (pc := 58) hZ 63 dM_nearest_58 (by decide) ?_
            refine z_istore (pc := 63) hZ [(8, .int v57_77), (7, .int x7_19), (5, .long x5_19), (0, .ref h0), (4, .int p3)] dM_nearest_63 (by decide) rfl ?_
            refine z_lconst (pc := 65) hZ 0 dM_nearest_65 (by decide) ?_
            refine z_lstore (pc := 66) hZ [(9, .long 0), (8, .int v57_77), (7, .int x7_19), (5, .long x5_19), (0, .ref h0), (4, .int p3)] dM_nearest_66 (by decide) rfl ?_
            refine z_iload (pc := 68) hZ 1 dM_nearest_68 rfl ?_
            refine z_bipush (pc := 70) hZ 62 dM_nearest_70 (by decide) ?_
            refine z_icmp_gt (pc := 72) hZ 131 dM_nearest_72 (by decide) (fun c72_78 => ?_) (fun c72_78 => ?_)
            · have HV : NVQ p1 p2 0 x7_19 v57_77 := by first | exact nv_0 hn1 HX ⟨NX.1, NX.2.1⟩ w19 DE c72_78 | (have F := nv_v ⟨NX.1, NX.2.1⟩ DE c72_78 nokey_ nokey_ nokey_ nokey_ nokey_; first | exact nv_u hn1 HX ⟨NX.1, NX.2.1⟩ w19 DE F (nv_u1 F nokey_) nokey_ | exact nv_u hn1 HX ⟨NX.1, NX.2.1⟩ w19 DE F (nv_u2 F nokey_ nokey_ nokey_) nokey_ | exact nv_n hn1 HX ⟨NX.1, NX.2.1⟩ w19 DE F (nv_n1 F nokey_ nokey_) | exact nv_n hn1 HX ⟨NX.1, NX.2.1⟩ w19 DE F (nv_n2 F nokey_ nokey_ nokey_))
              refine z_iconst (pc := 131) hZ 0 dM_nearest_131 (by decide) ?_
              refine z_istore (pc := 132) hZ [(11, .int 0), (9, .long 0), (8, .int v57_77), (7, .int x7_19), (5, .long x5_19), (0, .ref h0), (4, .int p3)] dM_nearest_132 (by decide) rfl ?_
              have L134 : ∀ (N134 : Nat) (x11_134 : Int32), (60 - x11_134.toInt).toNat < N134 → (LB 0 x11_134) → (LBM 0 x11_134) → Z 0 0 (TY cR c1 c2 c3) 134 [(11, .int x11_134), (9, .long 0), (8, .int v57_77), (7, .int x7_19), (0, .ref h0), (4, .int p3)] [] (MW h0 a1 a2 a3 c1 c2 c3 (ka, na, ea, kb, nb, eb, k, n, e, bits, scale, K, N, E) ++ Y) := by
                intro N134
                induction N134 with
                | zero => intro x11_134 m134; exact absurd m134 (Nat.not_lt_zero _)
                | succ N134 ih134 =>
                  intro x11_134 m134 i134 b134
                  refine z_lload (pc := 134) hZ 1 dM_nearest_134 rfl ?_
                  refine z_iload (pc := 136) hZ 0 dM_nearest_136 rfl ?_
                  refine z_lshr (pc := 138) hZ dM_nearest_138 (fun v138_79 ev138_79 => ?_)
                  refine z_lconst (pc := 139) hZ 0 dM_nearest_139 (by decide) ?_
                  refine z_lif_eq (pc := 140) hZ 150 dM_nearest_140 dM_nearest_141 (by decide) (fun c141_80 => ?_) (fun c141_80 => ?_)
                  · have HL := lbm_e i134 b134 ev138_79 c141_80
                    refine z_iload (pc := 150) hZ 0 dM_nearest_150 rfl ?_
                    refine z_iload (pc := 152) hZ 3 dM_nearest_152 rfl ?_
                    refine z_iadd (pc := 154) hZ dM_nearest_154 (fun v154_81 ev154_81 => ?_)
                    refine z_iload (pc := 155) hZ 2 dM_nearest_155 rfl ?_
                    refine z_iadd (pc := 157) hZ dM_nearest_157 (fun v157_82 ev157_82 => ?_)
                    refine z_sipush (pc := 158) hZ 1024 dM_nearest_158 (by decide) ?_
                    refine z_icmp_le (pc := 161) hZ 181 dM_nearest_161 (by decide) (fun c161_83 => ?_) (fun c161_83 => ?_)
                    · refine z_aload_n (pc := 181) hZ 4 dM_nearest_181 rfl rfl ?_
                      refine z_iload (pc := 182) hZ 5 dM_nearest_182 rfl ?_
                      refine z_if_eq (pc := 184) hZ 193 dM_nearest_184 (by decide) (fun c184_84 => ?_) (fun c184_84 => ?_)
                      · refine z_lload (pc := 193) hZ 1 dM_nearest_193 rfl ?_
                        refine z_iload (pc := 195) hZ 3 dM_nearest_195 rfl ?_
                        refine z_iload (pc := 197) hZ 2 dM_nearest_197 rfl ?_
                        refine z_iadd (pc := 199) hZ dM_nearest_199 (fun v199_85 ev199_85 => ?_)
                        refine z_callV (pc := 200) (As := [.long 0, .int v199_85]) (rest := []) hZ (cM_plain l D cR c1 c2 c3 h0 a1 a2 a3 Y ka na ea kb nb eb k n e bits scale K N E 0 v199_85 (by first | exact Or.inl rfl | exact nr_pp (l := x11_134) (x := x7_19) (d := v57_77) (by assumption) (by assumption) (by assumption) DB1 HX (by assumption) (by assumption) (by assumption) (by assumption) | exact PP_neg (nr_pp (l := x11_134) (x := x7_19) (d := v57_77) (by assumption) (by assumption) (by assumption) DB1 HX (by assumption) (by assumption) (by assumption) (by assumption)) (by assumption))) zyM_plain (z_goodV ml_M_31 im_M_plain se_M_plain in_M co_M_plain) 0 rfl rfl rfl rfl (by decide) rfl rfl (Nat.le_of_ble_eq_true rfl) ⟨Nat.zero_le _, Nat.zero_le _⟩ dM_nearest_200 (z_kv (fun w1 tys1 hp => ?_))
                        obtain ⟨k200_86, n200_86, e200_86, rfl, rfl, p200_86⟩ := hp
                        exact z_retv (pc := 203) hZ dM_nearest_203 rfl ⟨rfl, _, _, _, rfl, rfl, (by first | exact ⟨nr_sp (Or.inl rfl) nokey_, (fun h => absurd h c3_1), nv_i 3 p3 HV HX DE HL ev154_81 ev157_82 c161_83 (Or.inl ⟨nokey_, rfl⟩) nokey_⟩ | exact ⟨nr_sp (Or.inr (Or.inl rfl)) nokey_, (fun h => absurd h c3_1), nv_i 4 p3 HV HX DE HL ev154_81 ev157_82 c161_83 (Or.inr ⟨nokey_, rfl⟩) nokey_⟩ | exact ⟨nr_ok (p200_86).1, (fun h => absurd h c3_1), nv_p p3 HV HX DE HL ev154_81 ev157_82 c161_83 ev199_85 (Or.inl ⟨c184_84, rfl⟩) (p200_86).1 (p200_86).2.2⟩ | exact ⟨nr_ok (p200_86).1, (fun h => absurd h c3_1), nv_p p3 HV HX DE HL ev154_81 ev157_82 c161_83 ev199_85 (Or.inr ⟨c184_84, nokey_⟩) (p200_86).1 (p200_86).2.2⟩)⟩
                      · refine z_lload (pc := 187) hZ 1 dM_nearest_187 rfl ?_
                        refine z_lneg (pc := 189) hZ dM_nearest_189 (fun v189_87 ev189_87 => ?_)
                        refine z_goto (pc := 190) hZ 195 dM_nearest_190 (by decide) ?_
                        refine z_iload (pc := 195) hZ 3 dM_nearest_195 rfl ?_
                        refine z_iload (pc := 197) hZ 2 dM_nearest_197 rfl ?_
                        refine z_iadd (pc := 199) hZ dM_nearest_199 (fun v199_88 ev199_88 => ?_)
                        refine z_callV (pc := 200) (As := [.long v189_87, .int v199_88]) (rest := []) hZ (cM_plain l D cR c1 c2 c3 h0 a1 a2 a3 Y ka na ea kb nb eb k n e bits scale K N E v189_87 v199_88 (by first | exact Or.inl rfl | exact nr_pp (l := x11_134) (x := x7_19) (d := v57_77) (by assumption) (by assumption) (by assumption) DB1 HX (by assumption) (by assumption) (by assumption) (by assumption) | exact PP_neg (nr_pp (l := x11_134) (x := x7_19) (d := v57_77) (by assumption) (by assumption) (by assumption) DB1 HX (by assumption) (by assumption) (by assumption) (by assumption)) (by assumption))) zyM_plain (z_goodV ml_M_31 im_M_plain se_M_plain in_M co_M_plain) 0 rfl rfl rfl rfl (by decide) rfl rfl (Nat.le_of_ble_eq_true rfl) ⟨Nat.zero_le _, Nat.zero_le _⟩ dM_nearest_200 (z_kv (fun w1 tys1 hp => ?_))
                        obtain ⟨k200_89, n200_89, e200_89, rfl, rfl, p200_89⟩ := hp
                        exact z_retv (pc := 203) hZ dM_nearest_203 rfl ⟨rfl, _, _, _, rfl, rfl, (by first | exact ⟨nr_sp (Or.inl rfl) nokey_, (fun h => absurd h c3_1), nv_i 3 p3 HV HX DE HL ev154_81 ev157_82 c161_83 (Or.inl ⟨nokey_, rfl⟩) nokey_⟩ | exact ⟨nr_sp (Or.inr (Or.inl rfl)) nokey_, (fun h => absurd h c3_1), nv_i 4 p3 HV HX DE HL ev154_81 ev157_82 c161_83 (Or.inr ⟨nokey_, rfl⟩) nokey_⟩ | exact ⟨nr_ok (p200_89).1, (fun h => absurd h c3_1), nv_p p3 HV HX DE HL ev154_81 ev157_82 c161_83 ev199_88 (Or.inl ⟨c184_84, rfl⟩) (p200_89).1 (p200_89).2.2⟩ | exact ⟨nr_ok (p200_89).1, (fun h => absurd h c3_1), nv_p p3 HV HX DE HL ev154_81 ev157_82 c161_83 ev199_88 (Or.inr ⟨c184_84, ev189_87⟩) (p200_89).1 (p200_89).2.2⟩)⟩
                    · refine z_aload_n (pc := 164) hZ 4 dM_nearest_164 rfl rfl ?_
                      refine z_iload (pc := 165) hZ 5 dM_nearest_165 rfl ?_
                      refine z_if_eq (pc := 167) hZ 174 dM_nearest_167 (by decide) (fun c167_90 => ?_) (fun c167_90 => ?_)
                      · refine z_iconst (pc := 174) hZ 3 dM_nearest_174 (by decide) ?_
                        refine z_callV (pc := 175) (As := [.int 3]) (rest := []) hZ (cM_setSpecial l D cR c1 c2 c3 h0 a1 a2 a3 Y ka na ea kb nb eb k n e bits scale K N E 3) zyM_setSpecial (z_goodV ml_M_35 im_M_setSpecial se_M_setSpecial in_M co_M_setSpecial) 0 rfl rfl rfl rfl (by decide) rfl rfl (Nat.le_of_ble_eq_true rfl) ⟨Nat.zero_le _, Nat.zero_le _⟩ dM_nearest_175 (z_kv (fun w1 tys1 hp => ?_))
                        obtain ⟨k175_91, n175_91, e175_91, rfl, rfl, p175_91⟩ := hp
                        refine z_goto (pc := 178) hZ 203 dM_nearest_178 (by decide) ?_
                        exact z_retv (pc := 203) hZ dM_nearest_203 rfl ⟨rfl, _, _, _, rfl, rfl, (by first | exact ⟨nr_sp (Or.inl rfl) p175_91, (fun h => absurd h c3_1), nv_i 3 p3 HV HX DE HL ev154_81 ev157_82 c161_83 (Or.inl ⟨c167_90, rfl⟩) p175_91⟩ | exact ⟨nr_sp (Or.inr (Or.inl rfl)) p175_91, (fun h => absurd h c3_1), nv_i 4 p3 HV HX DE HL ev154_81 ev157_82 c161_83 (Or.inr ⟨c167_90, rfl⟩) p175_91⟩ | exact ⟨nr_ok (nokey_).1, (fun h => absurd h c3_1), nv_p p3 HV HX DE HL ev154_81 ev157_82 c161_83 nokey_ (Or.inl ⟨nokey_, rfl⟩) (nokey_).1 (nokey_).2.2⟩ | exact ⟨nr_ok (nokey_).1, (fun h => absurd h c3_1), nv_p p3 HV HX DE HL ev154_81 ev157_82 c161_83 nokey_ (Or.inr ⟨nokey_, nokey_⟩) (nokey_).1 (nokey_).2.2⟩)⟩
                      · refine z_iconst (pc := 170) hZ 4 dM_nearest_170 (by decide) ?_
                        refine z_goto (pc := 171) hZ 175 dM_nearest_171 (by decide) ?_
                        refine z_callV (pc := 175) (As := [.int 4]) (rest := []) hZ (cM_setSpecial l D cR c1 c2 c3 h0 a1 a2 a3 Y ka na ea kb nb eb k n e bits scale K N E 4) zyM_setSpecial (z_goodV ml_M_35 im_M_setSpecial se_M_setSpecial in_M co_M_setSpecial) 0 rfl rfl rfl rfl (by decide) rfl rfl (Nat.le_of_ble_eq_true rfl) ⟨Nat.zero_le _, Nat.zero_le _⟩ dM_nearest_175 (z_kv (fun w1 tys1 hp => ?_))
                        obtain ⟨k175_92, n175_92, e175_92, rfl, rfl, p175_92⟩ := hp
                        refine z_goto (pc := 178) hZ 203 dM_nearest_178 (by decide) ?_
                        exact z_retv (pc := 203) hZ dM_nearest_203 rfl ⟨rfl, _, _, _, rfl, rfl, (by first | exact ⟨nr_sp (Or.inl rfl) p175_92, (fun h => absurd h c3_1), nv_i 3 p3 HV HX DE HL ev154_81 ev157_82 c161_83 (Or.inl ⟨c167_90, rfl⟩) p175_92⟩ | exact ⟨nr_sp (Or.inr (Or.inl rfl)) p175_92, (fun h => absurd h c3_1), nv_i 4 p3 HV HX DE HL ev154_81 ev157_82 c161_83 (Or.inr ⟨c167_90, rfl⟩) p175_92⟩ | exact ⟨nr_ok (nokey_).1, (fun h => absurd h c3_1), nv_p p3 HV HX DE HL ev154_81 ev157_82 c161_83 nokey_ (Or.inl ⟨nokey_, rfl⟩) (nokey_).1 (nokey_).2.2⟩ | exact ⟨nr_ok (nokey_).1, (fun h => absurd h c3_1), nv_p p3 HV HX DE HL ev154_81 ev157_82 c161_83 nokey_ (Or.inr ⟨nokey_, nokey_⟩) (nokey_).1 (nokey_).2.2⟩)⟩
                  · refine z_iinc (pc := 144) hZ 0 (fun v9 => [(11, .int v9), (9, .long 0), (8, .int v57_77), (7, .int x7_19), (0, .ref h0), (4, .int p3)]) dM_nearest_144 rfl (by decide) (fun _ => rfl) (fun v144_93 ev144_93 => ?_)
                    refine z_goto (pc := 147) hZ 134 dM_nearest_147 (by decide) ?_
                    exact z_sub (pc := 134) hZ [0, 1, 2, 3, 4, 5] rfl (ih134 v144_93 (by exact Nat.lt_of_lt_of_le (lb_s (l := x11_134) (by assumption) (by assumption) (by assumption) (by assumption)).2 (Nat.le_of_lt_succ m134)) (by exact (lb_s (l := x11_134) (by assumption) (by assumption) (by assumption) (by assumption)).1) (by exact lbm_s i134 ev138_79 c141_80 ev144_93))
              exact z_sub (pc := 134) hZ [0, 1, 2, 3, 5, 6] rfl (L134 _ 0 (Nat.lt_succ_self _) (by first | exact lb_0 | exact lb_a (lb_q (x := x7_19) ⟨NX.1, NX.2.1⟩ DB1 (by assumption) (by assumption)) | exact lb_b (lb_q (x := x7_19) ⟨NX.1, NX.2.1⟩ DB1 (by assumption) (by assumption)) (by assumption)) (by exact lbm_0))
            · refine z_lload (pc := 75) hZ 3 dM_nearest_75 rfl ?_
              refine z_iload (pc := 77) hZ 1 dM_nearest_77 rfl ?_
              refine z_lshr (pc := 79) hZ dM_nearest_79 (fun v79_94 ev79_94 => ?_)
              refine z_lstore (pc := 80) hZ [(9, .long v79_94), (8, .int v57_77), (7, .int x7_19), (5, .long x5_19), (0, .ref h0), (4, .int p3)] dM_nearest_80 (by decide) rfl ?_
              refine z_lload (pc := 82) hZ 3 dM_nearest_82 rfl ?_
              refine z_lload (pc := 84) hZ 0 dM_nearest_84 rfl ?_
              refine z_iload (pc := 86) hZ 1 dM_nearest_86 rfl ?_
              refine z_lshl (pc := 88) hZ dM_nearest_88 (fun v88_95 ev88_95 => ?_)
              refine z_lsub (pc := 89) hZ dM_nearest_89 (fun v89_96 ev89_96 => ?_)
              refine z_lstore (pc := 90) hZ [(11, .long v89_96), (9, .long v79_94), (8, .int v57_77), (7, .int x7_19), (5, .long x5_19), (0, .ref h0), (4, .int p3)] dM_nearest_90 (by decide) rfl ?_
              refine z_lconst (pc := 92) hZ 1 dM_nearest_92 (by decide) ?_
              refine z_iload (pc := 93) hZ 2 dM_nearest_93 rfl ?_
              refine z_iconst (pc := 95) hZ 1 dM_nearest_95 (by decide) ?_
              refine z_isub (pc := 96) hZ dM_nearest_96 (fun v96_97 ev96_97 => ?_)
              refine z_lshl (pc := 97) hZ dM_nearest_97 (fun v97_98 ev97_98 => ?_)
              refine z_lstore (pc := 98) hZ [(13, .long v97_98), (11, .long v89_96), (9, .long v79_94), (8, .int v57_77), (7, .int x7_19), (5, .long x5_19), (0, .ref h0), (4, .int p3)] dM_nearest_98 (by decide) rfl ?_
              refine z_lload (pc := 100) hZ 1 dM_nearest_100 rfl ?_
              refine z_lload (pc := 102) hZ 0 dM_nearest_102 rfl ?_
              refine z_lif_gt (pc := 104) hZ 125 dM_nearest_104 dM_nearest_105 (by decide) (fun c105_99 => ?_) (fun c105_99 => ?_)
              · refine z_lload (pc := 125) hZ 2 dM_nearest_125 rfl ?_
                refine z_lconst (pc := 127) hZ 1 dM_nearest_127 (by decide) ?_
                refine z_ladd (pc := 128) hZ dM_nearest_128 (fun v128_100 ev128_100 => ?_)
                refine z_lstore (pc := 129) hZ [(9, .long v128_100), (13, .long v97_98), (11, .long v89_96), (8, .int v57_77), (7, .int x7_19), (5, .long x5_19), (0, .ref h0), (4, .int p3)] dM_nearest_129 (by decide) rfl ?_
                have HV : NVQ p1 p2 v128_100 x7_19 v57_77 := by first | exact nv_0 hn1 HX ⟨NX.1, NX.2.1⟩ w19 DE c72_78 | (have F := nv_v ⟨NX.1, NX.2.1⟩ DE c72_78 ev79_94 ev88_95 ev89_96 ev96_97 ev97_98; first | exact nv_u hn1 HX ⟨NX.1, NX.2.1⟩ w19 DE F (nv_u1 F c105_99) ev128_100 | exact nv_u hn1 HX ⟨NX.1, NX.2.1⟩ w19 DE F (nv_u2 F nokey_ nokey_ nokey_) ev128_100 | exact nv_n hn1 HX ⟨NX.1, NX.2.1⟩ w19 DE F (nv_n1 F c105_99 nokey_) | exact nv_n hn1 HX ⟨NX.1, NX.2.1⟩ w19 DE F (nv_n2 F c105_99 nokey_ nokey_))
                refine z_iconst (pc := 131) hZ 0 dM_nearest_131 (by decide) ?_
                refine z_istore (pc := 132) hZ [(11, .int 0), (9, .long v128_100), (13, .long v97_98), (8, .int v57_77), (7, .int x7_19), (5, .long x5_19), (0, .ref h0), (4, .int p3)] dM_nearest_132 (by decide) rfl ?_
                have L134 : ∀ (N134 : Nat) (x11_134 : Int32), (60 - x11_134.toInt).toNat < N134 → (LB v128_100 x11_134) → (LBM v128_100 x11_134) → Z 0 0 (TY cR c1 c2 c3) 134 [(11, .int x11_134), (9, .long v128_100), (8, .int v57_77), (7, .int x7_19), (0, .ref h0), (4, .int p3)] [] (MW h0 a1 a2 a3 c1 c2 c3 (ka, na, ea, kb, nb, eb, k, n, e, bits, scale, K, N, E) ++ Y) := by
                  intro N134
                  induction N134 with
                  | zero => intro x11_134 m134; exact absurd m134 (Nat.not_lt_zero _)
                  | succ N134 ih134 =>
                    intro x11_134 m134 i134 b134
                    refine z_lload (pc := 134) hZ 1 dM_nearest_134 rfl ?_
                    refine z_iload (pc := 136) hZ 0 dM_nearest_136 rfl ?_
                    refine z_lshr (pc := 138) hZ dM_nearest_138 (fun v138_101 ev138_101 => ?_)
                    refine z_lconst (pc := 139) hZ 0 dM_nearest_139 (by decide) ?_
                    refine z_lif_eq (pc := 140) hZ 150 dM_nearest_140 dM_nearest_141 (by decide) (fun c141_102 => ?_) (fun c141_102 => ?_)
                    · have HL := lbm_e i134 b134 ev138_101 c141_102
                      refine z_iload (pc := 150) hZ 0 dM_nearest_150 rfl ?_
                      refine z_iload (pc := 152) hZ 3 dM_nearest_152 rfl ?_
                      refine z_iadd (pc := 154) hZ dM_nearest_154 (fun v154_103 ev154_103 => ?_)
                      refine z_iload (pc := 155) hZ 2 dM_nearest_155 rfl ?_
                      refine z_iadd (pc := 157) hZ dM_nearest_157 (fun v157_104 ev157_104 => ?_)
                      refine z_sipush (pc := 158) hZ 1024 dM_nearest_158 (by decide) ?_
                      refine z_icmp_le (pc := 161) hZ 181 dM_nearest_161 (by decide) (fun c161_105 => ?_) (fun c161_105 => ?_)
                      · refine z_aload_n (pc := 181) hZ 4 dM_nearest_181 rfl rfl ?_
                        refine z_iload (pc := 182) hZ 5 dM_nearest_182 rfl ?_
                        refine z_if_eq (pc := 184) hZ 193 dM_nearest_184 (by decide) (fun c184_106 => ?_) (fun c184_106 => ?_)
                        · refine z_lload (pc := 193) hZ 1 dM_nearest_193 rfl ?_
                          refine z_iload (pc := 195) hZ 3 dM_nearest_195 rfl ?_
                          refine z_iload (pc := 197) hZ 2 dM_nearest_197 rfl ?_
                          refine z_iadd (pc := 199) hZ dM_nearest_199 (fun v199_107 ev199_107 => ?_)
                          refine z_callV (pc := 200) (As := [.long v128_100, .int v199_107]) (rest := []) hZ (cM_plain l D cR c1 c2 c3 h0 a1 a2 a3 Y ka na ea kb nb eb k n e bits scale K N E v128_100 v199_107 (by first | exact Or.inl rfl | exact nr_pp (l := x11_134) (x := x7_19) (d := v57_77) (by assumption) (by assumption) (by assumption) DB1 HX (by assumption) (by assumption) (by assumption) (by assumption) | exact PP_neg (nr_pp (l := x11_134) (x := x7_19) (d := v57_77) (by assumption) (by assumption) (by assumption) DB1 HX (by assumption) (by assumption) (by assumption) (by assumption)) (by assumption))) zyM_plain (z_goodV ml_M_31 im_M_plain se_M_plain in_M co_M_plain) 0 rfl rfl rfl rfl (by decide) rfl rfl (Nat.le_of_ble_eq_true rfl) ⟨Nat.zero_le _, Nat.zero_le _⟩ dM_nearest_200 (z_kv (fun w1 tys1 hp => ?_))
                          obtain ⟨k200_108, n200_108, e200_108, rfl, rfl, p200_108⟩ := hp
                          exact z_retv (pc := 203) hZ dM_nearest_203 rfl ⟨rfl, _, _, _, rfl, rfl, (by first | exact ⟨nr_sp (Or.inl rfl) nokey_, (fun h => absurd h c3_1), nv_i 3 p3 HV HX DE HL ev154_103 ev157_104 c161_105 (Or.inl ⟨nokey_, rfl⟩) nokey_⟩ | exact ⟨nr_sp (Or.inr (Or.inl rfl)) nokey_, (fun h => absurd h c3_1), nv_i 4 p3 HV HX DE HL ev154_103 ev157_104 c161_105 (Or.inr ⟨nokey_, rfl⟩) nokey_⟩ | exact ⟨nr_ok (p200_108).1, (fun h => absurd h c3_1), nv_p p3 HV HX DE HL ev154_103 ev157_104 c161_105 ev199_107 (Or.inl ⟨c184_106, rfl⟩) (p200_108).1 (p200_108).2.2⟩ | exact ⟨nr_ok (p200_108).1, (fun h => absurd h c3_1), nv_p p3 HV HX DE HL ev154_103 ev157_104 c161_105 ev199_107 (Or.inr ⟨c184_106, nokey_⟩) (p200_108).1 (p200_108).2.2⟩)⟩
                        · refine z_lload (pc := 187) hZ 1 dM_nearest_187 rfl ?_
                          refine z_lneg (pc := 189) hZ dM_nearest_189 (fun v189_109 ev189_109 => ?_)
                          refine z_goto (pc := 190) hZ 195 dM_nearest_190 (by decide) ?_
                          refine z_iload (pc := 195) hZ 3 dM_nearest_195 rfl ?_
                          refine z_iload (pc := 197) hZ 2 dM_nearest_197 rfl ?_
                          refine z_iadd (pc := 199) hZ dM_nearest_199 (fun v199_110 ev199_110 => ?_)
                          refine z_callV (pc := 200) (As := [.long v189_109, .int v199_110]) (rest := []) hZ (cM_plain l D cR c1 c2 c3 h0 a1 a2 a3 Y ka na ea kb nb eb k n e bits scale K N E v189_109 v199_110 (by first | exact Or.inl rfl | exact nr_pp (l := x11_134) (x := x7_19) (d := v57_77) (by assumption) (by assumption) (by assumption) DB1 HX (by assumption) (by assumption) (by assumption) (by assumption) | exact PP_neg (nr_pp (l := x11_134) (x := x7_19) (d := v57_77) (by assumption) (by assumption) (by assumption) DB1 HX (by assumption) (by assumption) (by assumption) (by assumption)) (by assumption))) zyM_plain (z_goodV ml_M_31 im_M_plain se_M_plain in_M co_M_plain) 0 rfl rfl rfl rfl (by decide) rfl rfl (Nat.le_of_ble_eq_true rfl) ⟨Nat.zero_le _, Nat.zero_le _⟩ dM_nearest_200 (z_kv (fun w1 tys1 hp => ?_))
                          obtain ⟨k200_111, n200_111, e200_111, rfl, rfl, p200_111⟩ := hp
                          exact z_retv (pc := 203) hZ dM_nearest_203 rfl ⟨rfl, _, _, _, rfl, rfl, (by first | exact ⟨nr_sp (Or.inl rfl) nokey_, (fun h => absurd h c3_1), nv_i 3 p3 HV HX DE HL ev154_103 ev157_104 c161_105 (Or.inl ⟨nokey_, rfl⟩) nokey_⟩ | exact ⟨nr_sp (Or.inr (Or.inl rfl)) nokey_, (fun h => absurd h c3_1), nv_i 4 p3 HV HX DE HL ev154_103 ev157_104 c161_105 (Or.inr ⟨nokey_, rfl⟩) nokey_⟩ | exact ⟨nr_ok (p200_111).1, (fun h => absurd h c3_1), nv_p p3 HV HX DE HL ev154_103 ev157_104 c161_105 ev199_110 (Or.inl ⟨c184_106, rfl⟩) (p200_111).1 (p200_111).2.2⟩ | exact ⟨nr_ok (p200_111).1, (fun h => absurd h c3_1), nv_p p3 HV HX DE HL ev154_103 ev157_104 c161_105 ev199_110 (Or.inr ⟨c184_106, ev189_109⟩) (p200_111).1 (p200_111).2.2⟩)⟩
                      · refine z_aload_n (pc := 164) hZ 4 dM_nearest_164 rfl rfl ?_
                        refine z_iload (pc := 165) hZ 5 dM_nearest_165 rfl ?_
                        refine z_if_eq (pc := 167) hZ 174 dM_nearest_167 (by decide) (fun c167_112 => ?_) (fun c167_112 => ?_)
                        · refine z_iconst (pc := 174) hZ 3 dM_nearest_174 (by decide) ?_
                          refine z_callV (pc := 175) (As := [.int 3]) (rest := []) hZ (cM_setSpecial l D cR c1 c2 c3 h0 a1 a2 a3 Y ka na ea kb nb eb k n e bits scale K N E 3) zyM_setSpecial (z_goodV ml_M_35 im_M_setSpecial se_M_setSpecial in_M co_M_setSpecial) 0 rfl rfl rfl rfl (by decide) rfl rfl (Nat.le_of_ble_eq_true rfl) ⟨Nat.zero_le _, Nat.zero_le _⟩ dM_nearest_175 (z_kv (fun w1 tys1 hp => ?_))
                          obtain ⟨k175_113, n175_113, e175_113, rfl, rfl, p175_113⟩ := hp
                          refine z_goto (pc := 178) hZ 203 dM_nearest_178 (by decide) ?_
                          exact z_retv (pc := 203) hZ dM_nearest_203 rfl ⟨rfl, _, _, _, rfl, rfl, (by first | exact ⟨nr_sp (Or.inl rfl) p175_113, (fun h => absurd h c3_1), nv_i 3 p3 HV HX DE HL ev154_103 ev157_104 c161_105 (Or.inl ⟨c167_112, rfl⟩) p175_113⟩ | exact ⟨nr_sp (Or.inr (Or.inl rfl)) p175_113, (fun h => absurd h c3_1), nv_i 4 p3 HV HX DE HL ev154_103 ev157_104 c161_105 (Or.inr ⟨c167_112, rfl⟩) p175_113⟩ | exact ⟨nr_ok (nokey_).1, (fun h => absurd h c3_1), nv_p p3 HV HX DE HL ev154_103 ev157_104 c161_105 nokey_ (Or.inl ⟨nokey_, rfl⟩) (nokey_).1 (nokey_).2.2⟩ | exact ⟨nr_ok (nokey_).1, (fun h => absurd h c3_1), nv_p p3 HV HX DE HL ev154_103 ev157_104 c161_105 nokey_ (Or.inr ⟨nokey_, nokey_⟩) (nokey_).1 (nokey_).2.2⟩)⟩
                        · refine z_iconst (pc := 170) hZ 4 dM_nearest_170 (by decide) ?_
                          refine z_goto (pc := 171) hZ 175 dM_nearest_171 (by decide) ?_
                          refine z_callV (pc := 175) (As := [.int 4]) (rest := []) hZ (cM_setSpecial l D cR c1 c2 c3 h0 a1 a2 a3 Y ka na ea kb nb eb k n e bits scale K N E 4) zyM_setSpecial (z_goodV ml_M_35 im_M_setSpecial se_M_setSpecial in_M co_M_setSpecial) 0 rfl rfl rfl rfl (by decide) rfl rfl (Nat.le_of_ble_eq_true rfl) ⟨Nat.zero_le _, Nat.zero_le _⟩ dM_nearest_175 (z_kv (fun w1 tys1 hp => ?_))
                          obtain ⟨k175_114, n175_114, e175_114, rfl, rfl, p175_114⟩ := hp
                          refine z_goto (pc := 178) hZ 203 dM_nearest_178 (by decide) ?_
                          exact z_retv (pc := 203) hZ dM_nearest_203 rfl ⟨rfl, _, _, _, rfl, rfl, (by first | exact ⟨nr_sp (Or.inl rfl) p175_114, (fun h => absurd h c3_1), nv_i 3 p3 HV HX DE HL ev154_103 ev157_104 c161_105 (Or.inl ⟨c167_112, rfl⟩) p175_114⟩ | exact ⟨nr_sp (Or.inr (Or.inl rfl)) p175_114, (fun h => absurd h c3_1), nv_i 4 p3 HV HX DE HL ev154_103 ev157_104 c161_105 (Or.inr ⟨c167_112, rfl⟩) p175_114⟩ | exact ⟨nr_ok (nokey_).1, (fun h => absurd h c3_1), nv_p p3 HV HX DE HL ev154_103 ev157_104 c161_105 nokey_ (Or.inl ⟨nokey_, rfl⟩) (nokey_).1 (nokey_).2.2⟩ | exact ⟨nr_ok (nokey_).1, (fun h => absurd h c3_1), nv_p p3 HV HX DE HL ev154_103 ev157_104 c161_105 nokey_ (Or.inr ⟨nokey_, nokey_⟩) (nokey_).1 (nokey_).2.2⟩)⟩
                    · refine z_iinc (pc := 144) hZ 0 (fun v9 => [(11, .int v9), (9, .long v128_100), (8, .int v57_77), (7, .int x7_19), (0, .ref h0), (4, .int p3)]) dM_nearest_144 rfl (by decide) (fun _ => rfl) (fun v144_115 ev144_115 => ?_)
                      refine z_goto (pc := 147) hZ 134 dM_nearest_147 (by decide) ?_
                      exact z_sub (pc := 134) hZ [0, 1, 2, 3, 4, 5] rfl (ih134 v144_115 (by exact Nat.lt_of_lt_of_le (lb_s (l := x11_134) (by assumption) (by assumption) (by assumption) (by assumption)).2 (Nat.le_of_lt_succ m134)) (by exact (lb_s (l := x11_134) (by assumption) (by assumption) (by assumption) (by assumption)).1) (by exact lbm_s i134 ev138_101 c141_102 ev144_115))
                exact z_sub (pc := 134) hZ [0, 1, 3, 4, 6, 7] rfl (L134 _ 0 (Nat.lt_succ_self _) (by first | exact lb_0 | exact lb_a (lb_q (x := x7_19) ⟨NX.1, NX.2.1⟩ DB1 (by assumption) (by assumption)) | exact lb_b (lb_q (x := x7_19) ⟨NX.1, NX.2.1⟩ DB1 (by assumption) (by assumption)) (by assumption)) (by exact lbm_0))
              · refine z_lload (pc := 108) hZ 1 dM_nearest_108 rfl ?_
                refine z_lload (pc := 110) hZ 0 dM_nearest_110 rfl ?_
                refine z_lif_ne (pc := 112) hZ 131 dM_nearest_112 dM_nearest_113 (by decide) (fun c113_116 => ?_) (fun c113_116 => ?_)
                · have HV : NVQ p1 p2 v79_94 x7_19 v57_77 := by first | exact nv_0 hn1 HX ⟨NX.1, NX.2.1⟩ w19 DE c72_78 | (have F := nv_v ⟨NX.1, NX.2.1⟩ DE c72_78 ev79_94 ev88_95 ev89_96 ev96_97 ev97_98; first | exact nv_u hn1 HX ⟨NX.1, NX.2.1⟩ w19 DE F (nv_u1 F c105_99) nokey_ | exact nv_u hn1 HX ⟨NX.1, NX.2.1⟩ w19 DE F (nv_u2 F c113_116 nokey_ nokey_) nokey_ | exact nv_n hn1 HX ⟨NX.1, NX.2.1⟩ w19 DE F (nv_n1 F c105_99 c113_116) | exact nv_n hn1 HX ⟨NX.1, NX.2.1⟩ w19 DE F (nv_n2 F c105_99 nokey_ nokey_))
                  refine z_iconst (pc := 131) hZ 0 dM_nearest_131 (by decide) ?_
                  refine z_istore (pc := 132) hZ [(11, .int 0), (13, .long v97_98), (9, .long v79_94), (8, .int v57_77), (7, .int x7_19), (5, .long x5_19), (0, .ref h0), (4, .int p3)] dM_nearest_132 (by decide) rfl ?_
                  have L134 : ∀ (N134 : Nat) (x11_134 : Int32), (60 - x11_134.toInt).toNat < N134 → (LB v79_94 x11_134) → (LBM v79_94 x11_134) → Z 0 0 (TY cR c1 c2 c3) 134 [(11, .int x11_134), (9, .long v79_94), (8, .int v57_77), (7, .int x7_19), (0, .ref h0), (4, .int p3)] [] (MW h0 a1 a2 a3 c1 c2 c3 (ka, na, ea, kb, nb, eb, k, n, e, bits, scale, K, N, E) ++ Y) := by
                    intro N134
                    induction N134 with
                    | zero => intro x11_134 m134; exact absurd m134 (Nat.not_lt_zero _)
                    | succ N134 ih134 =>
                      intro x11_134 m134 i134 b134
                      refine z_lload (pc := 134) hZ 1 dM_nearest_134 rfl ?_
                      refine z_iload (pc := 136) hZ 0 dM_nearest_136 rfl ?_
                      refine z_lshr (pc := 138) hZ dM_nearest_138 (fun v138_117 ev138_117 => ?_)
                      refine z_lconst (pc := 139) hZ 0 dM_nearest_139 (by decide) ?_
                      refine z_lif_eq (pc := 140) hZ 150 dM_nearest_140 dM_nearest_141 (by decide) (fun c141_118 => ?_) (fun c141_118 => ?_)
                      · have HL := lbm_e i134 b134 ev138_117 c141_118
                        refine z_iload (pc := 150) hZ 0 dM_nearest_150 rfl ?_
                        refine z_iload (pc := 152) hZ 3 dM_nearest_152 rfl ?_
                        refine z_iadd (pc := 154) hZ dM_nearest_154 (fun v154_119 ev154_119 => ?_)
                        refine z_iload (pc := 155) hZ 2 dM_nearest_155 rfl ?_
                        refine z_iadd (pc := 157) hZ dM_nearest_157 (fun v157_120 ev157_120 => ?_)
                        refine z_sipush (pc := 158) hZ 1024 dM_nearest_158 (by decide) ?_
                        refine z_icmp_le (pc := 161) hZ 181 dM_nearest_161 (by decide) (fun c161_121 => ?_) (fun c161_121 => ?_)
                        · refine z_aload_n (pc := 181) hZ 4 dM_nearest_181 rfl rfl ?_
                          refine z_iload (pc := 182) hZ 5 dM_nearest_182 rfl ?_
                          refine z_if_eq (pc := 184) hZ 193 dM_nearest_184 (by decide) (fun c184_122 => ?_) (fun c184_122 => ?_)
                          · refine z_lload (pc := 193) hZ 1 dM_nearest_193 rfl ?_
                            refine z_iload (pc := 195) hZ 3 dM_nearest_195 rfl ?_
                            refine z_iload (pc := 197) hZ 2 dM_nearest_197 rfl ?_
                            refine z_iadd (pc := 199) hZ dM_nearest_199 (fun v199_123 ev199_123 => ?_)
                            refine z_callV (pc := 200) (As := [.long v79_94, .int v199_123]) (rest := []) hZ (cM_plain l D cR c1 c2 c3 h0 a1 a2 a3 Y ka na ea kb nb eb k n e bits scale K N E v79_94 v199_123 (by first | exact Or.inl rfl | exact nr_pp (l := x11_134) (x := x7_19) (d := v57_77) (by assumption) (by assumption) (by assumption) DB1 HX (by assumption) (by assumption) (by assumption) (by assumption) | exact PP_neg (nr_pp (l := x11_134) (x := x7_19) (d := v57_77) (by assumption) (by assumption) (by assumption) DB1 HX (by assumption) (by assumption) (by assumption) (by assumption)) (by assumption))) zyM_plain (z_goodV ml_M_31 im_M_plain se_M_plain in_M co_M_plain) 0 rfl rfl rfl rfl (by decide) rfl rfl (Nat.le_of_ble_eq_true rfl) ⟨Nat.zero_le _, Nat.zero_le _⟩ dM_nearest_200 (z_kv (fun w1 tys1 hp => ?_))
                            obtain ⟨k200_124, n200_124, e200_124, rfl, rfl, p200_124⟩ := hp
                            exact z_retv (pc := 203) hZ dM_nearest_203 rfl ⟨rfl, _, _, _, rfl, rfl, (by first | exact ⟨nr_sp (Or.inl rfl) nokey_, (fun h => absurd h c3_1), nv_i 3 p3 HV HX DE HL ev154_119 ev157_120 c161_121 (Or.inl ⟨nokey_, rfl⟩) nokey_⟩ | exact ⟨nr_sp (Or.inr (Or.inl rfl)) nokey_, (fun h => absurd h c3_1), nv_i 4 p3 HV HX DE HL ev154_119 ev157_120 c161_121 (Or.inr ⟨nokey_, rfl⟩) nokey_⟩ | exact ⟨nr_ok (p200_124).1, (fun h => absurd h c3_1), nv_p p3 HV HX DE HL ev154_119 ev157_120 c161_121 ev199_123 (Or.inl ⟨c184_122, rfl⟩) (p200_124).1 (p200_124).2.2⟩ | exact ⟨nr_ok (p200_124).1, (fun h => absurd h c3_1), nv_p p3 HV HX DE HL ev154_119 ev157_120 c161_121 ev199_123 (Or.inr ⟨c184_122, nokey_⟩) (p200_124).1 (p200_124).2.2⟩)⟩
                          · refine z_lload (pc := 187) hZ 1 dM_nearest_187 rfl ?_
                            refine z_lneg (pc := 189) hZ dM_nearest_189 (fun v189_125 ev189_125 => ?_)
                            refine z_goto (pc := 190) hZ 195 dM_nearest_190 (by decide) ?_
                            refine z_iload (pc := 195) hZ 3 dM_nearest_195 rfl ?_
                            refine z_iload (pc := 197) hZ 2 dM_nearest_197 rfl ?_
                            refine z_iadd (pc := 199) hZ dM_nearest_199 (fun v199_126 ev199_126 => ?_)
                            refine z_callV (pc := 200) (As := [.long v189_125, .int v199_126]) (rest := []) hZ (cM_plain l D cR c1 c2 c3 h0 a1 a2 a3 Y ka na ea kb nb eb k n e bits scale K N E v189_125 v199_126 (by first | exact Or.inl rfl | exact nr_pp (l := x11_134) (x := x7_19) (d := v57_77) (by assumption) (by assumption) (by assumption) DB1 HX (by assumption) (by assumption) (by assumption) (by assumption) | exact PP_neg (nr_pp (l := x11_134) (x := x7_19) (d := v57_77) (by assumption) (by assumption) (by assumption) DB1 HX (by assumption) (by assumption) (by assumption) (by assumption)) (by assumption))) zyM_plain (z_goodV ml_M_31 im_M_plain se_M_plain in_M co_M_plain) 0 rfl rfl rfl rfl (by decide) rfl rfl (Nat.le_of_ble_eq_true rfl) ⟨Nat.zero_le _, Nat.zero_le _⟩ dM_nearest_200 (z_kv (fun w1 tys1 hp => ?_))
                            obtain ⟨k200_127, n200_127, e200_127, rfl, rfl, p200_127⟩ := hp
                            exact z_retv (pc := 203) hZ dM_nearest_203 rfl ⟨rfl, _, _, _, rfl, rfl, (by first | exact ⟨nr_sp (Or.inl rfl) nokey_, (fun h => absurd h c3_1), nv_i 3 p3 HV HX DE HL ev154_119 ev157_120 c161_121 (Or.inl ⟨nokey_, rfl⟩) nokey_⟩ | exact ⟨nr_sp (Or.inr (Or.inl rfl)) nokey_, (fun h => absurd h c3_1), nv_i 4 p3 HV HX DE HL ev154_119 ev157_120 c161_121 (Or.inr ⟨nokey_, rfl⟩) nokey_⟩ | exact ⟨nr_ok (p200_127).1, (fun h => absurd h c3_1), nv_p p3 HV HX DE HL ev154_119 ev157_120 c161_121 ev199_126 (Or.inl ⟨c184_122, rfl⟩) (p200_127).1 (p200_127).2.2⟩ | exact ⟨nr_ok (p200_127).1, (fun h => absurd h c3_1), nv_p p3 HV HX DE HL ev154_119 ev157_120 c161_121 ev199_126 (Or.inr ⟨c184_122, ev189_125⟩) (p200_127).1 (p200_127).2.2⟩)⟩
                        · refine z_aload_n (pc := 164) hZ 4 dM_nearest_164 rfl rfl ?_
                          refine z_iload (pc := 165) hZ 5 dM_nearest_165 rfl ?_
                          refine z_if_eq (pc := 167) hZ 174 dM_nearest_167 (by decide) (fun c167_128 => ?_) (fun c167_128 => ?_)
                          · refine z_iconst (pc := 174) hZ 3 dM_nearest_174 (by decide) ?_
                            refine z_callV (pc := 175) (As := [.int 3]) (rest := []) hZ (cM_setSpecial l D cR c1 c2 c3 h0 a1 a2 a3 Y ka na ea kb nb eb k n e bits scale K N E 3) zyM_setSpecial (z_goodV ml_M_35 im_M_setSpecial se_M_setSpecial in_M co_M_setSpecial) 0 rfl rfl rfl rfl (by decide) rfl rfl (Nat.le_of_ble_eq_true rfl) ⟨Nat.zero_le _, Nat.zero_le _⟩ dM_nearest_175 (z_kv (fun w1 tys1 hp => ?_))
                            obtain ⟨k175_129, n175_129, e175_129, rfl, rfl, p175_129⟩ := hp
                            refine z_goto (pc := 178) hZ 203 dM_nearest_178 (by decide) ?_
                            exact z_retv (pc := 203) hZ dM_nearest_203 rfl ⟨rfl, _, _, _, rfl, rfl, (by first | exact ⟨nr_sp (Or.inl rfl) p175_129, (fun h => absurd h c3_1), nv_i 3 p3 HV HX DE HL ev154_119 ev157_120 c161_121 (Or.inl ⟨c167_128, rfl⟩) p175_129⟩ | exact ⟨nr_sp (Or.inr (Or.inl rfl)) p175_129, (fun h => absurd h c3_1), nv_i 4 p3 HV HX DE HL ev154_119 ev157_120 c161_121 (Or.inr ⟨c167_128, rfl⟩) p175_129⟩ | exact ⟨nr_ok (nokey_).1, (fun h => absurd h c3_1), nv_p p3 HV HX DE HL ev154_119 ev157_120 c161_121 nokey_ (Or.inl ⟨nokey_, rfl⟩) (nokey_).1 (nokey_).2.2⟩ | exact ⟨nr_ok (nokey_).1, (fun h => absurd h c3_1), nv_p p3 HV HX DE HL ev154_119 ev157_120 c161_121 nokey_ (Or.inr ⟨nokey_, nokey_⟩) (nokey_).1 (nokey_).2.2⟩)⟩
                          · refine z_iconst (pc := 170) hZ 4 dM_nearest_170 (by decide) ?_
                            refine z_goto (pc := 171) hZ 175 dM_nearest_171 (by decide) ?_
                            refine z_callV (pc := 175) (As := [.int 4]) (rest := []) hZ (cM_setSpecial l D cR c1 c2 c3 h0 a1 a2 a3 Y ka na ea kb nb eb k n e bits scale K N E 4) zyM_setSpecial (z_goodV ml_M_35 im_M_setSpecial se_M_setSpecial in_M co_M_setSpecial) 0 rfl rfl rfl rfl (by decide) rfl rfl (Nat.le_of_ble_eq_true rfl) ⟨Nat.zero_le _, Nat.zero_le _⟩ dM_nearest_175 (z_kv (fun w1 tys1 hp => ?_))
                            obtain ⟨k175_130, n175_130, e175_130, rfl, rfl, p175_130⟩ := hp
                            refine z_goto (pc := 178) hZ 203 dM_nearest_178 (by decide) ?_
                            exact z_retv (pc := 203) hZ dM_nearest_203 rfl ⟨rfl, _, _, _, rfl, rfl, (by first | exact ⟨nr_sp (Or.inl rfl) p175_130, (fun h => absurd h c3_1), nv_i 3 p3 HV HX DE HL ev154_119 ev157_120 c161_121 (Or.inl ⟨c167_128, rfl⟩) p175_130⟩ | exact ⟨nr_sp (Or.inr (Or.inl rfl)) p175_130, (fun h => absurd h c3_1), nv_i 4 p3 HV HX DE HL ev154_119 ev157_120 c161_121 (Or.inr ⟨c167_128, rfl⟩) p175_130⟩ | exact ⟨nr_ok (nokey_).1, (fun h => absurd h c3_1), nv_p p3 HV HX DE HL ev154_119 ev157_120 c161_121 nokey_ (Or.inl ⟨nokey_, rfl⟩) (nokey_).1 (nokey_).2.2⟩ | exact ⟨nr_ok (nokey_).1, (fun h => absurd h c3_1), nv_p p3 HV HX DE HL ev154_119 ev157_120 c161_121 nokey_ (Or.inr ⟨nokey_, nokey_⟩) (nokey_).1 (nokey_).2.2⟩)⟩
                      · refine z_iinc (pc := 144) hZ 0 (fun v9 => [(11, .int v9), (9, .long v79_94), (8, .int v57_77), (7, .int x7_19), (0, .ref h0), (4, .int p3)]) dM_nearest_144 rfl (by decide) (fun _ => rfl) (fun v144_131 ev144_131 => ?_)
                        refine z_goto (pc := 147) hZ 134 dM_nearest_147 (by decide) ?_
                        exact z_sub (pc := 134) hZ [0, 1, 2, 3, 4, 5] rfl (ih134 v144_131 (by exact Nat.lt_of_lt_of_le (lb_s (l := x11_134) (by assumption) (by assumption) (by assumption) (by assumption)).2 (Nat.le_of_lt_succ m134)) (by exact (lb_s (l := x11_134) (by assumption) (by assumption) (by assumption) (by assumption)).1) (by exact lbm_s i134 ev138_117 c141_118 ev144_131))
                  exact z_sub (pc := 134) hZ [0, 2, 3, 4, 6, 7] rfl (L134 _ 0 (Nat.lt_succ_self _) (by first | exact lb_0 | exact lb_a (lb_q (x := x7_19) ⟨NX.1, NX.2.1⟩ DB1 (by assumption) (by assumption)) | exact lb_b (lb_q (x := x7_19) ⟨NX.1, NX.2.1⟩ DB1 (by assumption) (by assumption)) (by assumption)) (by exact lbm_0))
                · refine z_lload (pc := 116) hZ 2 dM_nearest_116 rfl ?_
                  refine z_lconst (pc := 118) hZ 1 dM_nearest_118 (by decide) ?_
                  refine z_land (pc := 119) hZ dM_nearest_119 (fun v119_132 ev119_132 => ?_)
                  refine z_lconst (pc := 120) hZ 1 dM_nearest_120 (by decide) ?_
                  refine z_lif_ne (pc := 121) hZ 131 dM_nearest_121 dM_nearest_122 (by decide) (fun c122_133 => ?_) (fun c122_133 => ?_)
                  · have HV : NVQ p1 p2 v79_94 x7_19 v57_77 := by first | exact nv_0 hn1 HX ⟨NX.1, NX.2.1⟩ w19 DE c72_78 | (have F := nv_v ⟨NX.1, NX.2.1⟩ DE c72_78 ev79_94 ev88_95 ev89_96 ev96_97 ev97_98; first | exact nv_u hn1 HX ⟨NX.1, NX.2.1⟩ w19 DE F (nv_u1 F c105_99) nokey_ | exact nv_u hn1 HX ⟨NX.1, NX.2.1⟩ w19 DE F (nv_u2 F c113_116 ev119_132 c122_133) nokey_ | exact nv_n hn1 HX ⟨NX.1, NX.2.1⟩ w19 DE F (nv_n1 F c105_99 c113_116) | exact nv_n hn1 HX ⟨NX.1, NX.2.1⟩ w19 DE F (nv_n2 F c105_99 ev119_132 c122_133))
                    refine z_iconst (pc := 131) hZ 0 dM_nearest_131 (by decide) ?_
                    refine z_istore (pc := 132) hZ [(11, .int 0), (13, .long v97_98), (9, .long v79_94), (8, .int v57_77), (7, .int x7_19), (5, .long x5_19), (0, .ref h0), (4, .int p3)] dM_nearest_132 (by decide) rfl ?_
                    have L134 : ∀ (N134 : Nat) (x11_134 : Int32), (60 - x11_134.toInt).toNat < N134 → (LB v79_94 x11_134) → (LBM v79_94 x11_134) → Z 0 0 (TY cR c1 c2 c3) 134 [(11, .int x11_134), (9, .long v79_94), (8, .int v57_77), (7, .int x7_19), (0, .ref h0), (4, .int p3)] [] (MW h0 a1 a2 a3 c1 c2 c3 (ka, na, ea, kb, nb, eb, k, n, e, bits, scale, K, N, E) ++ Y) := by
                      intro N134
                      induction N134 with
                      | zero => intro x11_134 m134; exact absurd m134 (Nat.not_lt_zero _)
                      | succ N134 ih134 =>
                        intro x11_134 m134 i134 b134
                        refine z_lload (pc := 134) hZ 1 dM_nearest_134 rfl ?_
                        refine z_iload (pc := 136) hZ 0 dM_nearest_136 rfl ?_
                        refine z_lshr (pc := 138) hZ dM_nearest_138 (fun v138_134 ev138_134 => ?_)
                        refine z_lconst (pc := 139) hZ 0 dM_nearest_139 (by decide) ?_
                        refine z_lif_eq (pc := 140) hZ 150 dM_nearest_140 dM_nearest_141 (by decide) (fun c141_135 => ?_) (fun c141_135 => ?_)
                        · have HL := lbm_e i134 b134 ev138_134 c141_135
                          refine z_iload (pc := 150) hZ 0 dM_nearest_150 rfl ?_
                          refine z_iload (pc := 152) hZ 3 dM_nearest_152 rfl ?_
                          refine z_iadd (pc := 154) hZ dM_nearest_154 (fun v154_136 ev154_136 => ?_)
                          refine z_iload (pc := 155) hZ 2 dM_nearest_155 rfl ?_
                          refine z_iadd (pc := 157) hZ dM_nearest_157 (fun v157_137 ev157_137 => ?_)
                          refine z_sipush (pc := 158) hZ 1024 dM_nearest_158 (by decide) ?_
                          refine z_icmp_le (pc := 161) hZ 181 dM_nearest_161 (by decide) (fun c161_138 => ?_) (fun c161_138 => ?_)
                          · refine z_aload_n (pc := 181) hZ 4 dM_nearest_181 rfl rfl ?_
                            refine z_iload (pc := 182) hZ 5 dM_nearest_182 rfl ?_
                            refine z_if_eq (pc := 184) hZ 193 dM_nearest_184 (by decide) (fun c184_139 => ?_) (fun c184_139 => ?_)
                            · refine z_lload (pc := 193) hZ 1 dM_nearest_193 rfl ?_
                              refine z_iload (pc := 195) hZ 3 dM_nearest_195 rfl ?_
                              refine z_iload (pc := 197) hZ 2 dM_nearest_197 rfl ?_
                              refine z_iadd (pc := 199) hZ dM_nearest_199 (fun v199_140 ev199_140 => ?_)
                              refine z_callV (pc := 200) (As := [.long v79_94, .int v199_140]) (rest := []) hZ (cM_plain l D cR c1 c2 c3 h0 a1 a2 a3 Y ka na ea kb nb eb k n e bits scale K N E v79_94 v199_140 (by first | exact Or.inl rfl | exact nr_pp (l := x11_134) (x := x7_19) (d := v57_77) (by assumption) (by assumption) (by assumption) DB1 HX (by assumption) (by assumption) (by assumption) (by assumption) | exact PP_neg (nr_pp (l := x11_134) (x := x7_19) (d := v57_77) (by assumption) (by assumption) (by assumption) DB1 HX (by assumption) (by assumption) (by assumption) (by assumption)) (by assumption))) zyM_plain (z_goodV ml_M_31 im_M_plain se_M_plain in_M co_M_plain) 0 rfl rfl rfl rfl (by decide) rfl rfl (Nat.le_of_ble_eq_true rfl) ⟨Nat.zero_le _, Nat.zero_le _⟩ dM_nearest_200 (z_kv (fun w1 tys1 hp => ?_))
                              obtain ⟨k200_141, n200_141, e200_141, rfl, rfl, p200_141⟩ := hp
                              exact z_retv (pc := 203) hZ dM_nearest_203 rfl ⟨rfl, _, _, _, rfl, rfl, (by first | exact ⟨nr_sp (Or.inl rfl) nokey_, (fun h => absurd h c3_1), nv_i 3 p3 HV HX DE HL ev154_136 ev157_137 c161_138 (Or.inl ⟨nokey_, rfl⟩) nokey_⟩ | exact ⟨nr_sp (Or.inr (Or.inl rfl)) nokey_, (fun h => absurd h c3_1), nv_i 4 p3 HV HX DE HL ev154_136 ev157_137 c161_138 (Or.inr ⟨nokey_, rfl⟩) nokey_⟩ | exact ⟨nr_ok (p200_141).1, (fun h => absurd h c3_1), nv_p p3 HV HX DE HL ev154_136 ev157_137 c161_138 ev199_140 (Or.inl ⟨c184_139, rfl⟩) (p200_141).1 (p200_141).2.2⟩ | exact ⟨nr_ok (p200_141).1, (fun h => absurd h c3_1), nv_p p3 HV HX DE HL ev154_136 ev157_137 c161_138 ev199_140 (Or.inr ⟨c184_139, nokey_⟩) (p200_141).1 (p200_141).2.2⟩)⟩
                            · refine z_lload (pc := 187) hZ 1 dM_nearest_187 rfl ?_
                              refine z_lneg (pc := 189) hZ dM_nearest_189 (fun v189_142 ev189_142 => ?_)
                              refine z_goto (pc := 190) hZ 195 dM_nearest_190 (by decide) ?_
                              refine z_iload (pc := 195) hZ 3 dM_nearest_195 rfl ?_
                              refine z_iload (pc := 197) hZ 2 dM_nearest_197 rfl ?_
                              refine z_iadd (pc := 199) hZ dM_nearest_199 (fun v199_143 ev199_143 => ?_)
                              refine z_callV (pc := 200) (As := [.long v189_142, .int v199_143]) (rest := []) hZ (cM_plain l D cR c1 c2 c3 h0 a1 a2 a3 Y ka na ea kb nb eb k n e bits scale K N E v189_142 v199_143 (by first | exact Or.inl rfl | exact nr_pp (l := x11_134) (x := x7_19) (d := v57_77) (by assumption) (by assumption) (by assumption) DB1 HX (by assumption) (by assumption) (by assumption) (by assumption) | exact PP_neg (nr_pp (l := x11_134) (x := x7_19) (d := v57_77) (by assumption) (by assumption) (by assumption) DB1 HX (by assumption) (by assumption) (by assumption) (by assumption)) (by assumption))) zyM_plain (z_goodV ml_M_31 im_M_plain se_M_plain in_M co_M_plain) 0 rfl rfl rfl rfl (by decide) rfl rfl (Nat.le_of_ble_eq_true rfl) ⟨Nat.zero_le _, Nat.zero_le _⟩ dM_nearest_200 (z_kv (fun w1 tys1 hp => ?_))
                              obtain ⟨k200_144, n200_144, e200_144, rfl, rfl, p200_144⟩ := hp
                              exact z_retv (pc := 203) hZ dM_nearest_203 rfl ⟨rfl, _, _, _, rfl, rfl, (by first | exact ⟨nr_sp (Or.inl rfl) nokey_, (fun h => absurd h c3_1), nv_i 3 p3 HV HX DE HL ev154_136 ev157_137 c161_138 (Or.inl ⟨nokey_, rfl⟩) nokey_⟩ | exact ⟨nr_sp (Or.inr (Or.inl rfl)) nokey_, (fun h => absurd h c3_1), nv_i 4 p3 HV HX DE HL ev154_136 ev157_137 c161_138 (Or.inr ⟨nokey_, rfl⟩) nokey_⟩ | exact ⟨nr_ok (p200_144).1, (fun h => absurd h c3_1), nv_p p3 HV HX DE HL ev154_136 ev157_137 c161_138 ev199_143 (Or.inl ⟨c184_139, rfl⟩) (p200_144).1 (p200_144).2.2⟩ | exact ⟨nr_ok (p200_144).1, (fun h => absurd h c3_1), nv_p p3 HV HX DE HL ev154_136 ev157_137 c161_138 ev199_143 (Or.inr ⟨c184_139, ev189_142⟩) (p200_144).1 (p200_144).2.2⟩)⟩
                          · refine z_aload_n (pc := 164) hZ 4 dM_nearest_164 rfl rfl ?_
                            refine z_iload (pc := 165) hZ 5 dM_nearest_165 rfl ?_
                            refine z_if_eq (pc := 167) hZ 174 dM_nearest_167 (by decide) (fun c167_145 => ?_) (fun c167_145 => ?_)
                            · refine z_iconst (pc := 174) hZ 3 dM_nearest_174 (by decide) ?_
                              refine z_callV (pc := 175) (As := [.int 3]) (rest := []) hZ (cM_setSpecial l D cR c1 c2 c3 h0 a1 a2 a3 Y ka na ea kb nb eb k n e bits scale K N E 3) zyM_setSpecial (z_goodV ml_M_35 im_M_setSpecial se_M_setSpecial in_M co_M_setSpecial) 0 rfl rfl rfl rfl (by decide) rfl rfl (Nat.le_of_ble_eq_true rfl) ⟨Nat.zero_le _, Nat.zero_le _⟩ dM_nearest_175 (z_kv (fun w1 tys1 hp => ?_))
                              obtain ⟨k175_146, n175_146, e175_146, rfl, rfl, p175_146⟩ := hp
                              refine z_goto (pc := 178) hZ 203 dM_nearest_178 (by decide) ?_
                              exact z_retv (pc := 203) hZ dM_nearest_203 rfl ⟨rfl, _, _, _, rfl, rfl, (by first | exact ⟨nr_sp (Or.inl rfl) p175_146, (fun h => absurd h c3_1), nv_i 3 p3 HV HX DE HL ev154_136 ev157_137 c161_138 (Or.inl ⟨c167_145, rfl⟩) p175_146⟩ | exact ⟨nr_sp (Or.inr (Or.inl rfl)) p175_146, (fun h => absurd h c3_1), nv_i 4 p3 HV HX DE HL ev154_136 ev157_137 c161_138 (Or.inr ⟨c167_145, rfl⟩) p175_146⟩ | exact ⟨nr_ok (nokey_).1, (fun h => absurd h c3_1), nv_p p3 HV HX DE HL ev154_136 ev157_137 c161_138 nokey_ (Or.inl ⟨nokey_, rfl⟩) (nokey_).1 (nokey_).2.2⟩ | exact ⟨nr_ok (nokey_).1, (fun h => absurd h c3_1), nv_p p3 HV HX DE HL ev154_136 ev157_137 c161_138 nokey_ (Or.inr ⟨nokey_, nokey_⟩) (nokey_).1 (nokey_).2.2⟩)⟩
                            · refine z_iconst (pc := 170) hZ 4 dM_nearest_170 (by decide) ?_
                              refine z_goto (pc := 171) hZ 175 dM_nearest_171 (by decide) ?_
                              refine z_callV (pc := 175) (As := [.int 4]) (rest := []) hZ (cM_setSpecial l D cR c1 c2 c3 h0 a1 a2 a3 Y ka na ea kb nb eb k n e bits scale K N E 4) zyM_setSpecial (z_goodV ml_M_35 im_M_setSpecial se_M_setSpecial in_M co_M_setSpecial) 0 rfl rfl rfl rfl (by decide) rfl rfl (Nat.le_of_ble_eq_true rfl) ⟨Nat.zero_le _, Nat.zero_le _⟩ dM_nearest_175 (z_kv (fun w1 tys1 hp => ?_))
                              obtain ⟨k175_147, n175_147, e175_147, rfl, rfl, p175_147⟩ := hp
                              refine z_goto (pc := 178) hZ 203 dM_nearest_178 (by decide) ?_
                              exact z_retv (pc := 203) hZ dM_nearest_203 rfl ⟨rfl, _, _, _, rfl, rfl, (by first | exact ⟨nr_sp (Or.inl rfl) p175_147, (fun h => absurd h c3_1), nv_i 3 p3 HV HX DE HL ev154_136 ev157_137 c161_138 (Or.inl ⟨c167_145, rfl⟩) p175_147⟩ | exact ⟨nr_sp (Or.inr (Or.inl rfl)) p175_147, (fun h => absurd h c3_1), nv_i 4 p3 HV HX DE HL ev154_136 ev157_137 c161_138 (Or.inr ⟨c167_145, rfl⟩) p175_147⟩ | exact ⟨nr_ok (nokey_).1, (fun h => absurd h c3_1), nv_p p3 HV HX DE HL ev154_136 ev157_137 c161_138 nokey_ (Or.inl ⟨nokey_, rfl⟩) (nokey_).1 (nokey_).2.2⟩ | exact ⟨nr_ok (nokey_).1, (fun h => absurd h c3_1), nv_p p3 HV HX DE HL ev154_136 ev157_137 c161_138 nokey_ (Or.inr ⟨nokey_, nokey_⟩) (nokey_).1 (nokey_).2.2⟩)⟩
                        · refine z_iinc (pc := 144) hZ 0 (fun v9 => [(11, .int v9), (9, .long v79_94), (8, .int v57_77), (7, .int x7_19), (0, .ref h0), (4, .int p3)]) dM_nearest_144 rfl (by decide) (fun _ => rfl) (fun v144_148 ev144_148 => ?_)
                          refine z_goto (pc := 147) hZ 134 dM_nearest_147 (by decide) ?_
                          exact z_sub (pc := 134) hZ [0, 1, 2, 3, 4, 5] rfl (ih134 v144_148 (by exact Nat.lt_of_lt_of_le (lb_s (l := x11_134) (by assumption) (by assumption) (by assumption) (by assumption)).2 (Nat.le_of_lt_succ m134)) (by exact (lb_s (l := x11_134) (by assumption) (by assumption) (by assumption) (by assumption)).1) (by exact lbm_s i134 ev138_134 c141_135 ev144_148))
                    exact z_sub (pc := 134) hZ [0, 2, 3, 4, 6, 7] rfl (L134 _ 0 (Nat.lt_succ_self _) (by first | exact lb_0 | exact lb_a (lb_q (x := x7_19) ⟨NX.1, NX.2.1⟩ DB1 (by assumption) (by assumption)) | exact lb_b (lb_q (x := x7_19) ⟨NX.1, NX.2.1⟩ DB1 (by assumption) (by assumption)) (by assumption)) (by exact lbm_0))
                  · refine z_lload (pc := 125) hZ 2 dM_nearest_125 rfl ?_
                    refine z_lconst (pc := 127) hZ 1 dM_nearest_127 (by decide) ?_
                    refine z_ladd (pc := 128) hZ dM_nearest_128 (fun v128_149 ev128_149 => ?_)
                    refine z_lstore (pc := 129) hZ [(9, .long v128_149), (13, .long v97_98), (11, .long v89_96), (8, .int v57_77), (7, .int x7_19), (5, .long x5_19), (0, .ref h0), (4, .int p3)] dM_nearest_129 (by decide) rfl ?_
                    have HV : NVQ p1 p2 v128_149 x7_19 v57_77 := by first | exact nv_0 hn1 HX ⟨NX.1, NX.2.1⟩ w19 DE c72_78 | (have F := nv_v ⟨NX.1, NX.2.1⟩ DE c72_78 ev79_94 ev88_95 ev89_96 ev96_97 ev97_98; first | exact nv_u hn1 HX ⟨NX.1, NX.2.1⟩ w19 DE F (nv_u1 F c105_99) ev128_149 | exact nv_u hn1 HX ⟨NX.1, NX.2.1⟩ w19 DE F (nv_u2 F c113_116 ev119_132 c122_133) ev128_149 | exact nv_n hn1 HX ⟨NX.1, NX.2.1⟩ w19 DE F (nv_n1 F c105_99 c113_116) | exact nv_n hn1 HX ⟨NX.1, NX.2.1⟩ w19 DE F (nv_n2 F c105_99 ev119_132 c122_133))
                    refine z_iconst (pc := 131) hZ 0 dM_nearest_131 (by decide) ?_
                    refine z_istore (pc := 132) hZ [(11, .int 0), (9, .long v128_149), (13, .long v97_98), (8, .int v57_77), (7, .int x7_19), (5, .long x5_19), (0, .ref h0), (4, .int p3)] dM_nearest_132 (by decide) rfl ?_
                    have L134 : ∀ (N134 : Nat) (x11_134 : Int32), (60 - x11_134.toInt).toNat < N134 → (LB v128_149 x11_134) → (LBM v128_149 x11_134) → Z 0 0 (TY cR c1 c2 c3) 134 [(11, .int x11_134), (9, .long v128_149), (8, .int v57_77), (7, .int x7_19), (0, .ref h0), (4, .int p3)] [] (MW h0 a1 a2 a3 c1 c2 c3 (ka, na, ea, kb, nb, eb, k, n, e, bits, scale, K, N, E) ++ Y) := by
                      intro N134
                      induction N134 with
                      | zero => intro x11_134 m134; exact absurd m134 (Nat.not_lt_zero _)
                      | succ N134 ih134 =>
                        intro x11_134 m134 i134 b134
                        refine z_lload (pc := 134) hZ 1 dM_nearest_134 rfl ?_
                        refine z_iload (pc := 136) hZ 0 dM_nearest_136 rfl ?_
                        refine z_lshr (pc := 138) hZ dM_nearest_138 (fun v138_150 ev138_150 => ?_)
                        refine z_lconst (pc := 139) hZ 0 dM_nearest_139 (by decide) ?_
                        refine z_lif_eq (pc := 140) hZ 150 dM_nearest_140 dM_nearest_141 (by decide) (fun c141_151 => ?_) (fun c141_151 => ?_)
                        · have HL := lbm_e i134 b134 ev138_150 c141_151
                          refine z_iload (pc := 150) hZ 0 dM_nearest_150 rfl ?_
                          refine z_iload (pc := 152) hZ 3 dM_nearest_152 rfl ?_
                          refine z_iadd (pc := 154) hZ dM_nearest_154 (fun v154_152 ev154_152 => ?_)
                          refine z_iload (pc := 155) hZ 2 dM_nearest_155 rfl ?_
                          refine z_iadd (pc := 157) hZ dM_nearest_157 (fun v157_153 ev157_153 => ?_)
                          refine z_sipush (pc := 158) hZ 1024 dM_nearest_158 (by decide) ?_
                          refine z_icmp_le (pc := 161) hZ 181 dM_nearest_161 (by decide) (fun c161_154 => ?_) (fun c161_154 => ?_)
                          · refine z_aload_n (pc := 181) hZ 4 dM_nearest_181 rfl rfl ?_
                            refine z_iload (pc := 182) hZ 5 dM_nearest_182 rfl ?_
                            refine z_if_eq (pc := 184) hZ 193 dM_nearest_184 (by decide) (fun c184_155 => ?_) (fun c184_155 => ?_)
                            · refine z_lload (pc := 193) hZ 1 dM_nearest_193 rfl ?_
                              refine z_iload (pc := 195) hZ 3 dM_nearest_195 rfl ?_
                              refine z_iload (pc := 197) hZ 2 dM_nearest_197 rfl ?_
                              refine z_iadd (pc := 199) hZ dM_nearest_199 (fun v199_156 ev199_156 => ?_)
                              refine z_callV (pc := 200) (As := [.long v128_149, .int v199_156]) (rest := []) hZ (cM_plain l D cR c1 c2 c3 h0 a1 a2 a3 Y ka na ea kb nb eb k n e bits scale K N E v128_149 v199_156 (by first | exact Or.inl rfl | exact nr_pp (l := x11_134) (x := x7_19) (d := v57_77) (by assumption) (by assumption) (by assumption) DB1 HX (by assumption) (by assumption) (by assumption) (by assumption) | exact PP_neg (nr_pp (l := x11_134) (x := x7_19) (d := v57_77) (by assumption) (by assumption) (by assumption) DB1 HX (by assumption) (by assumption) (by assumption) (by assumption)) (by assumption))) zyM_plain (z_goodV ml_M_31 im_M_plain se_M_plain in_M co_M_plain) 0 rfl rfl rfl rfl (by decide) rfl rfl (Nat.le_of_ble_eq_true rfl) ⟨Nat.zero_le _, Nat.zero_le _⟩ dM_nearest_200 (z_kv (fun w1 tys1 hp => ?_))
                              obtain ⟨k200_157, n200_157, e200_157, rfl, rfl, p200_157⟩ := hp
                              exact z_retv (pc := 203) hZ dM_nearest_203 rfl ⟨rfl, _, _, _, rfl, rfl, (by first | exact ⟨nr_sp (Or.inl rfl) nokey_, (fun h => absurd h c3_1), nv_i 3 p3 HV HX DE HL ev154_152 ev157_153 c161_154 (Or.inl ⟨nokey_, rfl⟩) nokey_⟩ | exact ⟨nr_sp (Or.inr (Or.inl rfl)) nokey_, (fun h => absurd h c3_1), nv_i 4 p3 HV HX DE HL ev154_152 ev157_153 c161_154 (Or.inr ⟨nokey_, rfl⟩) nokey_⟩ | exact ⟨nr_ok (p200_157).1, (fun h => absurd h c3_1), nv_p p3 HV HX DE HL ev154_152 ev157_153 c161_154 ev199_156 (Or.inl ⟨c184_155, rfl⟩) (p200_157).1 (p200_157).2.2⟩ | exact ⟨nr_ok (p200_157).1, (fun h => absurd h c3_1), nv_p p3 HV HX DE HL ev154_152 ev157_153 c161_154 ev199_156 (Or.inr ⟨c184_155, nokey_⟩) (p200_157).1 (p200_157).2.2⟩)⟩
                            · refine z_lload (pc := 187) hZ 1 dM_nearest_187 rfl ?_
                              refine z_lneg (pc := 189) hZ dM_nearest_189 (fun v189_158 ev189_158 => ?_)
                              refine z_goto (pc := 190) hZ 195 dM_nearest_190 (by decide) ?_
                              refine z_iload (pc := 195) hZ 3 dM_nearest_195 rfl ?_
                              refine z_iload (pc := 197) hZ 2 dM_nearest_197 rfl ?_
                              refine z_iadd (pc := 199) hZ dM_nearest_199 (fun v199_159 ev199_159 => ?_)
                              refine z_callV (pc := 200) (As := [.long v189_158, .int v199_159]) (rest := []) hZ (cM_plain l D cR c1 c2 c3 h0 a1 a2 a3 Y ka na ea kb nb eb k n e bits scale K N E v189_158 v199_159 (by first | exact Or.inl rfl | exact nr_pp (l := x11_134) (x := x7_19) (d := v57_77) (by assumption) (by assumption) (by assumption) DB1 HX (by assumption) (by assumption) (by assumption) (by assumption) | exact PP_neg (nr_pp (l := x11_134) (x := x7_19) (d := v57_77) (by assumption) (by assumption) (by assumption) DB1 HX (by assumption) (by assumption) (by assumption) (by assumption)) (by assumption))) zyM_plain (z_goodV ml_M_31 im_M_plain se_M_plain in_M co_M_plain) 0 rfl rfl rfl rfl (by decide) rfl rfl (Nat.le_of_ble_eq_true rfl) ⟨Nat.zero_le _, Nat.zero_le _⟩ dM_nearest_200 (z_kv (fun w1 tys1 hp => ?_))
                              obtain ⟨k200_160, n200_160, e200_160, rfl, rfl, p200_160⟩ := hp
                              exact z_retv (pc := 203) hZ dM_nearest_203 rfl ⟨rfl, _, _, _, rfl, rfl, (by first | exact ⟨nr_sp (Or.inl rfl) nokey_, (fun h => absurd h c3_1), nv_i 3 p3 HV HX DE HL ev154_152 ev157_153 c161_154 (Or.inl ⟨nokey_, rfl⟩) nokey_⟩ | exact ⟨nr_sp (Or.inr (Or.inl rfl)) nokey_, (fun h => absurd h c3_1), nv_i 4 p3 HV HX DE HL ev154_152 ev157_153 c161_154 (Or.inr ⟨nokey_, rfl⟩) nokey_⟩ | exact ⟨nr_ok (p200_160).1, (fun h => absurd h c3_1), nv_p p3 HV HX DE HL ev154_152 ev157_153 c161_154 ev199_159 (Or.inl ⟨c184_155, rfl⟩) (p200_160).1 (p200_160).2.2⟩ | exact ⟨nr_ok (p200_160).1, (fun h => absurd h c3_1), nv_p p3 HV HX DE HL ev154_152 ev157_153 c161_154 ev199_159 (Or.inr ⟨c184_155, ev189_158⟩) (p200_160).1 (p200_160).2.2⟩)⟩
                          · refine z_aload_n (pc := 164) hZ 4 dM_nearest_164 rfl rfl ?_
                            refine z_iload (pc := 165) hZ 5 dM_nearest_165 rfl ?_
                            refine z_if_eq (pc := 167) hZ 174 dM_nearest_167 (by decide) (fun c167_161 => ?_) (fun c167_161 => ?_)
                            · refine z_iconst (pc := 174) hZ 3 dM_nearest_174 (by decide) ?_
                              refine z_callV (pc := 175) (As := [.int 3]) (rest := []) hZ (cM_setSpecial l D cR c1 c2 c3 h0 a1 a2 a3 Y ka na ea kb nb eb k n e bits scale K N E 3) zyM_setSpecial (z_goodV ml_M_35 im_M_setSpecial se_M_setSpecial in_M co_M_setSpecial) 0 rfl rfl rfl rfl (by decide) rfl rfl (Nat.le_of_ble_eq_true rfl) ⟨Nat.zero_le _, Nat.zero_le _⟩ dM_nearest_175 (z_kv (fun w1 tys1 hp => ?_))
                              obtain ⟨k175_162, n175_162, e175_162, rfl, rfl, p175_162⟩ := hp
                              refine z_goto (pc := 178) hZ 203 dM_nearest_178 (by decide) ?_
                              exact z_retv (pc := 203) hZ dM_nearest_203 rfl ⟨rfl, _, _, _, rfl, rfl, (by first | exact ⟨nr_sp (Or.inl rfl) p175_162, (fun h => absurd h c3_1), nv_i 3 p3 HV HX DE HL ev154_152 ev157_153 c161_154 (Or.inl ⟨c167_161, rfl⟩) p175_162⟩ | exact ⟨nr_sp (Or.inr (Or.inl rfl)) p175_162, (fun h => absurd h c3_1), nv_i 4 p3 HV HX DE HL ev154_152 ev157_153 c161_154 (Or.inr ⟨c167_161, rfl⟩) p175_162⟩ | exact ⟨nr_ok (nokey_).1, (fun h => absurd h c3_1), nv_p p3 HV HX DE HL ev154_152 ev157_153 c161_154 nokey_ (Or.inl ⟨nokey_, rfl⟩) (nokey_).1 (nokey_).2.2⟩ | exact ⟨nr_ok (nokey_).1, (fun h => absurd h c3_1), nv_p p3 HV HX DE HL ev154_152 ev157_153 c161_154 nokey_ (Or.inr ⟨nokey_, nokey_⟩) (nokey_).1 (nokey_).2.2⟩)⟩
                            · refine z_iconst (pc := 170) hZ 4 dM_nearest_170 (by decide) ?_
                              refine z_goto (pc := 171) hZ 175 dM_nearest_171 (by decide) ?_
                              refine z_callV (pc := 175) (As := [.int 4]) (rest := []) hZ (cM_setSpecial l D cR c1 c2 c3 h0 a1 a2 a3 Y ka na ea kb nb eb k n e bits scale K N E 4) zyM_setSpecial (z_goodV ml_M_35 im_M_setSpecial se_M_setSpecial in_M co_M_setSpecial) 0 rfl rfl rfl rfl (by decide) rfl rfl (Nat.le_of_ble_eq_true rfl) ⟨Nat.zero_le _, Nat.zero_le _⟩ dM_nearest_175 (z_kv (fun w1 tys1 hp => ?_))
                              obtain ⟨k175_163, n175_163, e175_163, rfl, rfl, p175_163⟩ := hp
                              refine z_goto (pc := 178) hZ 203 dM_nearest_178 (by decide) ?_
                              exact z_retv (pc := 203) hZ dM_nearest_203 rfl ⟨rfl, _, _, _, rfl, rfl, (by first | exact ⟨nr_sp (Or.inl rfl) p175_163, (fun h => absurd h c3_1), nv_i 3 p3 HV HX DE HL ev154_152 ev157_153 c161_154 (Or.inl ⟨c167_161, rfl⟩) p175_163⟩ | exact ⟨nr_sp (Or.inr (Or.inl rfl)) p175_163, (fun h => absurd h c3_1), nv_i 4 p3 HV HX DE HL ev154_152 ev157_153 c161_154 (Or.inr ⟨c167_161, rfl⟩) p175_163⟩ | exact ⟨nr_ok (nokey_).1, (fun h => absurd h c3_1), nv_p p3 HV HX DE HL ev154_152 ev157_153 c161_154 nokey_ (Or.inl ⟨nokey_, rfl⟩) (nokey_).1 (nokey_).2.2⟩ | exact ⟨nr_ok (nokey_).1, (fun h => absurd h c3_1), nv_p p3 HV HX DE HL ev154_152 ev157_153 c161_154 nokey_ (Or.inr ⟨nokey_, nokey_⟩) (nokey_).1 (nokey_).2.2⟩)⟩
                        · refine z_iinc (pc := 144) hZ 0 (fun v9 => [(11, .int v9), (9, .long v128_149), (8, .int v57_77), (7, .int x7_19), (0, .ref h0), (4, .int p3)]) dM_nearest_144 rfl (by decide) (fun _ => rfl) (fun v144_164 ev144_164 => ?_)
                          refine z_goto (pc := 147) hZ 134 dM_nearest_147 (by decide) ?_
                          exact z_sub (pc := 134) hZ [0, 1, 2, 3, 4, 5] rfl (ih134 v144_164 (by exact Nat.lt_of_lt_of_le (lb_s (l := x11_134) (by assumption) (by assumption) (by assumption) (by assumption)).2 (Nat.le_of_lt_succ m134)) (by exact (lb_s (l := x11_134) (by assumption) (by assumption) (by assumption) (by assumption)).1) (by exact lbm_s i134 ev138_150 c141_151 ev144_164))
                    exact z_sub (pc := 134) hZ [0, 1, 3, 4, 6, 7] rfl (L134 _ 0 (Nat.lt_succ_self _) (by first | exact lb_0 | exact lb_a (lb_q (x := x7_19) ⟨NX.1, NX.2.1⟩ DB1 (by assumption) (by assumption)) | exact lb_b (lb_q (x := x7_19) ⟨NX.1, NX.2.1⟩ DB1 (by assumption) (by assumption)) (by assumption)) (by exact lbm_0))
        · refine z_lload (pc := 29) hZ 1 dM_nearest_29 rfl ?_
          refine z_iconst (pc := 31) hZ 1 dM_nearest_31 (by decide) ?_
          refine z_lshl (pc := 32) hZ dM_nearest_32 (fun v32_165 ev32_165 => ?_)
          refine z_lstore (pc := 33) hZ [(5, .long v32_165), (7, .int x7_19), (0, .ref h0), (4, .int p3)] dM_nearest_33 (by decide) rfl ?_
          refine z_iinc (pc := 35) hZ 1 (fun v9 => [(7, .int v9), (5, .long v32_165), (0, .ref h0), (4, .int p3)]) dM_nearest_35 rfl (by decide) (fun _ => rfl) (fun v35_166 ev35_166 => ?_)
          refine z_goto (pc := 38) hZ 19 dM_nearest_38 (by decide) ?_
          exact z_sub (pc := 19) hZ [0, 1, 2, 3] rfl (ih19 v35_166 v32_165 (by exact Nat.lt_of_lt_of_le (nb_s (p := p2) (m := x5_19) (x := x7_19) hn3 (by assumption) (by assumption) (by assumption) (by assumption) (by assumption)).2 (Nat.le_of_lt_succ m19)) (by exact (nb_s (p := p2) (m := x5_19) (x := x7_19) hn3 (by assumption) (by assumption) (by assumption) (by assumption) (by assumption)).1) (by exact nbv_s hn3 i19 w19 ev23_2 c26_3 ev32_165 ev35_166))
    exact z_sub (pc := 19) hZ [0, 1, 2, 5] rfl (L19 _ p2 p1 (Nat.lt_succ_self _) (by exact nb_0 hn1 hn2 (by assumption)) (by exact nbv_0))
  · refine z_aload_n (pc := 6) hZ 0 dM_nearest_6 rfl rfl ?_
    refine z_lconst (pc := 7) hZ 0 dM_nearest_7 (by decide) ?_
    refine z_iconst (pc := 8) hZ 0 dM_nearest_8 (by decide) ?_
    refine z_callV (pc := 9) (As := [.long 0, .int 0]) (rest := []) hZ (cM_plain l D cR c1 c2 c3 h0 a1 a2 a3 Y ka na ea kb nb eb k n e bits scale K N E 0 0 (by exact Or.inl rfl)) zyM_plain (z_goodV ml_M_31 im_M_plain se_M_plain in_M co_M_plain) 0 rfl rfl rfl rfl (by decide) rfl rfl (Nat.le_of_ble_eq_true rfl) ⟨Nat.zero_le _, Nat.zero_le _⟩ dM_nearest_9 (z_kv (fun w1 tys1 hp => ?_))
    obtain ⟨k9_167, n9_167, e9_167, rfl, rfl, p9_167⟩ := hp
    exact z_retv (pc := 12) hZ dM_nearest_12 rfl ⟨rfl, _, _, _, rfl, rfl, (by exact ⟨nr_ok (p9_167).1, (fun _ => ⟨(p9_167).1.1, (p9_167).2.1 rfl⟩), nv_z p3 c3_1 (p9_167).1 ((p9_167).2.1 rfl)⟩)⟩
