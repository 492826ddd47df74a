set_option maxHeartbeats 4000000 in
set_option maxRecDepth 100000 in
theorem cV_become (l : Launch) (D : va_G) (tys : zT) (X : va_W) (LP : List Nat) (f : Nat → V3) (a0 : Nat) (h_a0 : a0 ∈ LP) (a1 : Nat) (h_a1 : a1 ∈ LP) : zM l D vwCl zNF zNM yV_become wsV_become { frames := 0, cells := 0, slots := 0, locals := 0 } [.ref a0, .ref a1] (X ++ PL LP f) tys (qV (fun w' tys' => ∃ f' : Nat → V3, X ++ PL LP f' = w' ∧ tys = tys' ∧ (f' = va_up f a0 (f a1)))) := by
  refine z_met (cc := bV_become) (maxL := 2) (ret := none) (isI := false) (own := RV) (by decide +kernel) rfl rfl (fun h => by cases h) (Nat.le_of_ble_eq_true rfl) (fun Z hZ => ?_)
  show Z 0 0 tys 0 [(0, .ref a0), (1, .ref a1)] [] (X ++ PL LP f)
  refine z_aload_n (pc := 0) hZ 0 dV_become_0 rfl rfl ?_
  refine z_aload_n (pc := 1) hZ 1 dV_become_1 rfl rfl ?_
  refine z_pg0 (pc := 2) hZ h_a1 uc_V (zb fl_V_9) dV_become_2 (fun v2_1 ev2_1 => ?_)
  refine z_pp0 (pc := 5) hZ h_a0 uc_V (zb fl_V_9) dV_become_5 (fun f5_1 ef5_1 => ?_)
  refine z_aload_n (pc := 8) hZ 0 dV_become_8 rfl rfl ?_
  refine z_aload_n (pc := 9) hZ 1 dV_become_9 rfl rfl ?_
  refine z_pg1 (pc := 10) hZ h_a1 uc_V (zb fl_V_15) dV_become_10 (fun v10_3 ev10_3 => ?_)
  refine z_pp1 (pc := 13) hZ h_a0 uc_V (zb fl_V_15) dV_become_13 (fun f13_3 ef13_3 => ?_)
  refine z_aload_n (pc := 16) hZ 0 dV_become_16 rfl rfl ?_
  refine z_aload_n (pc := 17) hZ 1 dV_become_17 rfl rfl ?_
  refine z_pg2 (pc := 18) hZ h_a1 uc_V (zb fl_V_19) dV_become_18 (fun v18_5 ev18_5 => ?_)
  refine z_pp2 (pc := 21) hZ h_a0 uc_V (zb fl_V_19) dV_become_21 (fun f21_5 ef21_5 => ?_)
  exact z_retv (pc := 24) hZ dV_become_24 rfl ⟨rfl, _, rfl, rfl, (by exact be_3 ev2_1 ef5_1 ev10_3 ef13_3 ev18_5 ef21_5)⟩
set_option maxHeartbeats 4000000 in
set_option maxRecDepth 100000 in
theorem cV_setWhole (l : Launch) (D : va_G) (tys : zT) (X : va_W) (LP : List Nat) (f : Nat → V3) (a0 : Nat) (h_a0 : a0 ∈ LP) (p1 : Int64) : zM l D vwCl zNF zNM yV_setWhole wsV_setWhole { frames := 0, cells := 0, slots := 0, locals := 0 } [.ref a0, .long p1] (X ++ PL LP f) tys (qV (fun w' tys' => ∃ f' : Nat → V3, X ++ PL LP f' = w' ∧ tys = tys' ∧ (f' = va_up f a0 (1, p1, 0)))) := by
  refine z_met (cc := bV_setWhole) (maxL := 3) (ret := none) (isI := false) (own := RV) (by decide +kernel) rfl rfl (fun h => by cases h) (Nat.le_of_ble_eq_true rfl) (fun Z hZ => ?_)
  show Z 0 0 tys 0 [(0, .ref a0), (1, .long p1)] [] (X ++ PL LP f)
  refine z_aload_n (pc := 0) hZ 0 dV_setWhole_0 rfl rfl ?_
  refine z_iconst (pc := 1) hZ 1 dV_setWhole_1 (by decide) ?_
  refine z_pp0 (pc := 2) hZ h_a0 uc_V (zb fl_V_9) dV_setWhole_2 (fun f2_0 ef2_0 => ?_)
  refine z_aload_n (pc := 5) hZ 0 dV_setWhole_5 rfl rfl ?_
  refine z_lload_n (pc := 6) hZ 1 dV_setWhole_6 rfl rfl ?_
  refine z_pp1 (pc := 7) hZ h_a0 uc_V (zb fl_V_15) dV_setWhole_7 (fun f7_1 ef7_1 => ?_)
  refine z_aload_n (pc := 10) hZ 0 dV_setWhole_10 rfl rfl ?_
  refine z_iconst (pc := 11) hZ 0 dV_setWhole_11 (by decide) ?_
  refine z_pp2 (pc := 12) hZ h_a0 uc_V (zb fl_V_19) dV_setWhole_12 (fun f12_2 ef12_2 => ?_)
  exact z_retv (pc := 15) hZ dV_setWhole_15 rfl ⟨rfl, _, rfl, rfl, (by exact st_3 ef2_0 ef7_1 ef12_2)⟩
set_option maxHeartbeats 4000000 in
set_option maxRecDepth 100000 in
theorem cV_setSpecial (l : Launch) (D : va_G) (tys : zT) (X : va_W) (LP : List Nat) (f : Nat → V3) (a0 : Nat) (h_a0 : a0 ∈ LP) (p1 : Int32) : zM l D vwCl zNF zNM yV_setSpecial wsV_setSpecial { frames := 0, cells := 0, slots := 0, locals := 0 } [.ref a0, .int p1] (X ++ PL LP f) tys (qV (fun w' tys' => ∃ f' : Nat → V3, X ++ PL LP f' = w' ∧ tys = tys' ∧ (f' = va_up f a0 (p1, 0, 0)))) := by
  refine z_met (cc := bV_setSpecial) (maxL := 2) (ret := none) (isI := false) (own := RV) (by decide +kernel) rfl rfl (fun h => by cases h) (Nat.le_of_ble_eq_true rfl) (fun Z hZ => ?_)
  show Z 0 0 tys 0 [(0, .ref a0), (1, .int p1)] [] (X ++ PL LP f)
  refine z_aload_n (pc := 0) hZ 0 dV_setSpecial_0 rfl rfl ?_
  refine z_iload_n (pc := 1) hZ 1 dV_setSpecial_1 rfl rfl ?_
  refine z_pp0 (pc := 2) hZ h_a0 uc_V (zb fl_V_9) dV_setSpecial_2 (fun f2_0 ef2_0 => ?_)
  refine z_aload_n (pc := 5) hZ 0 dV_setSpecial_5 rfl rfl ?_
  refine z_lconst (pc := 6) hZ 0 dV_setSpecial_6 (by decide) ?_
  refine z_pp1 (pc := 7) hZ h_a0 uc_V (zb fl_V_15) dV_setSpecial_7 (fun f7_1 ef7_1 => ?_)
  refine z_aload_n (pc := 10) hZ 0 dV_setSpecial_10 rfl rfl ?_
  refine z_iconst (pc := 11) hZ 0 dV_setSpecial_11 (by decide) ?_
  refine z_pp2 (pc := 12) hZ h_a0 uc_V (zb fl_V_19) dV_setSpecial_12 (fun f12_2 ef12_2 => ?_)
  exact z_retv (pc := 15) hZ dV_setSpecial_15 rfl ⟨rfl, _, rfl, rfl, (by exact st_3 ef2_0 ef7_1 ef12_2)⟩
set_option maxHeartbeats 4000000 in
set_option maxRecDepth 100000 in
theorem cV_setInfinity (l : Launch) (D : va_G) (tys : zT) (X : va_W) (LP : List Nat) (f : Nat → V3) (a0 : Nat) (h_a0 : a0 ∈ LP) (p1 : Int32) : zM l D vwCl zNF zNM yV_setInfinity wsV_setInfinity { frames := 0, cells := 0, slots := 0, locals := 0 } [.ref a0, .int p1] (X ++ PL LP f) tys (qV (fun w' tys' => ∃ f' : Nat → V3, X ++ PL LP f' = w' ∧ tys = tys' ∧ (True))) := by
  refine z_met (cc := bV_setInfinity) (maxL := 2) (ret := none) (isI := false) (own := RV) (by decide +kernel) rfl rfl (fun h => by cases h) (Nat.le_of_ble_eq_true rfl) (fun Z hZ => ?_)
  show Z 0 0 tys 0 [(0, .ref a0), (1, .int p1)] [] (X ++ PL LP f)
  refine z_aload_n (pc := 0) hZ 0 dV_setInfinity_0 rfl rfl ?_
  refine z_iload_n (pc := 1) hZ 1 dV_setInfinity_1 rfl rfl ?_
  have J10 : ∀ (s0_10 : Int32), Z 0 0 tys 10 [(0, .ref a0)] [.int s0_10, .ref a0] (X ++ PL LP f) := by
    intro s0_10
    refine z_pp0 (pc := 10) hZ h_a0 uc_V (zb fl_V_9) dV_setInfinity_10 (fun f10_0 ef10_0 => ?_)
    refine z_aload_n (pc := 13) hZ 0 dV_setInfinity_13 rfl rfl ?_
    refine z_lconst (pc := 14) hZ 0 dV_setInfinity_14 (by decide) ?_
    refine z_pp1 (pc := 15) hZ h_a0 uc_V (zb fl_V_15) dV_setInfinity_15 (fun f15_1 ef15_1 => ?_)
    refine z_aload_n (pc := 18) hZ 0 dV_setInfinity_18 rfl rfl ?_
    refine z_iconst (pc := 19) hZ 0 dV_setInfinity_19 (by decide) ?_
    refine z_pp2 (pc := 20) hZ h_a0 uc_V (zb fl_V_19) dV_setInfinity_20 (fun f20_2 ef20_2 => ?_)
    exact z_retv (pc := 23) hZ dV_setInfinity_23 rfl ⟨rfl, _, rfl, rfl, (by trivial)⟩
  refine z_if_eq (pc := 2) hZ 9 dV_setInfinity_2 (by decide) (fun c2_4 => ?_) (fun c2_4 => ?_)
  · refine z_iconst (pc := 9) hZ 3 dV_setInfinity_9 (by decide) ?_
    exact z_sub (pc := 10) hZ [0] rfl (J10 3)
  · refine z_iconst (pc := 5) hZ 4 dV_setInfinity_5 (by decide) ?_
    refine z_goto (pc := 6) hZ 10 dV_setInfinity_6 (by decide) ?_
    exact z_sub (pc := 10) hZ [0] rfl (J10 4)
set_option maxHeartbeats 4000000 in
set_option maxRecDepth 100000 in
theorem cV_setZero (l : Launch) (D : va_G) (tys : zT) (X : va_W) (LP : List Nat) (f : Nat → V3) (a0 : Nat) (h_a0 : a0 ∈ LP) : zM l D vwCl zNF zNM yV_setZero wsV_setZero { frames := 0, cells := 0, slots := 0, locals := 0 } [.ref a0] (X ++ PL LP f) tys (qV (fun w' tys' => ∃ f' : Nat → V3, X ++ PL LP f' = w' ∧ tys = tys' ∧ (f' = va_up f a0 (2, 0, 0)))) := by
  refine z_met (cc := bV_setZero) (maxL := 1) (ret := none) (isI := false) (own := RV) (by decide +kernel) rfl rfl (fun h => by cases h) (Nat.le_of_ble_eq_true rfl) (fun Z hZ => ?_)
  show Z 0 0 tys 0 [(0, .ref a0)] [] (X ++ PL LP f)
  refine z_aload_n (pc := 0) hZ 0 dV_setZero_0 rfl rfl ?_
  refine z_iconst (pc := 1) hZ 2 dV_setZero_1 (by decide) ?_
  refine z_pp0 (pc := 2) hZ h_a0 uc_V (zb fl_V_9) dV_setZero_2 (fun f2_0 ef2_0 => ?_)
  refine z_aload_n (pc := 5) hZ 0 dV_setZero_5 rfl rfl ?_
  refine z_lconst (pc := 6) hZ 0 dV_setZero_6 (by decide) ?_
  refine z_pp1 (pc := 7) hZ h_a0 uc_V (zb fl_V_15) dV_setZero_7 (fun f7_1 ef7_1 => ?_)
  refine z_aload_n (pc := 10) hZ 0 dV_setZero_10 rfl rfl ?_
  refine z_iconst (pc := 11) hZ 0 dV_setZero_11 (by decide) ?_
  refine z_pp2 (pc := 12) hZ h_a0 uc_V (zb fl_V_19) dV_setZero_12 (fun f12_2 ef12_2 => ?_)
  exact z_retv (pc := 15) hZ dV_setZero_15 rfl ⟨rfl, _, rfl, rfl, (by exact st_3 ef2_0 ef7_1 ef12_2)⟩
set_option maxHeartbeats 4000000 in
set_option maxRecDepth 100000 in
theorem cV_sizeOf (l : Launch) (D : va_G) (tys : zT) (w : va_W) (p0 : Int64) : zM l D vwCl zNF zNM yV_sizeOf wsV_sizeOf { frames := 0, cells := 0, slots := 0, locals := 0 } [.long p0] (w) tys (qL (fun r w' tys' => w = w' ∧ tys = tys' ∧ (True))) := by
  refine z_met (cc := bV_sizeOf) (maxL := 2) (ret := (some .long)) (isI := false) (own := RV) (by decide +kernel) rfl rfl (fun h => by cases h) (Nat.le_of_ble_eq_true rfl) (fun Z hZ => ?_)
  show Z 0 0 tys 0 [(0, .long p0)] [] (w)
  refine z_lload_n (pc := 0) hZ 0 dV_sizeOf_0 rfl rfl ?_
  refine z_lconst (pc := 1) hZ 0 dV_sizeOf_1 (by decide) ?_
  refine z_lif_ge (pc := 2) hZ 11 dV_sizeOf_2 dV_sizeOf_3 (by decide) (fun c3_1 => ?_) (fun c3_1 => ?_)
  · refine z_lload_n (pc := 11) hZ 0 dV_sizeOf_11 rfl rfl ?_
    exact z_retl (pc := 12) hZ dV_sizeOf_12 rfl ⟨_, rfl, rfl, rfl, (by trivial)⟩
  · refine z_lload_n (pc := 6) hZ 0 dV_sizeOf_6 rfl rfl ?_
    refine z_lneg (pc := 7) hZ dV_sizeOf_7 (fun v7_2 ev7_2 => ?_)
    refine z_goto (pc := 8) hZ 12 dV_sizeOf_8 (by decide) ?_
    exact z_retl (pc := 12) hZ dV_sizeOf_12 rfl ⟨_, rfl, rfl, rfl, (by trivial)⟩
set_option maxHeartbeats 4000000 in
set_option maxRecDepth 100000 in
theorem cV_dropBits (l : Launch) (D : va_G) (tys : zT) (w : va_W) (p0 : Int64) (p1 : Int32) (p2 : Int32) : zM l D vwCl zNF zNM yV_dropBits wsV_dropBits { frames := 0, cells := 0, slots := 0, locals := 0 } [.long p0, .int p1, .int p2] (w) tys (qL (fun r w' tys' => w = w' ∧ tys = tys' ∧ (True))) := by
  refine z_met (cc := bV_dropBits) (maxL := 11) (ret := (some .long)) (isI := false) (own := RV) (by decide +kernel) rfl rfl (fun h => by cases h) (Nat.le_of_ble_eq_true rfl) (fun Z hZ => ?_)
  show Z 0 0 tys 0 [(0, .long p0), (2, .int p1), (3, .int p2)] [] (w)
  refine z_iload_n (pc := 0) hZ 2 dV_dropBits_0 rfl rfl ?_
  refine z_bipush (pc := 1) hZ 63 dV_dropBits_1 (by decide) ?_
  refine z_icmp_le (pc := 3) hZ 8 dV_dropBits_3 (by decide) (fun c3_1 => ?_) (fun c3_1 => ?_)
  · refine z_lload_n (pc := 8) hZ 0 dV_dropBits_8 rfl rfl ?_
    refine z_iload_n (pc := 9) hZ 2 dV_dropBits_9 rfl rfl ?_
    refine z_lushr (pc := 10) hZ dV_dropBits_10 (fun v10_2 ev10_2 => ?_)
    refine z_lstore (pc := 11) hZ [(4, .long v10_2), (0, .long p0), (2, .int p1), (3, .int p2)] dV_dropBits_11 (by decide) rfl ?_
    refine z_lload_n (pc := 13) hZ 1 dV_dropBits_13 rfl rfl ?_
    refine z_lload (pc := 14) hZ 0 dV_dropBits_14 rfl ?_
    refine z_iload_n (pc := 16) hZ 3 dV_dropBits_16 rfl rfl ?_
    refine z_lshl (pc := 17) hZ dV_dropBits_17 (fun v17_3 ev17_3 => ?_)
    refine z_lsub (pc := 18) hZ dV_dropBits_18 (fun v18_4 ev18_4 => ?_)
    refine z_lstore (pc := 19) hZ [(6, .long v18_4), (4, .long v10_2), (0, .long p0), (2, .int p1), (3, .int p2)] dV_dropBits_19 (by decide) rfl ?_
    refine z_lconst (pc := 21) hZ 1 dV_dropBits_21 (by decide) ?_
    refine z_iload_n (pc := 22) hZ 4 dV_dropBits_22 rfl rfl ?_
    refine z_iconst (pc := 23) hZ 1 dV_dropBits_23 (by decide) ?_
    refine z_isub (pc := 24) hZ dV_dropBits_24 (fun v24_5 ev24_5 => ?_)
    refine z_lshl (pc := 25) hZ dV_dropBits_25 (fun v25_6 ev25_6 => ?_)
    refine z_lstore (pc := 26) hZ [(8, .long v25_6), (6, .long v18_4), (4, .long v10_2), (0, .long p0), (2, .int p1), (3, .int p2)] dV_dropBits_26 (by decide) rfl ?_
    refine z_lload (pc := 28) hZ 1 dV_dropBits_28 rfl ?_
    refine z_lload (pc := 30) hZ 0 dV_dropBits_30 rfl ?_
    have J62 : ∀ (s0_62 : Int32), Z 0 0 tys 62 [(4, .long v10_2)] [.int s0_62] (w) := by
      intro s0_62
      refine z_istore (pc := 62) hZ [(10, .int s0_62), (4, .long v10_2)] dV_dropBits_62 (by decide) rfl ?_
      refine z_iload (pc := 64) hZ 0 dV_dropBits_64 rfl ?_
      refine z_if_eq (pc := 66) hZ 76 dV_dropBits_66 (by decide) (fun c66_7 => ?_) (fun c66_7 => ?_)
      · refine z_lload (pc := 76) hZ 1 dV_dropBits_76 rfl ?_
        exact z_retl (pc := 78) hZ dV_dropBits_78 rfl ⟨_, rfl, rfl, rfl, (by trivial)⟩
      · refine z_lload (pc := 69) hZ 1 dV_dropBits_69 rfl ?_
        refine z_lconst (pc := 71) hZ 1 dV_dropBits_71 (by decide) ?_
        refine z_ladd (pc := 72) hZ dV_dropBits_72 (fun v72_8 ev72_8 => ?_)
        refine z_goto (pc := 73) hZ 78 dV_dropBits_73 (by decide) ?_
        exact z_retl (pc := 78) hZ dV_dropBits_78 rfl ⟨_, rfl, rfl, rfl, (by trivial)⟩
    have J57 : Z 0 0 tys 57 [(4, .long v10_2)] [] (w) := by
      refine z_iconst (pc := 57) hZ 1 dV_dropBits_57 (by decide) ?_
      refine z_goto (pc := 58) hZ 62 dV_dropBits_58 (by decide) ?_
      exact z_sub (pc := 62) hZ [0] rfl (J62 1)
    refine z_lif_gt (pc := 32) hZ 57 dV_dropBits_32 dV_dropBits_33 (by decide) (fun c33_9 => ?_) (fun c33_9 => ?_)
    · exact z_sub (pc := 57) hZ [2] rfl (J57 )
    · refine z_lload (pc := 36) hZ 1 dV_dropBits_36 rfl ?_
      refine z_lload (pc := 38) hZ 0 dV_dropBits_38 rfl ?_
      have J61 : Z 0 0 tys 61 [(4, .long v10_2)] [] (w) := by
        refine z_iconst (pc := 61) hZ 0 dV_dropBits_61 (by decide) ?_
        exact z_sub (pc := 62) hZ [0] rfl (J62 0)
      refine z_lif_ne (pc := 40) hZ 61 dV_dropBits_40 dV_dropBits_41 (by decide) (fun c41_10 => ?_) (fun c41_10 => ?_)
      · exact z_sub (pc := 61) hZ [2] rfl (J61 )
      · refine z_iload_n (pc := 44) hZ 4 dV_dropBits_44 rfl rfl ?_
        refine z_if_ne (pc := 45) hZ 57 dV_dropBits_45 (by decide) (fun c45_11 => ?_) (fun c45_11 => ?_)
        · exact z_sub (pc := 57) hZ [2] rfl (J57 )
        · refine z_lload (pc := 48) hZ 2 dV_dropBits_48 rfl ?_
          refine z_lconst (pc := 50) hZ 1 dV_dropBits_50 (by decide) ?_
          refine z_land (pc := 51) hZ dV_dropBits_51 (fun v51_12 ev51_12 => ?_)
          refine z_lconst (pc := 52) hZ 1 dV_dropBits_52 (by decide) ?_
          refine z_lif_ne (pc := 53) hZ 61 dV_dropBits_53 dV_dropBits_54 (by decide) (fun c54_13 => ?_) (fun c54_13 => ?_)
          · exact z_sub (pc := 61) hZ [2] rfl (J61 )
          · exact z_sub (pc := 57) hZ [2] rfl (J57 )
  · refine z_lconst (pc := 6) hZ 0 dV_dropBits_6 (by decide) ?_
    exact z_retl (pc := 7) hZ dV_dropBits_7 rfl ⟨_, rfl, rfl, rfl, (by trivial)⟩
set_option maxHeartbeats 4000000 in
set_option maxRecDepth 100000 in
theorem cV_setNearest (l : Launch) (D : va_G) (tys : zT) (X : va_W) (LP : List Nat) (f : Nat → V3) (a0 : Nat) (h_a0 : a0 ∈ LP) (p1 : Int32) (p2 : Int64) (p3 : Int32) (p4 : Int32) : zM l D vwCl zNF zNM yV_setNearest wsV_setNearest { frames := 2, cells := 0, slots := 0, locals := 43 } [.ref a0, .int p1, .long p2, .int p3, .int p4] (X ++ PL LP f) tys (qV (fun w' tys' => ∃ f' : Nat → V3, X ++ PL LP f' = w' ∧ tys = tys' ∧ (True))) := by
  refine z_met (cc := bV_setNearest) (maxL := 12) (ret := none) (isI := false) (own := RV) (by decide +kernel) rfl rfl (fun h => by cases h) (Nat.le_of_ble_eq_true rfl) (fun Z hZ => ?_)
  show Z 0 0 tys 0 [(0, .ref a0), (1, .int p1), (2, .long p2), (4, .int p3), (5, .int p4)] [] (X ++ PL LP f)
  refine z_bipush (pc := 0) hZ 64 dV_setNearest_0 (by decide) ?_
  refine z_lload_n (pc := 2) hZ 2 dV_setNearest_2 rfl rfl ?_
  refine z_callS (pc := 3) (As := [.long p2]) (rest := [.int 64]) hZ (cJL_numberOfLeadingZeros l D tys (X ++ PL LP f) p2) zyJL_numberOfLeadingZeros (z_goodS ml_V_30 st_JL_numberOfLeadingZeros in_JL co_JL_numberOfLeadingZeros) rfl rfl (by decide) rfl rfl (Nat.le_of_ble_eq_true rfl) ⟨Nat.zero_le _, Nat.zero_le _⟩ dV_setNearest_3 (z_ki (fun r3_1 w1 tys1 hp => ?_))
  obtain ⟨rfl, rfl, p3_1⟩ := hp
  refine z_isub (pc := 6) hZ dV_setNearest_6 (fun v6_2 ev6_2 => ?_)
  refine z_istore (pc := 7) hZ [(6, .int v6_2), (0, .ref a0), (1, .int p1), (2, .long p2), (4, .int p3), (5, .int p4)] dV_setNearest_7 (by decide) rfl ?_
  refine z_iload (pc := 9) hZ 5 dV_setNearest_9 rfl ?_
  refine z_iload (pc := 11) hZ 0 dV_setNearest_11 rfl ?_
  refine z_iadd (pc := 13) hZ dV_setNearest_13 (fun v13_3 ev13_3 => ?_)
  refine z_bipush (pc := 14) hZ 53 dV_setNearest_14 (by decide) ?_
  refine z_isub (pc := 16) hZ dV_setNearest_16 (fun v16_4 ev16_4 => ?_)
  refine z_sipush (pc := 17) hZ (-1074) dV_setNearest_17 (by decide) ?_
  refine z_mmax (pc := 20) hZ (zb ml_V_36) (zb st_JM_max) (zb in_Math) (zb co_JM_max) (by decide) (Nat.le_of_ble_eq_true rfl) (Nat.zero_le _) (Nat.zero_le _) dV_setNearest_20 (fun v20_5 ev20_5 => ?_)
  refine z_iload (pc := 23) hZ 5 dV_setNearest_23 rfl ?_
  refine z_isub (pc := 25) hZ dV_setNearest_25 (fun v25_6 ev25_6 => ?_)
  refine z_istore (pc := 26) hZ [(7, .int v25_6), (6, .int v6_2), (0, .ref a0), (1, .int p1), (2, .long p2), (4, .int p3), (5, .int p4)] dV_setNearest_26 (by decide) rfl ?_
  refine z_iload (pc := 28) hZ 0 dV_setNearest_28 rfl ?_
  have J45 : ∀ (s0_45 : Int64), Z 0 0 tys 45 [(7, .int v25_6), (0, .ref a0), (1, .int p1), (5, .int p4)] [.long s0_45] (X ++ PL LP f) := by
    intro s0_45
    refine z_lstore (pc := 45) hZ [(8, .long s0_45), (7, .int v25_6), (0, .ref a0), (1, .int p1), (5, .int p4)] dV_setNearest_45 (by decide) rfl ?_
    refine z_iload (pc := 47) hZ 1 dV_setNearest_47 rfl ?_
    have J62 : ∀ (s0_62 : Int32), Z 0 0 tys 62 [(8, .long s0_45), (0, .ref a0), (1, .int p1)] [.int s0_62] (X ++ PL LP f) := by
      intro s0_62
      refine z_istore (pc := 62) hZ [(10, .int s0_62), (8, .long s0_45), (0, .ref a0), (1, .int p1)] dV_setNearest_62 (by decide) rfl ?_
      refine z_lload (pc := 64) hZ 1 dV_setNearest_64 rfl ?_
      refine z_lconst (pc := 66) hZ 0 dV_setNearest_66 (by decide) ?_
      refine z_lif_ne (pc := 67) hZ 78 dV_setNearest_67 dV_setNearest_68 (by decide) (fun c68_7 => ?_) (fun c68_7 => ?_)
      · refine z_bipush (pc := 78) hZ 64 dV_setNearest_78 (by decide) ?_
        refine z_lload (pc := 80) hZ 1 dV_setNearest_80 rfl ?_
        refine z_callS (pc := 82) (As := [.long s0_45]) (rest := [.int 64]) hZ (cJL_numberOfLeadingZeros l D tys (X ++ PL LP f) s0_45) zyJL_numberOfLeadingZeros (z_goodS ml_V_30 st_JL_numberOfLeadingZeros in_JL co_JL_numberOfLeadingZeros) rfl rfl (by decide) rfl rfl (Nat.le_of_ble_eq_true rfl) ⟨Nat.zero_le _, Nat.zero_le _⟩ dV_setNearest_82 (z_ki (fun r82_8 w1 tys1 hp => ?_))
        obtain ⟨rfl, rfl, p82_8⟩ := hp
        refine z_isub (pc := 85) hZ dV_setNearest_85 (fun v85_9 ev85_9 => ?_)
        refine z_iload (pc := 86) hZ 0 dV_setNearest_86 rfl ?_
        refine z_iadd (pc := 88) hZ dV_setNearest_88 (fun v88_10 ev88_10 => ?_)
        refine z_sipush (pc := 89) hZ 1024 dV_setNearest_89 (by decide) ?_
        refine z_icmp_le (pc := 92) hZ 103 dV_setNearest_92 (by decide) (fun c92_11 => ?_) (fun c92_11 => ?_)
        · refine z_lload (pc := 103) hZ 1 dV_setNearest_103 rfl ?_
          refine z_callS (pc := 105) (As := [.long s0_45]) (rest := []) hZ (cJL_numberOfTrailingZeros l D tys (X ++ PL LP f) s0_45) zyJL_numberOfTrailingZeros (z_goodS ml_V_53 st_JL_numberOfTrailingZeros in_JL co_JL_numberOfTrailingZeros) rfl rfl (by decide) rfl rfl (Nat.le_of_ble_eq_true rfl) ⟨Nat.zero_le _, Nat.zero_le _⟩ dV_setNearest_105 (z_ki (fun r105_12 w1 tys1 hp => ?_))
          obtain ⟨rfl, rfl, p105_12⟩ := hp
          refine z_sipush (pc := 108) hZ 971 dV_setNearest_108 (by decide) ?_
          refine z_iload (pc := 111) hZ 0 dV_setNearest_111 rfl ?_
          refine z_isub (pc := 113) hZ dV_setNearest_113 (fun v113_13 ev113_13 => ?_)
          refine z_mmin (pc := 114) hZ (zb ml_V_56) (zb st_JM_min) (zb in_Math) (zb co_JM_min) (by decide) (Nat.le_of_ble_eq_true rfl) (Nat.zero_le _) (Nat.zero_le _) dV_setNearest_114 (fun v114_14 ev114_14 => ?_)
          refine z_istore (pc := 117) hZ [(11, .int v114_14), (10, .int s0_62), (8, .long s0_45), (0, .ref a0), (1, .int p1)] dV_setNearest_117 (by decide) rfl ?_
          refine z_iload (pc := 119) hZ 0 dV_setNearest_119 rfl ?_
          have J138 : ∀ (s0_138 : Int64), Z 0 0 tys 138 [(11, .int v114_14), (10, .int s0_62), (0, .ref a0), (1, .int p1)] [.long s0_138] (X ++ PL LP f) := by
            intro s0_138
            refine z_lstore (pc := 138) hZ [(8, .long s0_138), (11, .int v114_14), (10, .int s0_62), (0, .ref a0), (1, .int p1)] dV_setNearest_138 (by decide) rfl ?_
            refine z_aload_n (pc := 140) hZ 3 dV_setNearest_140 rfl rfl ?_
            refine z_iconst (pc := 141) hZ 2 dV_setNearest_141 (by decide) ?_
            refine z_pp0 (pc := 142) hZ h_a0 uc_V (zb fl_V_9) dV_setNearest_142 (fun f142_14 ef142_14 => ?_)
            refine z_aload_n (pc := 145) hZ 3 dV_setNearest_145 rfl rfl ?_
            refine z_iload_n (pc := 146) hZ 4 dV_setNearest_146 rfl rfl ?_
            have J158 : ∀ (s0_158 : Int64), Z 0 0 tys 158 [(11, .int v114_14), (10, .int s0_62), (0, .ref a0)] [.long s0_158, .ref a0] (X ++ PL LP f142_14) := by
              intro s0_158
              refine z_pp1 (pc := 158) hZ h_a0 uc_V (zb fl_V_15) dV_setNearest_158 (fun f158_15 ef158_15 => ?_)
              refine z_aload_n (pc := 161) hZ 2 dV_setNearest_161 rfl rfl ?_
              refine z_iload (pc := 162) hZ 1 dV_setNearest_162 rfl ?_
              refine z_iload (pc := 164) hZ 0 dV_setNearest_164 rfl ?_
              refine z_iadd (pc := 166) hZ dV_setNearest_166 (fun v166_17 ev166_17 => ?_)
              refine z_pp2 (pc := 167) hZ h_a0 uc_V (zb fl_V_19) dV_setNearest_167 (fun f167_17 ef167_17 => ?_)
              exact z_retv (pc := 170) hZ dV_setNearest_170 rfl ⟨rfl, _, rfl, rfl, (by trivial)⟩
            refine z_if_eq (pc := 147) hZ 156 dV_setNearest_147 (by decide) (fun c147_19 => ?_) (fun c147_19 => ?_)
            · refine z_lload (pc := 156) hZ 0 dV_setNearest_156 rfl ?_
              exact z_sub (pc := 158) hZ [1, 2, 3] rfl (J158 s0_138)
            · refine z_lload (pc := 150) hZ 0 dV_setNearest_150 rfl ?_
              refine z_lneg (pc := 152) hZ dV_setNearest_152 (fun v152_20 ev152_20 => ?_)
              refine z_goto (pc := 153) hZ 158 dV_setNearest_153 (by decide) ?_
              exact z_sub (pc := 158) hZ [1, 2, 3] rfl (J158 v152_20)
          refine z_if_lt (pc := 121) hZ 132 dV_setNearest_121 (by decide) (fun c121_21 => ?_) (fun c121_21 => ?_)
          · refine z_lload (pc := 132) hZ 2 dV_setNearest_132 rfl ?_
            refine z_iload (pc := 134) hZ 0 dV_setNearest_134 rfl ?_
            refine z_ineg (pc := 136) hZ dV_setNearest_136 (fun v136_22 ev136_22 => ?_)
            refine z_lshl (pc := 137) hZ dV_setNearest_137 (fun v137_23 ev137_23 => ?_)
            exact z_sub (pc := 138) hZ [0, 1, 3, 4] rfl (J138 v137_23)
          · refine z_lload (pc := 124) hZ 2 dV_setNearest_124 rfl ?_
            refine z_iload (pc := 126) hZ 0 dV_setNearest_126 rfl ?_
            refine z_lushr (pc := 128) hZ dV_setNearest_128 (fun v128_24 ev128_24 => ?_)
            refine z_goto (pc := 129) hZ 138 dV_setNearest_129 (by decide) ?_
            exact z_sub (pc := 138) hZ [0, 1, 3, 4] rfl (J138 v128_24)
        · refine z_aload_n (pc := 95) hZ 2 dV_setNearest_95 rfl rfl ?_
          refine z_iload_n (pc := 96) hZ 3 dV_setNearest_96 rfl rfl ?_
          obtain ⟨q97_25, hq97_25⟩ := zp_at (X := X) (f := f) h_a0
          refine z_callV (pc := 97) (As := [.int p1]) (rest := []) hZ (cV_setInfinity l D tys X LP f a0 h_a0 p1) zyV_setInfinity (z_goodV ml_V_49 im_V_setInfinity se_V_setInfinity in_V co_V_setInfinity) q97_25 hq97_25 rfl rfl rfl (by decide) rfl rfl (Nat.le_of_ble_eq_true rfl) ⟨Nat.zero_le _, Nat.zero_le _⟩ dV_setNearest_97 (z_kv (fun w1 tys1 hp => ?_))
          obtain ⟨f97_25, rfl, rfl, p97_25⟩ := hp
          refine z_goto (pc := 100) hZ 170 dV_setNearest_100 (by decide) ?_
          exact z_retv (pc := 170) hZ dV_setNearest_170 rfl ⟨rfl, _, rfl, rfl, (by trivial)⟩
      · refine z_aload_n (pc := 71) hZ 2 dV_setNearest_71 rfl rfl ?_
        obtain ⟨q72_26, hq72_26⟩ := zp_at (X := X) (f := f) h_a0
        refine z_callV (pc := 72) (As := []) (rest := []) hZ (cV_setZero l D tys X LP f a0 h_a0) zyV_setZero (z_goodV ml_V_46 im_V_setZero se_V_setZero in_V co_V_setZero) q72_26 hq72_26 rfl rfl rfl (by decide) rfl rfl (Nat.le_of_ble_eq_true rfl) ⟨Nat.zero_le _, Nat.zero_le _⟩ dV_setNearest_72 (z_kv (fun w1 tys1 hp => ?_))
        obtain ⟨f72_26, rfl, rfl, p72_26⟩ := hp
        refine z_goto (pc := 75) hZ 170 dV_setNearest_75 (by decide) ?_
        exact z_retv (pc := 170) hZ dV_setNearest_170 rfl ⟨rfl, _, rfl, rfl, (by trivial)⟩
    refine z_if_le (pc := 49) hZ 60 dV_setNearest_49 (by decide) (fun c49_27 => ?_) (fun c49_27 => ?_)
    · refine z_iload (pc := 60) hZ 4 dV_setNearest_60 rfl ?_
      exact z_sub (pc := 62) hZ [0, 2, 3] rfl (J62 p4)
    · refine z_iload (pc := 52) hZ 4 dV_setNearest_52 rfl ?_
      refine z_iload (pc := 54) hZ 1 dV_setNearest_54 rfl ?_
      refine z_iadd (pc := 56) hZ dV_setNearest_56 (fun v56_28 ev56_28 => ?_)
      refine z_goto (pc := 57) hZ 62 dV_setNearest_57 (by decide) ?_
      exact z_sub (pc := 62) hZ [0, 2, 3] rfl (J62 v56_28)
  refine z_if_le (pc := 30) hZ 44 dV_setNearest_30 (by decide) (fun c30_29 => ?_) (fun c30_29 => ?_)
  · refine z_lload_n (pc := 44) hZ 4 dV_setNearest_44 rfl rfl ?_
    exact z_sub (pc := 45) hZ [0, 2, 3, 6] rfl (J45 p2)
  · refine z_lload_n (pc := 33) hZ 4 dV_setNearest_33 rfl rfl ?_
    refine z_iload (pc := 34) hZ 5 dV_setNearest_34 rfl ?_
    refine z_iload (pc := 36) hZ 0 dV_setNearest_36 rfl ?_
    refine z_callS (pc := 38) (As := [.long p2, .int p3, .int v25_6]) (rest := []) hZ (cV_dropBits l D tys (X ++ PL LP f) p2 p3 v25_6) zyV_dropBits (z_goodS ml_V_42 st_V_dropBits in_V co_V_dropBits) rfl rfl (by decide) rfl rfl (Nat.le_of_ble_eq_true rfl) ⟨Nat.zero_le _, Nat.zero_le _⟩ dV_setNearest_38 (z_kl (fun r38_30 w1 tys1 hp => ?_))
    obtain ⟨rfl, rfl, p38_30⟩ := hp
    refine z_goto (pc := 41) hZ 45 dV_setNearest_41 (by decide) ?_
    exact z_sub (pc := 45) hZ [0, 2, 3, 6] rfl (J45 r38_30)
set_option maxHeartbeats 4000000 in
set_option maxRecDepth 100000 in
theorem cV_setReal (l : Launch) (D : va_G) (tys : zT) (X : va_W) (LP : List Nat) (f : Nat → V3) (a0 : Nat) (h_a0 : a0 ∈ LP) (p1 : Int64) (p2 : Int32) : zM l D vwCl zNF zNM yV_setReal wsV_setReal { frames := 3, cells := 0, slots := 0, locals := 74 } [.ref a0, .long p1, .int p2] (X ++ PL LP f) tys (qV (fun w' tys' => ∃ f' : Nat → V3, X ++ PL LP f' = w' ∧ tys = tys' ∧ (True))) := by
  refine z_met (cc := bV_setReal) (maxL := 4) (ret := none) (isI := false) (own := RV) (by decide +kernel) rfl rfl (fun h => by cases h) (Nat.le_of_ble_eq_true rfl) (fun Z hZ => ?_)
  show Z 0 0 tys 0 [(0, .ref a0), (1, .long p1), (3, .int p2)] [] (X ++ PL LP f)
  refine z_aload_n (pc := 0) hZ 0 dV_setReal_0 rfl rfl ?_
  refine z_lload_n (pc := 1) hZ 1 dV_setReal_1 rfl rfl ?_
  refine z_lconst (pc := 2) hZ 0 dV_setReal_2 (by decide) ?_
  have J12 : ∀ (s0_12 : Int32), Z 0 0 tys 12 [(1, .long p1), (3, .int p2)] [.int s0_12, .ref a0] (X ++ PL LP f) := by
    intro s0_12
    refine z_lload_n (pc := 12) hZ 0 dV_setReal_12 rfl rfl ?_
    refine z_callS (pc := 13) (As := [.long p1]) (rest := [.int s0_12, .ref a0]) hZ (cV_sizeOf l D tys (X ++ PL LP f) p1) zyV_sizeOf (z_goodS ml_V_22 st_V_sizeOf in_V co_V_sizeOf) rfl rfl (by decide) rfl rfl (Nat.le_of_ble_eq_true rfl) ⟨Nat.zero_le _, Nat.zero_le _⟩ dV_setReal_13 (z_kl (fun r13_1 w1 tys1 hp => ?_))
    obtain ⟨rfl, rfl, p13_1⟩ := hp
    refine z_iconst (pc := 16) hZ 0 dV_setReal_16 (by decide) ?_
    refine z_iload_n (pc := 17) hZ 1 dV_setReal_17 rfl rfl ?_
    obtain ⟨q18_2, hq18_2⟩ := zp_at (X := X) (f := f) h_a0
    refine z_callV (pc := 18) (As := [.int s0_12, .long r13_1, .int 0, .int p2]) (rest := []) hZ (cV_setNearest l D tys X LP f a0 h_a0 s0_12 r13_1 0 p2) zyV_setNearest (z_goodV ml_V_26 im_V_setNearest se_V_setNearest in_V co_V_setNearest) q18_2 hq18_2 rfl rfl rfl (by decide) rfl rfl (Nat.le_of_ble_eq_true rfl) ⟨Nat.zero_le _, Nat.zero_le _⟩ dV_setReal_18 (z_kv (fun w1 tys1 hp => ?_))
    obtain ⟨f18_2, rfl, rfl, p18_2⟩ := hp
    exact z_retv (pc := 21) hZ dV_setReal_21 rfl ⟨rfl, _, rfl, rfl, (by trivial)⟩
  refine z_lif_ge (pc := 3) hZ 11 dV_setReal_3 dV_setReal_4 (by decide) (fun c4_3 => ?_) (fun c4_3 => ?_)
  · refine z_iconst (pc := 11) hZ 0 dV_setReal_11 (by decide) ?_
    exact z_sub (pc := 12) hZ [1, 2] rfl (J12 0)
  · refine z_iconst (pc := 7) hZ 1 dV_setReal_7 (by decide) ?_
    refine z_goto (pc := 8) hZ 12 dV_setReal_8 (by decide) ?_
    exact z_sub (pc := 12) hZ [1, 2] rfl (J12 1)
set_option maxHeartbeats 4000000 in
set_option maxRecDepth 100000 in
theorem cV_size (l : Launch) (D : va_G) (tys : zT) (X : va_W) (LP : List Nat) (f : Nat → V3) (a0 : Nat) (h_a0 : a0 ∈ LP) : zM l D vwCl zNF zNM yV_size wsV_size { frames := 1, cells := 0, slots := 0, locals := 21 } [.ref a0] (X ++ PL LP f) tys (qL (fun r w' tys' => X ++ PL LP f = w' ∧ tys = tys' ∧ (True))) := by
  refine z_met (cc := bV_size) (maxL := 1) (ret := (some .long)) (isI := false) (own := RV) (by decide +kernel) rfl rfl (fun h => by cases h) (Nat.le_of_ble_eq_true rfl) (fun Z hZ => ?_)
  show Z 0 0 tys 0 [(0, .ref a0)] [] (X ++ PL LP f)
  refine z_aload_n (pc := 0) hZ 0 dV_size_0 rfl rfl ?_
  refine z_pg1 (pc := 1) hZ h_a0 uc_V (zb fl_V_15) dV_size_1 (fun v1_1 ev1_1 => ?_)
  refine z_callS (pc := 4) (As := [.long v1_1]) (rest := []) hZ (cV_sizeOf l D tys (X ++ PL LP f) v1_1) zyV_sizeOf (z_goodS ml_V_22 st_V_sizeOf in_V co_V_sizeOf) rfl rfl (by decide) rfl rfl (Nat.le_of_ble_eq_true rfl) ⟨Nat.zero_le _, Nat.zero_le _⟩ dV_size_4 (z_kl (fun r4_2 w1 tys1 hp => ?_))
  obtain ⟨rfl, rfl, p4_2⟩ := hp
  exact z_retl (pc := 7) hZ dV_size_7 rfl ⟨_, rfl, rfl, rfl, (by trivial)⟩
set_option maxHeartbeats 4000000 in
set_option maxRecDepth 100000 in
theorem cV_turnReal (l : Launch) (D : va_G) (tys : zT) (X : va_W) (LP : List Nat) (f : Nat → V3) (a0 : Nat) (h_a0 : a0 ∈ LP) : zM l D vwCl zNF zNM yV_turnReal wsV_turnReal { frames := 3, cells := 0, slots := 0, locals := 74 } [.ref a0] (X ++ PL LP f) tys (qV (fun w' tys' => ∃ f' : Nat → V3, X ++ PL LP f' = w' ∧ tys = tys' ∧ (True))) := by
  refine z_met (cc := bV_turnReal) (maxL := 1) (ret := none) (isI := false) (own := RV) (by decide +kernel) rfl rfl (fun h => by cases h) (Nat.le_of_ble_eq_true rfl) (fun Z hZ => ?_)
  show Z 0 0 tys 0 [(0, .ref a0)] [] (X ++ PL LP f)
  refine z_aload_n (pc := 0) hZ 0 dV_turnReal_0 rfl rfl ?_
  refine z_pg0 (pc := 1) hZ h_a0 uc_V (zb fl_V_9) dV_turnReal_1 (fun v1_1 ev1_1 => ?_)
  refine z_iconst (pc := 4) hZ 1 dV_turnReal_4 (by decide) ?_
  refine z_icmp_ne (pc := 5) hZ 32 dV_turnReal_5 (by decide) (fun c5_2 => ?_) (fun c5_2 => ?_)
  · exact z_retv (pc := 32) hZ dV_turnReal_32 rfl ⟨rfl, _, rfl, rfl, (by trivial)⟩
  · refine z_aload_n (pc := 8) hZ 0 dV_turnReal_8 rfl rfl ?_
    refine z_aload_n (pc := 9) hZ 0 dV_turnReal_9 rfl rfl ?_
    refine z_pg1 (pc := 10) hZ h_a0 uc_V (zb fl_V_15) dV_turnReal_10 (fun v10_3 ev10_3 => ?_)
    refine z_lconst (pc := 13) hZ 0 dV_turnReal_13 (by decide) ?_
    have J23 : ∀ (s0_23 : Int32), Z 0 0 tys 23 [(0, .ref a0)] [.int s0_23, .ref a0] (X ++ PL LP f) := by
      intro s0_23
      refine z_aload_n (pc := 23) hZ 0 dV_turnReal_23 rfl rfl ?_
      obtain ⟨q24_4, hq24_4⟩ := zp_at (X := X) (f := f) h_a0
      refine z_callV (pc := 24) (As := []) (rest := [.int s0_23, .ref a0]) hZ (cV_size l D tys X LP f a0 h_a0) zyV_size (z_goodV ml_V_59 im_V_size se_V_size in_V co_V_size) q24_4 hq24_4 rfl rfl rfl (by decide) rfl rfl (Nat.le_of_ble_eq_true rfl) ⟨Nat.zero_le _, Nat.zero_le _⟩ dV_turnReal_24 (z_kl (fun r24_4 w1 tys1 hp => ?_))
      obtain ⟨rfl, rfl, p24_4⟩ := hp
      refine z_iconst (pc := 27) hZ 0 dV_turnReal_27 (by decide) ?_
      refine z_iconst (pc := 28) hZ 0 dV_turnReal_28 (by decide) ?_
      obtain ⟨q29_5, hq29_5⟩ := zp_at (X := X) (f := f) h_a0
      refine z_callV (pc := 29) (As := [.int s0_23, .long r24_4, .int 0, .int 0]) (rest := []) hZ (cV_setNearest l D tys X LP f a0 h_a0 s0_23 r24_4 0 0) zyV_setNearest (z_goodV ml_V_26 im_V_setNearest se_V_setNearest in_V co_V_setNearest) q29_5 hq29_5 rfl rfl rfl (by decide) rfl rfl (Nat.le_of_ble_eq_true rfl) ⟨Nat.zero_le _, Nat.zero_le _⟩ dV_turnReal_29 (z_kv (fun w1 tys1 hp => ?_))
      obtain ⟨f29_5, rfl, rfl, p29_5⟩ := hp
      exact z_retv (pc := 32) hZ dV_turnReal_32 rfl ⟨rfl, _, rfl, rfl, (by trivial)⟩
    refine z_lif_ge (pc := 14) hZ 22 dV_turnReal_14 dV_turnReal_15 (by decide) (fun c15_6 => ?_) (fun c15_6 => ?_)
    · refine z_iconst (pc := 22) hZ 0 dV_turnReal_22 (by decide) ?_
      exact z_sub (pc := 23) hZ [0] rfl (J23 0)
    · refine z_iconst (pc := 18) hZ 1 dV_turnReal_18 (by decide) ?_
      refine z_goto (pc := 19) hZ 23 dV_turnReal_19 (by decide) ?_
      exact z_sub (pc := 23) hZ [0] rfl (J23 1)
set_option maxHeartbeats 4000000 in
set_option maxRecDepth 100000 in
theorem cV_isInfinite (l : Launch) (D : va_G) (tys : zT) (X : va_W) (LP : List Nat) (f : Nat → V3) (a0 : Nat) (h_a0 : a0 ∈ LP) : zM l D vwCl zNF zNM yV_isInfinite wsV_isInfinite { frames := 0, cells := 0, slots := 0, locals := 0 } [.ref a0] (X ++ PL LP f) tys (qI (fun r w' tys' => X ++ PL LP f = w' ∧ tys = tys' ∧ (ISI r (f a0).1))) := by
  refine z_met (cc := bV_isInfinite) (maxL := 1) (ret := (some .boolean)) (isI := false) (own := RV) (by decide +kernel) rfl rfl (fun h => by cases h) (Nat.le_of_ble_eq_true rfl) (fun Z hZ => ?_)
  show Z 0 0 tys 0 [(0, .ref a0)] [] (X ++ PL LP f)
  refine z_aload_n (pc := 0) hZ 0 dV_isInfinite_0 rfl rfl ?_
  refine z_pg0 (pc := 1) hZ h_a0 uc_V (zb fl_V_9) dV_isInfinite_1 (fun v1_1 ev1_1 => ?_)
  refine z_iconst (pc := 4) hZ 3 dV_isInfinite_4 (by decide) ?_
  refine z_icmp_eq (pc := 5) hZ 16 dV_isInfinite_5 (by decide) (fun c5_2 => ?_) (fun c5_2 => ?_)
  · refine z_iconst (pc := 16) hZ 1 dV_isInfinite_16 (by decide) ?_
    refine z_goto (pc := 17) hZ 21 dV_isInfinite_17 (by decide) ?_
    exact z_reti (pc := 21) hZ dV_isInfinite_21 .boolean rfl rfl ⟨_, rfl, rfl, rfl, (by first | exact isi_1 ev1_1 c5_2 | exact isi_2 nokey_ nokey_ | exact isi_0 ev1_1 c5_2 nokey_ nokey_)⟩
  · refine z_aload_n (pc := 8) hZ 0 dV_isInfinite_8 rfl rfl ?_
    refine z_pg0 (pc := 9) hZ h_a0 uc_V (zb fl_V_9) dV_isInfinite_9 (fun v9_3 ev9_3 => ?_)
    refine z_iconst (pc := 12) hZ 4 dV_isInfinite_12 (by decide) ?_
    refine z_icmp_ne (pc := 13) hZ 20 dV_isInfinite_13 (by decide) (fun c13_4 => ?_) (fun c13_4 => ?_)
    · refine z_iconst (pc := 20) hZ 0 dV_isInfinite_20 (by decide) ?_
      exact z_reti (pc := 21) hZ dV_isInfinite_21 .boolean rfl rfl ⟨_, rfl, rfl, rfl, (by first | exact isi_1 ev1_1 c5_2 | exact isi_2 ev9_3 c13_4 | exact isi_0 ev1_1 c5_2 ev9_3 c13_4)⟩
    · refine z_iconst (pc := 16) hZ 1 dV_isInfinite_16 (by decide) ?_
      refine z_goto (pc := 17) hZ 21 dV_isInfinite_17 (by decide) ?_
      exact z_reti (pc := 21) hZ dV_isInfinite_21 .boolean rfl rfl ⟨_, rfl, rfl, rfl, (by first | exact isi_1 ev1_1 c5_2 | exact isi_2 ev9_3 c13_4 | exact isi_0 ev1_1 c5_2 ev9_3 c13_4)⟩
set_option maxHeartbeats 4000000 in
set_option maxRecDepth 100000 in
theorem cV_negate (l : Launch) (D : va_G) (tys : zT) (X : va_W) (LP : List Nat) (f : Nat → V3) (a0 : Nat) (h_a0 : a0 ∈ LP) : zM l D vwCl zNF zNM yV_negate wsV_negate { frames := 1, cells := 0, slots := 0, locals := 21 } [.ref a0] (X ++ PL LP f) tys (qV (fun w' tys' => ∃ f' : Nat → V3, X ++ PL LP f' = w' ∧ tys = tys' ∧ (True))) := by
  refine z_met (cc := bV_negate) (maxL := 1) (ret := none) (isI := false) (own := RV) (by decide +kernel) rfl rfl (fun h => by cases h) (Nat.le_of_ble_eq_true rfl) (fun Z hZ => ?_)
  show Z 0 0 tys 0 [(0, .ref a0)] [] (X ++ PL LP f)
  refine z_aload_n (pc := 0) hZ 0 dV_negate_0 rfl rfl ?_
  obtain ⟨q1_1, hq1_1⟩ := zp_at (X := X) (f := f) h_a0
  refine z_callV (pc := 1) (As := []) (rest := []) hZ (cV_isInfinite l D tys X LP f a0 h_a0) zyV_isInfinite (z_goodV ml_V_63 im_V_isInfinite se_V_isInfinite in_V co_V_isInfinite) q1_1 hq1_1 rfl rfl rfl (by decide) rfl rfl (Nat.le_of_ble_eq_true rfl) ⟨Nat.zero_le _, Nat.zero_le _⟩ dV_negate_1 (z_ki (fun r1_1 w1 tys1 hp => ?_))
  obtain ⟨rfl, rfl, p1_1⟩ := hp
  refine z_if_eq (pc := 4) hZ 27 dV_negate_4 (by decide) (fun c4_2 => ?_) (fun c4_2 => ?_)
  · refine z_aload_n (pc := 27) hZ 0 dV_negate_27 rfl rfl ?_
    refine z_aload_n (pc := 28) hZ 0 dV_negate_28 rfl rfl ?_
    refine z_pg1 (pc := 29) hZ h_a0 uc_V (zb fl_V_15) dV_negate_29 (fun v29_3 ev29_3 => ?_)
    refine z_lneg (pc := 32) hZ dV_negate_32 (fun v32_4 ev32_4 => ?_)
    refine z_pp1 (pc := 33) hZ h_a0 uc_V (zb fl_V_15) dV_negate_33 (fun f33_4 ef33_4 => ?_)
    exact z_retv (pc := 36) hZ dV_negate_36 rfl ⟨rfl, _, rfl, rfl, (by trivial)⟩
  · refine z_aload_n (pc := 7) hZ 0 dV_negate_7 rfl rfl ?_
    refine z_aload_n (pc := 8) hZ 0 dV_negate_8 rfl rfl ?_
    refine z_pg0 (pc := 9) hZ h_a0 uc_V (zb fl_V_9) dV_negate_9 (fun v9_6 ev9_6 => ?_)
    refine z_iconst (pc := 12) hZ 3 dV_negate_12 (by decide) ?_
    have J21 : ∀ (s0_21 : Int32), Z 0 0 tys 21 [] [.int s0_21, .ref a0] (X ++ PL LP f) := by
      intro s0_21
      obtain ⟨q21_7, hq21_7⟩ := zp_at (X := X) (f := f) h_a0
      refine z_callV (pc := 21) (As := [.int s0_21]) (rest := []) hZ (cV_setInfinity l D tys X LP f a0 h_a0 s0_21) zyV_setInfinity (z_goodV ml_V_49 im_V_setInfinity se_V_setInfinity in_V co_V_setInfinity) q21_7 hq21_7 rfl rfl rfl (by decide) rfl rfl (Nat.le_of_ble_eq_true rfl) ⟨Nat.zero_le _, Nat.zero_le _⟩ dV_negate_21 (z_kv (fun w1 tys1 hp => ?_))
      obtain ⟨f21_7, rfl, rfl, p21_7⟩ := hp
      refine z_goto (pc := 24) hZ 36 dV_negate_24 (by decide) ?_
      exact z_retv (pc := 36) hZ dV_negate_36 rfl ⟨rfl, _, rfl, rfl, (by trivial)⟩
    refine z_icmp_ne (pc := 13) hZ 20 dV_negate_13 (by decide) (fun c13_8 => ?_) (fun c13_8 => ?_)
    · refine z_iconst (pc := 20) hZ 0 dV_negate_20 (by decide) ?_
      exact z_sub (pc := 21) hZ [] rfl (J21 0)
    · refine z_iconst (pc := 16) hZ 1 dV_negate_16 (by decide) ?_
      refine z_goto (pc := 17) hZ 21 dV_negate_17 (by decide) ?_
      exact z_sub (pc := 21) hZ [] rfl (J21 1)
set_option maxHeartbeats 4000000 in
set_option maxRecDepth 100000 in
theorem cV_floor (l : Launch) (D : va_G) (tys : zT) (X : va_W) (LP : List Nat) (f : Nat → V3) (a0 : Nat) (h_a0 : a0 ∈ LP) : zM l D vwCl zNF zNM yV_floor wsV_floor { frames := 1, cells := 0, slots := 0, locals := 21 } [.ref a0] (X ++ PL LP f) tys (qL (fun r w' tys' => X ++ PL LP f = w' ∧ tys = tys' ∧ (True))) := by
  refine z_met (cc := bV_floor) (maxL := 1) (ret := (some .long)) (isI := false) (own := RV) (by decide +kernel) rfl rfl (fun h => by cases h) (Nat.le_of_ble_eq_true rfl) (fun Z hZ => ?_)
  show Z 0 0 tys 0 [(0, .ref a0)] [] (X ++ PL LP f)
  refine z_aload_n (pc := 0) hZ 0 dV_floor_0 rfl rfl ?_
  refine z_pg2 (pc := 1) hZ h_a0 uc_V (zb fl_V_19) dV_floor_1 (fun v1_1 ev1_1 => ?_)
  refine z_if_ge (pc := 4) hZ 25 dV_floor_4 (by decide) (fun c4_2 => ?_) (fun c4_2 => ?_)
  · refine z_aload_n (pc := 25) hZ 0 dV_floor_25 rfl rfl ?_
    refine z_pg1 (pc := 26) hZ h_a0 uc_V (zb fl_V_15) dV_floor_26 (fun v26_3 ev26_3 => ?_)
    refine z_aload_n (pc := 29) hZ 0 dV_floor_29 rfl rfl ?_
    refine z_pg2 (pc := 30) hZ h_a0 uc_V (zb fl_V_19) dV_floor_30 (fun v30_4 ev30_4 => ?_)
    refine z_lshl (pc := 33) hZ dV_floor_33 (fun v33_5 ev33_5 => ?_)
    exact z_retl (pc := 34) hZ dV_floor_34 rfl ⟨_, rfl, rfl, rfl, (by trivial)⟩
  · refine z_aload_n (pc := 7) hZ 0 dV_floor_7 rfl rfl ?_
    refine z_pg1 (pc := 8) hZ h_a0 uc_V (zb fl_V_15) dV_floor_8 (fun v8_6 ev8_6 => ?_)
    refine z_aload_n (pc := 11) hZ 0 dV_floor_11 rfl rfl ?_
    refine z_pg2 (pc := 12) hZ h_a0 uc_V (zb fl_V_19) dV_floor_12 (fun v12_7 ev12_7 => ?_)
    refine z_ineg (pc := 15) hZ dV_floor_15 (fun v15_8 ev15_8 => ?_)
    refine z_bipush (pc := 16) hZ 63 dV_floor_16 (by decide) ?_
    refine z_mmin (pc := 18) hZ (zb ml_V_56) (zb st_JM_min) (zb in_Math) (zb co_JM_min) (by decide) (Nat.le_of_ble_eq_true rfl) (Nat.zero_le _) (Nat.zero_le _) dV_floor_18 (fun v18_9 ev18_9 => ?_)
    refine z_lshr (pc := 21) hZ dV_floor_21 (fun v21_10 ev21_10 => ?_)
    refine z_goto (pc := 22) hZ 34 dV_floor_22 (by decide) ?_
    exact z_retl (pc := 34) hZ dV_floor_34 rfl ⟨_, rfl, rfl, rfl, (by trivial)⟩
set_option maxHeartbeats 4000000 in
set_option maxRecDepth 100000 in
theorem cV_roundDown (l : Launch) (D : va_G) (tys : zT) (X : va_W) (LP : List Nat) (f : Nat → V3) (a0 : Nat) (h_a0 : a0 ∈ LP) : zM l D vwCl zNF zNM yV_roundDown wsV_roundDown { frames := 4, cells := 0, slots := 0, locals := 97 } [.ref a0] (X ++ PL LP f) tys (qV (fun w' tys' => ∃ f' : Nat → V3, X ++ PL LP f' = w' ∧ tys = tys' ∧ (True))) := by
  refine z_met (cc := bV_roundDown) (maxL := 1) (ret := none) (isI := false) (own := RV) (by decide +kernel) rfl rfl (fun h => by cases h) (Nat.le_of_ble_eq_true rfl) (fun Z hZ => ?_)
  show Z 0 0 tys 0 [(0, .ref a0)] [] (X ++ PL LP f)
  refine z_aload_n (pc := 0) hZ 0 dV_roundDown_0 rfl rfl ?_
  refine z_pg0 (pc := 1) hZ h_a0 uc_V (zb fl_V_9) dV_roundDown_1 (fun v1_1 ev1_1 => ?_)
  refine z_iconst (pc := 4) hZ 2 dV_roundDown_4 (by decide) ?_
  refine z_icmp_ne (pc := 5) hZ 24 dV_roundDown_5 (by decide) (fun c5_2 => ?_) (fun c5_2 => ?_)
  · exact z_retv (pc := 24) hZ dV_roundDown_24 rfl ⟨rfl, _, rfl, rfl, (by trivial)⟩
  · refine z_aload_n (pc := 8) hZ 0 dV_roundDown_8 rfl rfl ?_
    refine z_pg2 (pc := 9) hZ h_a0 uc_V (zb fl_V_19) dV_roundDown_9 (fun v9_3 ev9_3 => ?_)
    refine z_if_ge (pc := 12) hZ 24 dV_roundDown_12 (by decide) (fun c12_4 => ?_) (fun c12_4 => ?_)
    · exact z_retv (pc := 24) hZ dV_roundDown_24 rfl ⟨rfl, _, rfl, rfl, (by trivial)⟩
    · refine z_aload_n (pc := 15) hZ 0 dV_roundDown_15 rfl rfl ?_
      refine z_aload_n (pc := 16) hZ 0 dV_roundDown_16 rfl rfl ?_
      obtain ⟨q17_5, hq17_5⟩ := zp_at (X := X) (f := f) h_a0
      refine z_callV (pc := 17) (As := []) (rest := [.ref a0]) hZ (cV_floor l D tys X LP f a0 h_a0) zyV_floor (z_goodV ml_V_67 im_V_floor se_V_floor in_V co_V_floor) q17_5 hq17_5 rfl rfl rfl (by decide) rfl rfl (Nat.le_of_ble_eq_true rfl) ⟨Nat.zero_le _, Nat.zero_le _⟩ dV_roundDown_17 (z_kl (fun r17_5 w1 tys1 hp => ?_))
      obtain ⟨rfl, rfl, p17_5⟩ := hp
      refine z_iconst (pc := 20) hZ 0 dV_roundDown_20 (by decide) ?_
      obtain ⟨q21_6, hq21_6⟩ := zp_at (X := X) (f := f) h_a0
      refine z_callV (pc := 21) (As := [.long r17_5, .int 0]) (rest := []) hZ (cV_setReal l D tys X LP f a0 h_a0 r17_5 0) zyV_setReal (z_goodV ml_V_70 im_V_setReal se_V_setReal in_V co_V_setReal) q21_6 hq21_6 rfl rfl rfl (by decide) rfl rfl (Nat.le_of_ble_eq_true rfl) ⟨Nat.zero_le _, Nat.zero_le _⟩ dV_roundDown_21 (z_kv (fun w1 tys1 hp => ?_))
      obtain ⟨f21_6, rfl, rfl, p21_6⟩ := hp
      exact z_retv (pc := 24) hZ dV_roundDown_24 rfl ⟨rfl, _, rfl, rfl, (by trivial)⟩
set_option maxHeartbeats 4000000 in
set_option maxRecDepth 100000 in
theorem cV_countsAsWhole (l : Launch) (D : va_G) (tys : zT) (X : va_W) (LP : List Nat) (f : Nat → V3) (a0 : Nat) (h_a0 : a0 ∈ LP) : zM l D vwCl zNF zNM yV_countsAsWhole wsV_countsAsWhole { frames := 0, cells := 0, slots := 0, locals := 0 } [.ref a0] (X ++ PL LP f) tys (qI (fun r w' tys' => X ++ PL LP f = w' ∧ tys = tys' ∧ ((f a0).1 = 1 → r = 1))) := by
  refine z_met (cc := bV_countsAsWhole) (maxL := 1) (ret := (some .boolean)) (isI := false) (own := RV) (by decide +kernel) rfl rfl (fun h => by cases h) (Nat.le_of_ble_eq_true rfl) (fun Z hZ => ?_)
  show Z 0 0 tys 0 [(0, .ref a0)] [] (X ++ PL LP f)
  refine z_aload_n (pc := 0) hZ 0 dV_countsAsWhole_0 rfl rfl ?_
  refine z_pg0 (pc := 1) hZ h_a0 uc_V (zb fl_V_9) dV_countsAsWhole_1 (fun v1_1 ev1_1 => ?_)
  refine z_iconst (pc := 4) hZ 2 dV_countsAsWhole_4 (by decide) ?_
  refine z_icmp_eq (pc := 5) hZ 22 dV_countsAsWhole_5 (by decide) (fun c5_2 => ?_) (fun c5_2 => ?_)
  · refine z_aload_n (pc := 22) hZ 0 dV_countsAsWhole_22 rfl rfl ?_
    refine z_pg2 (pc := 23) hZ h_a0 uc_V (zb fl_V_19) dV_countsAsWhole_23 (fun v23_3 ev23_3 => ?_)
    refine z_if_lt (pc := 26) hZ 64 dV_countsAsWhole_26 (by decide) (fun c26_4 => ?_) (fun c26_4 => ?_)
    · refine z_iconst (pc := 64) hZ 0 dV_countsAsWhole_64 (by decide) ?_
      exact z_reti (pc := 65) hZ dV_countsAsWhole_65 .boolean rfl rfl ⟨_, rfl, rfl, rfl, (by first | exact fun h => (cw_a ev1_1 c5_2 h).elim | exact fun h => absurd (nokey_.trans h) nokey_ | exact fun _ => rfl)⟩
    · refine z_aload_n (pc := 29) hZ 0 dV_countsAsWhole_29 rfl rfl ?_
      refine z_pg2 (pc := 30) hZ h_a0 uc_V (zb fl_V_19) dV_countsAsWhole_30 (fun v30_5 ev30_5 => ?_)
      refine z_bipush (pc := 33) hZ 63 dV_countsAsWhole_33 (by decide) ?_
      refine z_icmp_gt (pc := 35) hZ 64 dV_countsAsWhole_35 (by decide) (fun c35_6 => ?_) (fun c35_6 => ?_)
      · refine z_iconst (pc := 64) hZ 0 dV_countsAsWhole_64 (by decide) ?_
        exact z_reti (pc := 65) hZ dV_countsAsWhole_65 .boolean rfl rfl ⟨_, rfl, rfl, rfl, (by first | exact fun h => (cw_a ev1_1 c5_2 h).elim | exact fun h => absurd (nokey_.trans h) nokey_ | exact fun _ => rfl)⟩
      · refine z_aload_n (pc := 38) hZ 0 dV_countsAsWhole_38 rfl rfl ?_
        refine z_pg1 (pc := 39) hZ h_a0 uc_V (zb fl_V_15) dV_countsAsWhole_39 (fun v39_7 ev39_7 => ?_)
        refine z_aload_n (pc := 42) hZ 0 dV_countsAsWhole_42 rfl rfl ?_
        refine z_pg2 (pc := 43) hZ h_a0 uc_V (zb fl_V_19) dV_countsAsWhole_43 (fun v43_8 ev43_8 => ?_)
        refine z_lshl (pc := 46) hZ dV_countsAsWhole_46 (fun v46_9 ev46_9 => ?_)
        refine z_aload_n (pc := 47) hZ 0 dV_countsAsWhole_47 rfl rfl ?_
        refine z_pg2 (pc := 48) hZ h_a0 uc_V (zb fl_V_19) dV_countsAsWhole_48 (fun v48_10 ev48_10 => ?_)
        refine z_lshr (pc := 51) hZ dV_countsAsWhole_51 (fun v51_11 ev51_11 => ?_)
        refine z_aload_n (pc := 52) hZ 0 dV_countsAsWhole_52 rfl rfl ?_
        refine z_pg1 (pc := 53) hZ h_a0 uc_V (zb fl_V_15) dV_countsAsWhole_53 (fun v53_12 ev53_12 => ?_)
        refine z_lif_ne (pc := 56) hZ 64 dV_countsAsWhole_56 dV_countsAsWhole_57 (by decide) (fun c57_13 => ?_) (fun c57_13 => ?_)
        · refine z_iconst (pc := 64) hZ 0 dV_countsAsWhole_64 (by decide) ?_
          exact z_reti (pc := 65) hZ dV_countsAsWhole_65 .boolean rfl rfl ⟨_, rfl, rfl, rfl, (by first | exact fun h => (cw_a ev1_1 c5_2 h).elim | exact fun h => absurd (nokey_.trans h) nokey_ | exact fun _ => rfl)⟩
        · refine z_iconst (pc := 60) hZ 1 dV_countsAsWhole_60 (by decide) ?_
          refine z_goto (pc := 61) hZ 65 dV_countsAsWhole_61 (by decide) ?_
          exact z_reti (pc := 65) hZ dV_countsAsWhole_65 .boolean rfl rfl ⟨_, rfl, rfl, rfl, (by first | exact fun h => (cw_a ev1_1 c5_2 h).elim | exact fun h => absurd (nokey_.trans h) nokey_ | exact fun _ => rfl)⟩
  · refine z_aload_n (pc := 8) hZ 0 dV_countsAsWhole_8 rfl rfl ?_
    refine z_pg0 (pc := 9) hZ h_a0 uc_V (zb fl_V_9) dV_countsAsWhole_9 (fun v9_14 ev9_14 => ?_)
    refine z_iconst (pc := 12) hZ 1 dV_countsAsWhole_12 (by decide) ?_
    refine z_icmp_ne (pc := 13) hZ 20 dV_countsAsWhole_13 (by decide) (fun c13_15 => ?_) (fun c13_15 => ?_)
    · refine z_iconst (pc := 20) hZ 0 dV_countsAsWhole_20 (by decide) ?_
      exact z_reti (pc := 21) hZ dV_countsAsWhole_21 .boolean rfl rfl ⟨_, rfl, rfl, rfl, (by first | exact fun h => (cw_a ev1_1 c5_2 h).elim | exact fun h => absurd (ev9_14.trans h) c13_15 | exact fun _ => rfl)⟩
    · refine z_iconst (pc := 16) hZ 1 dV_countsAsWhole_16 (by decide) ?_
      refine z_goto (pc := 17) hZ 21 dV_countsAsWhole_17 (by decide) ?_
      exact z_reti (pc := 21) hZ dV_countsAsWhole_21 .boolean rfl rfl ⟨_, rfl, rfl, rfl, (by first | exact fun h => (cw_a ev1_1 c5_2 h).elim | exact fun h => absurd (ev9_14.trans h) c13_15 | exact fun _ => rfl)⟩
set_option maxHeartbeats 4000000 in
set_option maxRecDepth 100000 in
theorem cV_asWhole (l : Launch) (D : va_G) (tys : zT) (X : va_W) (LP : List Nat) (f : Nat → V3) (a0 : Nat) (h_a0 : a0 ∈ LP) : zM l D vwCl zNF zNM yV_asWhole wsV_asWhole { frames := 0, cells := 0, slots := 0, locals := 0 } [.ref a0] (X ++ PL LP f) tys (qL (fun r w' tys' => X ++ PL LP f = w' ∧ tys = tys' ∧ (r = (f a0).2.1 <<< ((f a0).2.2.toInt64 &&& 63)))) := by
  refine z_met (cc := bV_asWhole) (maxL := 1) (ret := (some .long)) (isI := false) (own := RV) (by decide +kernel) rfl rfl (fun h => by cases h) (Nat.le_of_ble_eq_true rfl) (fun Z hZ => ?_)
  show Z 0 0 tys 0 [(0, .ref a0)] [] (X ++ PL LP f)
  refine z_aload_n (pc := 0) hZ 0 dV_asWhole_0 rfl rfl ?_
  refine z_pg1 (pc := 1) hZ h_a0 uc_V (zb fl_V_15) dV_asWhole_1 (fun v1_1 ev1_1 => ?_)
  refine z_aload_n (pc := 4) hZ 0 dV_asWhole_4 rfl rfl ?_
  refine z_pg2 (pc := 5) hZ h_a0 uc_V (zb fl_V_19) dV_asWhole_5 (fun v5_2 ev5_2 => ?_)
  refine z_lshl (pc := 8) hZ dV_asWhole_8 (fun v8_3 ev8_3 => ?_)
  exact z_retl (pc := 9) hZ dV_asWhole_9 rfl ⟨_, rfl, rfl, rfl, (by exact aw_e ev1_1 ev5_2 ev8_3)⟩
set_option maxHeartbeats 4000000 in
set_option maxRecDepth 100000 in
theorem cV_sign (l : Launch) (D : va_G) (tys : zT) (X : va_W) (LP : List Nat) (f : Nat → V3) (a0 : Nat) (h_a0 : a0 ∈ LP) : zM l D vwCl zNF zNM yV_sign wsV_sign { frames := 1, cells := 0, slots := 0, locals := 21 } [.ref a0] (X ++ PL LP f) tys (qI (fun r w' tys' => X ++ PL LP f = w' ∧ tys = tys' ∧ (True))) := by
  refine z_met (cc := bV_sign) (maxL := 1) (ret := (some .int)) (isI := false) (own := RV) (by decide +kernel) rfl rfl (fun h => by cases h) (Nat.le_of_ble_eq_true rfl) (fun Z hZ => ?_)
  show Z 0 0 tys 0 [(0, .ref a0)] [] (X ++ PL LP f)
  refine z_aload_n (pc := 0) hZ 0 dV_sign_0 rfl rfl ?_
  obtain ⟨q1_1, hq1_1⟩ := zp_at (X := X) (f := f) h_a0
  refine z_callV (pc := 1) (As := []) (rest := []) hZ (cV_isInfinite l D tys X LP f a0 h_a0) zyV_isInfinite (z_goodV ml_V_63 im_V_isInfinite se_V_isInfinite in_V co_V_isInfinite) q1_1 hq1_1 rfl rfl rfl (by decide) rfl rfl (Nat.le_of_ble_eq_true rfl) ⟨Nat.zero_le _, Nat.zero_le _⟩ dV_sign_1 (z_ki (fun r1_1 w1 tys1 hp => ?_))
  obtain ⟨rfl, rfl, p1_1⟩ := hp
  refine z_if_eq (pc := 4) hZ 21 dV_sign_4 (by decide) (fun c4_2 => ?_) (fun c4_2 => ?_)
  · refine z_aload_n (pc := 21) hZ 0 dV_sign_21 rfl rfl ?_
    refine z_pg1 (pc := 22) hZ h_a0 uc_V (zb fl_V_15) dV_sign_22 (fun v22_3 ev22_3 => ?_)
    refine z_callS (pc := 25) (As := [.long v22_3]) (rest := []) hZ (cJL_signum l D tys (X ++ PL LP f) v22_3) zyJL_signum (z_goodS ml_V_74 st_JL_signum in_JL co_JL_signum) rfl rfl (by decide) rfl rfl (Nat.le_of_ble_eq_true rfl) ⟨Nat.zero_le _, Nat.zero_le _⟩ dV_sign_25 (z_ki (fun r25_4 w1 tys1 hp => ?_))
    obtain ⟨rfl, rfl, p25_4⟩ := hp
    exact z_reti (pc := 28) hZ dV_sign_28 .int rfl rfl ⟨_, rfl, rfl, rfl, (by trivial)⟩
  · refine z_aload_n (pc := 7) hZ 0 dV_sign_7 rfl rfl ?_
    refine z_pg0 (pc := 8) hZ h_a0 uc_V (zb fl_V_9) dV_sign_8 (fun v8_5 ev8_5 => ?_)
    refine z_iconst (pc := 11) hZ 3 dV_sign_11 (by decide) ?_
    refine z_icmp_ne (pc := 12) hZ 19 dV_sign_12 (by decide) (fun c12_6 => ?_) (fun c12_6 => ?_)
    · refine z_iconst (pc := 19) hZ (-1) dV_sign_19 (by decide) ?_
      exact z_reti (pc := 20) hZ dV_sign_20 .int rfl rfl ⟨_, rfl, rfl, rfl, (by trivial)⟩
    · refine z_iconst (pc := 15) hZ 1 dV_sign_15 (by decide) ?_
      refine z_goto (pc := 16) hZ 20 dV_sign_16 (by decide) ?_
      exact z_reti (pc := 20) hZ dV_sign_20 .int rfl rfl ⟨_, rfl, rfl, rfl, (by trivial)⟩
