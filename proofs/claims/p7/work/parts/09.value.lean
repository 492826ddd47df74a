set_option maxHeartbeats 4000000 in
set_option maxRecDepth 100000 in
theorem cV_become (l : Launch) (D : va_G) (tys : zT) (X : va_W) (LP : List Nat) (f : Nat → V3) (a0 : Nat) (h_a0 : a0 ∈ LP) (a1 : Nat) (h_a1 : a1 ∈ LP) : zM l D vwCl zNF zNM yV_become wsV_become { frames := 0, cells := 0, slots := 0, locals := 0 } [.ref a0, .ref a1] (X ++ PL LP f) tys (qV (fun w' tys' => ∃ f' : Nat → V3, X ++ PL LP f' = w' ∧ tys = tys' ∧ (f' = va_up f a0 (f a1)))) := by
  refine z_met (cc := bV_become) (maxL := 2) (ret := none) (isI := false) (own := RV) (by decide +kernel) rfl rfl (fun h => by cases h) (Nat.le_of_ble_eq_true rfl) (fun Z hZ => ?_)
  show Z 0 0 tys 0 [(0, .ref a0), (1, .ref a1)] [] (X ++ PL LP f)
  refine z_aload_n (pc := 0) hZ 0 dV_become_0 rfl rfl ?_
  refine z_aload_n (pc := 1) hZ 1 dV_become_1 rfl rfl ?_
  refine z_pg0 (pc := 2) hZ h_a1 uc_V (zb fl_V_9) dV_become_2 (fun v2_1 ev2_1 => ?_)
  refine z_pp0 (pc := 5) hZ h_a0 uc_V (zb fl_V_9) dV_become_5 (fun f5_1 ef5_1 => ?_)
  refine z_aload_n (pc := 8) hZ 0 dV_become_8 rfl rfl ?_
  refine z_aload_n (pc := 9) hZ 1 dV_become_9 rfl rfl ?_
  refine z_pg1 (pc := 10) hZ h_a1 uc_V (zb fl_V_15) dV_become_10 (fun v10_3 ev10_3 => ?_)
  refine z_pp1 (pc := 13) hZ h_a0 uc_V (zb fl_V_15) dV_become_13 (fun f13_3 ef13_3 => ?_)
  refine z_aload_n (pc := 16) hZ 0 dV_become_16 rfl rfl ?_
  refine z_aload_n (pc := 17) hZ 1 dV_become_17 rfl rfl ?_
  refine z_pg2 (pc := 18) hZ h_a1 uc_V (zb fl_V_19) dV_become_18 (fun v18_5 ev18_5 => ?_)
  refine z_pp2 (pc := 21) hZ h_a0 uc_V (zb fl_V_19) dV_become_21 (fun f21_5 ef21_5 => ?_)
  exact z_retv (pc := 24) hZ dV_become_24 rfl ⟨rfl, _, rfl, rfl, (by exact be_3 ev2_1 ef5_1 ev10_3 ef13_3 ev18_5 ef21_5)⟩
set_option maxHeartbeats 4000000 in
set_option maxRecDepth 100000 in
theorem cV_setWhole (l : Launch) (D : va_G) (tys : zT) (X : va_W) (LP : List Nat) (f : Nat → V3) (a0 : Nat) (h_a0 : a0 ∈ LP) (p1 : Int64) : zM l D vwCl zNF zNM yV_setWhole wsV_setWhole { frames := 0, cells := 0, slots := 0, locals := 0 } [.ref a0, .long p1] (X ++ PL LP f) tys (qV (fun w' tys' => ∃ f' : Nat → V3, X ++ PL LP f' = w' ∧ tys = tys' ∧ (f' = va_up f a0 (1, p1, 0)))) := by
  refine z_met (cc := bV_setWhole) (maxL := 3) (ret := none) (isI := false) (own := RV) (by decide +kernel) rfl rfl (fun h => by cases h) (Nat.le_of_ble_eq_true rfl) (fun Z hZ => ?_)
  show Z 0 0 tys 0 [(0, .ref a0), (1, .long p1)] [] (X ++ PL LP f)
  refine z_aload_n (pc := 0) hZ 0 dV_setWhole_0 rfl rfl ?_
  refine z_iconst (pc := 1) hZ 1 dV_setWhole_1 (by decide) ?_
  refine z_pp0 (pc := 2) hZ h_a0 uc_V (zb fl_V_9) dV_setWhole_2 (fun f2_0 ef2_0 => ?_)
  refine z_aload_n (pc := 5) hZ 0 dV_setWhole_5 rfl rfl ?_
  refine z_lload_n (pc := 6) hZ 1 dV_setWhole_6 rfl rfl ?_
  refine z_pp1 (pc := 7) hZ h_a0 uc_V (zb fl_V_15) dV_setWhole_7 (fun f7_1 ef7_1 => ?_)
  refine z_aload_n (pc := 10) hZ 0 dV_setWhole_10 rfl rfl ?_
  refine z_iconst (pc := 11) hZ 0 dV_setWhole_11 (by decide) ?_
  refine z_pp2 (pc := 12) hZ h_a0 uc_V (zb fl_V_19) dV_setWhole_12 (fun f12_2 ef12_2 => ?_)
  exact z_retv (pc := 15) hZ dV_setWhole_15 rfl ⟨rfl, _, rfl, rfl, (by exact st_3 ef2_0 ef7_1 ef12_2)⟩
set_option maxHeartbeats 4000000 in
set_option maxRecDepth 100000 in
theorem cV_setSpecial (l : Launch) (D : va_G) (tys : zT) (X : va_W) (LP : List Nat) (f : Nat → V3) (a0 : Nat) (h_a0 : a0 ∈ LP) (p1 : Int32) : zM l D vwCl zNF zNM yV_setSpecial wsV_setSpecial { frames := 0, cells := 0, slots := 0, locals := 0 } [.ref a0, .int p1] (X ++ PL LP f) tys (qV (fun w' tys' => ∃ f' : Nat → V3, X ++ PL LP f' = w' ∧ tys = tys' ∧ (f' = va_up f a0 (p1, 0, 0)))) := by
  refine z_met (cc := bV_setSpecial) (maxL := 2) (ret := none) (isI := false) (own := RV) (by decide +kernel) rfl rfl (fun h => by cases h) (Nat.le_of_ble_eq_true rfl) (fun Z hZ => ?_)
  show Z 0 0 tys 0 [(0, .ref a0), (1, .int p1)] [] (X ++ PL LP f)
  refine z_aload_n (pc := 0) hZ 0 dV_setSpecial_0 rfl rfl ?_
  refine z_iload_n (pc := 1) hZ 1 dV_setSpecial_1 rfl rfl ?_
  refine z_pp0 (pc := 2) hZ h_a0 uc_V (zb fl_V_9) dV_setSpecial_2 (fun f2_0 ef2_0 => ?_)
  refine z_aload_n (pc := 5) hZ 0 dV_setSpecial_5 rfl rfl ?_
  refine z_lconst (pc := 6) hZ 0 dV_setSpecial_6 (by decide) ?_
  refine z_pp1 (pc := 7) hZ h_a0 uc_V (zb fl_V_15) dV_setSpecial_7 (fun f7_1 ef7_1 => ?_)
  refine z_aload_n (pc := 10) hZ 0 dV_setSpecial_10 rfl rfl ?_
  refine z_iconst (pc := 11) hZ 0 dV_setSpecial_11 (by decide) ?_
  refine z_pp2 (pc := 12) hZ h_a0 uc_V (zb fl_V_19) dV_setSpecial_12 (fun f12_2 ef12_2 => ?_)
  exact z_retv (pc := 15) hZ dV_setSpecial_15 rfl ⟨rfl, _, rfl, rfl, (by exact st_3 ef2_0 ef7_1 ef12_2)⟩
set_option maxHeartbeats 4000000 in
set_option maxRecDepth 100000 in
theorem cV_setInfinity (l : Launch) (D : va_G) (tys : zT) (X : va_W) (LP : List Nat) (f : Nat → V3) (a0 : Nat) (h_a0 : a0 ∈ LP) (p1 : Int32) : zM l D vwCl zNF zNM yV_setInfinity wsV_setInfinity { frames := 0, cells := 0, slots := 0, locals := 0 } [.ref a0, .int p1] (X ++ PL LP f) tys (qV (fun w' tys' => ∃ f' : Nat → V3, X ++ PL LP f' = w' ∧ tys = tys' ∧ (f' = va_up f a0 (if p1 = 0 then 3 else 4, 0, 0)))) := by
  refine z_met (cc := bV_setInfinity) (maxL := 2) (ret := none) (isI := false) (own := RV) (by decide +kernel) rfl rfl (fun h => by cases h) (Nat.le_of_ble_eq_true rfl) (fun Z hZ => ?_)
  show Z 0 0 tys 0 [(0, .ref a0), (1, .int p1)] [] (X ++ PL LP f)
  refine z_aload_n (pc := 0) hZ 0 dV_setInfinity_0 rfl rfl ?_
  refine z_iload_n (pc := 1) hZ 1 dV_setInfinity_1 rfl rfl ?_
  refine z_if_eq (pc := 2) hZ 9 dV_setInfinity_2 (by decide) (fun c2_1 => ?_) (fun c2_1 => ?_)
  · refine z_iconst (pc := 9) hZ 3 dV_setInfinity_9 (by decide) ?_
    refine z_pp0 (pc := 10) hZ h_a0 uc_V (zb fl_V_9) dV_setInfinity_10 (fun f10_1 ef10_1 => ?_)
    refine z_aload_n (pc := 13) hZ 0 dV_setInfinity_13 rfl rfl ?_
    refine z_lconst (pc := 14) hZ 0 dV_setInfinity_14 (by decide) ?_
    refine z_pp1 (pc := 15) hZ h_a0 uc_V (zb fl_V_15) dV_setInfinity_15 (fun f15_2 ef15_2 => ?_)
    refine z_aload_n (pc := 18) hZ 0 dV_setInfinity_18 rfl rfl ?_
    refine z_iconst (pc := 19) hZ 0 dV_setInfinity_19 (by decide) ?_
    refine z_pp2 (pc := 20) hZ h_a0 uc_V (zb fl_V_19) dV_setInfinity_20 (fun f20_3 ef20_3 => ?_)
    exact z_retv (pc := 23) hZ dV_setInfinity_23 rfl ⟨rfl, _, rfl, rfl, (by first | (rw [if_pos c2_1]; exact st_3 ef10_1 ef15_2 ef20_3) | (rw [if_neg c2_1]; exact st_3 ef10_1 ef15_2 ef20_3))⟩
  · refine z_iconst (pc := 5) hZ 4 dV_setInfinity_5 (by decide) ?_
    refine z_goto (pc := 6) hZ 10 dV_setInfinity_6 (by decide) ?_
    refine z_pp0 (pc := 10) hZ h_a0 uc_V (zb fl_V_9) dV_setInfinity_10 (fun f10_4 ef10_4 => ?_)
    refine z_aload_n (pc := 13) hZ 0 dV_setInfinity_13 rfl rfl ?_
    refine z_lconst (pc := 14) hZ 0 dV_setInfinity_14 (by decide) ?_
    refine z_pp1 (pc := 15) hZ h_a0 uc_V (zb fl_V_15) dV_setInfinity_15 (fun f15_5 ef15_5 => ?_)
    refine z_aload_n (pc := 18) hZ 0 dV_setInfinity_18 rfl rfl ?_
    refine z_iconst (pc := 19) hZ 0 dV_setInfinity_19 (by decide) ?_
    refine z_pp2 (pc := 20) hZ h_a0 uc_V (zb fl_V_19) dV_setInfinity_20 (fun f20_6 ef20_6 => ?_)
    exact z_retv (pc := 23) hZ dV_setInfinity_23 rfl ⟨rfl, _, rfl, rfl, (by first | (rw [if_pos c2_1]; exact st_3 ef10_4 ef15_5 ef20_6) | (rw [if_neg c2_1]; exact st_3 ef10_4 ef15_5 ef20_6))⟩
set_option maxHeartbeats 4000000 in
set_option maxRecDepth 100000 in
theorem cV_setZero (l : Launch) (D : va_G) (tys : zT) (X : va_W) (LP : List Nat) (f : Nat → V3) (a0 : Nat) (h_a0 : a0 ∈ LP) : zM l D vwCl zNF zNM yV_setZero wsV_setZero { frames := 0, cells := 0, slots := 0, locals := 0 } [.ref a0] (X ++ PL LP f) tys (qV (fun w' tys' => ∃ f' : Nat → V3, X ++ PL LP f' = w' ∧ tys = tys' ∧ (f' = va_up f a0 (2, 0, 0)))) := by
  refine z_met (cc := bV_setZero) (maxL := 1) (ret := none) (isI := false) (own := RV) (by decide +kernel) rfl rfl (fun h => by cases h) (Nat.le_of_ble_eq_true rfl) (fun Z hZ => ?_)
  show Z 0 0 tys 0 [(0, .ref a0)] [] (X ++ PL LP f)
  refine z_aload_n (pc := 0) hZ 0 dV_setZero_0 rfl rfl ?_
  refine z_iconst (pc := 1) hZ 2 dV_setZero_1 (by decide) ?_
  refine z_pp0 (pc := 2) hZ h_a0 uc_V (zb fl_V_9) dV_setZero_2 (fun f2_0 ef2_0 => ?_)
  refine z_aload_n (pc := 5) hZ 0 dV_setZero_5 rfl rfl ?_
  refine z_lconst (pc := 6) hZ 0 dV_setZero_6 (by decide) ?_
  refine z_pp1 (pc := 7) hZ h_a0 uc_V (zb fl_V_15) dV_setZero_7 (fun f7_1 ef7_1 => ?_)
  refine z_aload_n (pc := 10) hZ 0 dV_setZero_10 rfl rfl ?_
  refine z_iconst (pc := 11) hZ 0 dV_setZero_11 (by decide) ?_
  refine z_pp2 (pc := 12) hZ h_a0 uc_V (zb fl_V_19) dV_setZero_12 (fun f12_2 ef12_2 => ?_)
  exact z_retv (pc := 15) hZ dV_setZero_15 rfl ⟨rfl, _, rfl, rfl, (by exact st_3 ef2_0 ef7_1 ef12_2)⟩
set_option maxHeartbeats 4000000 in
set_option maxRecDepth 100000 in
theorem cV_sizeOf (l : Launch) (D : va_G) (tys : zT) (w : va_W) (p0 : Int64) : zM l D vwCl zNF zNM yV_sizeOf wsV_sizeOf { frames := 0, cells := 0, slots := 0, locals := 0 } [.long p0] (w) tys (qL (fun r w' tys' => w = w' ∧ tys = tys' ∧ (un r = p0.toInt.natAbs))) := by
  refine z_met (cc := bV_sizeOf) (maxL := 2) (ret := (some .long)) (isI := false) (own := RV) (by decide +kernel) rfl rfl (fun h => by cases h) (Nat.le_of_ble_eq_true rfl) (fun Z hZ => ?_)
  show Z 0 0 tys 0 [(0, .long p0)] [] (w)
  refine z_lload_n (pc := 0) hZ 0 dV_sizeOf_0 rfl rfl ?_
  refine z_lconst (pc := 1) hZ 0 dV_sizeOf_1 (by decide) ?_
  refine z_lif_ge (pc := 2) hZ 11 dV_sizeOf_2 dV_sizeOf_3 (by decide) (fun c3_1 => ?_) (fun c3_1 => ?_)
  · refine z_lload_n (pc := 11) hZ 0 dV_sizeOf_11 rfl rfl ?_
    exact z_retl (pc := 12) hZ dV_sizeOf_12 rfl ⟨_, rfl, rfl, rfl, (by first | exact so_n c3_1 nokey_ | exact so_p c3_1)⟩
  · refine z_lload_n (pc := 6) hZ 0 dV_sizeOf_6 rfl rfl ?_
    refine z_lneg (pc := 7) hZ dV_sizeOf_7 (fun v7_2 ev7_2 => ?_)
    refine z_goto (pc := 8) hZ 12 dV_sizeOf_8 (by decide) ?_
    exact z_retl (pc := 12) hZ dV_sizeOf_12 rfl ⟨_, rfl, rfl, rfl, (by first | exact so_n c3_1 ev7_2 | exact so_p c3_1)⟩
set_option maxHeartbeats 4000000 in
set_option maxRecDepth 100000 in
theorem cV_dropBits (l : Launch) (D : va_G) (tys : zT) (w : va_W) (p0 : Int64) (p1 : Int32) (p2 : Int32) : zM l D vwCl zNF zNM yV_dropBits wsV_dropBits { frames := 0, cells := 0, slots := 0, locals := 0 } [.long p0, .int p1, .int p2] (w) tys (qL (fun r w' tys' => w = w' ∧ tys = tys' ∧ (DBC p0 p2 → un r = RF (un p0) p2.toInt.toNat (bb p1)))) := by
  refine z_met (cc := bV_dropBits) (maxL := 11) (ret := (some .long)) (isI := false) (own := RV) (by decide +kernel) rfl rfl (fun h => by cases h) (Nat.le_of_ble_eq_true rfl) (fun Z hZ => ?_)
  show Z 0 0 tys 0 [(0, .long p0), (2, .int p1), (3, .int p2)] [] (w)
  refine z_iload_n (pc := 0) hZ 2 dV_dropBits_0 rfl rfl ?_
  refine z_bipush (pc := 1) hZ 63 dV_dropBits_1 (by decide) ?_
  refine z_icmp_le (pc := 3) hZ 8 dV_dropBits_3 (by decide) (fun c3_1 => ?_) (fun c3_1 => ?_)
  · refine z_lload_n (pc := 8) hZ 0 dV_dropBits_8 rfl rfl ?_
    refine z_iload_n (pc := 9) hZ 2 dV_dropBits_9 rfl rfl ?_
    refine z_lushr (pc := 10) hZ dV_dropBits_10 (fun v10_2 ev10_2 => ?_)
    refine z_lstore (pc := 11) hZ [(4, .long v10_2), (0, .long p0), (2, .int p1), (3, .int p2)] dV_dropBits_11 (by decide) rfl ?_
    refine z_lload_n (pc := 13) hZ 1 dV_dropBits_13 rfl rfl ?_
    refine z_lload (pc := 14) hZ 0 dV_dropBits_14 rfl ?_
    refine z_iload_n (pc := 16) hZ 3 dV_dropBits_16 rfl rfl ?_
    refine z_lshl (pc := 17) hZ dV_dropBits_17 (fun v17_3 ev17_3 => ?_)
    refine z_lsub (pc := 18) hZ dV_dropBits_18 (fun v18_4 ev18_4 => ?_)
    refine z_lstore (pc := 19) hZ [(6, .long v18_4), (4, .long v10_2), (0, .long p0), (2, .int p1), (3, .int p2)] dV_dropBits_19 (by decide) rfl ?_
    refine z_lconst (pc := 21) hZ 1 dV_dropBits_21 (by decide) ?_
    refine z_iload_n (pc := 22) hZ 4 dV_dropBits_22 rfl rfl ?_
    refine z_iconst (pc := 23) hZ 1 dV_dropBits_23 (by decide) ?_
    refine z_isub (pc := 24) hZ dV_dropBits_24 (fun v24_5 ev24_5 => ?_)
    refine z_lshl (pc := 25) hZ dV_dropBits_25 (fun v25_6 ev25_6 => ?_)
    refine z_lstore (pc := 26) hZ [(8, .long v25_6), (6, .long v18_4), (4, .long v10_2), (0, .long p0), (2, .int p1), (3, .int p2)] dV_dropBits_26 (by decide) rfl ?_
    refine z_lload (pc := 28) hZ 1 dV_dropBits_28 rfl ?_
    refine z_lload (pc := 30) hZ 0 dV_dropBits_30 rfl ?_
    refine z_lif_gt (pc := 32) hZ 57 dV_dropBits_32 dV_dropBits_33 (by decide) (fun c33_7 => ?_) (fun c33_7 => ?_)
    · refine z_iconst (pc := 57) hZ 1 dV_dropBits_57 (by decide) ?_
      refine z_goto (pc := 58) hZ 62 dV_dropBits_58 (by decide) ?_
      refine z_istore (pc := 62) hZ [(10, .int 1), (8, .long v25_6), (6, .long v18_4), (4, .long v10_2), (0, .long p0), (2, .int p1), (3, .int p2)] dV_dropBits_62 (by decide) rfl ?_
      refine z_iload (pc := 64) hZ 0 dV_dropBits_64 rfl ?_
      refine z_if_eq (pc := 66) hZ 76 dV_dropBits_66 (by decide) (fun c9 => False.elim (absurd c9 (by decide))) (fun c66 => ?_)
      refine z_lload (pc := 69) hZ 3 dV_dropBits_69 rfl ?_
      refine z_lconst (pc := 71) hZ 1 dV_dropBits_71 (by decide) ?_
      refine z_ladd (pc := 72) hZ dV_dropBits_72 (fun v72_8 ev72_8 => ?_)
      refine z_goto (pc := 73) hZ 78 dV_dropBits_73 (by decide) ?_
      exact z_retl (pc := 78) hZ dV_dropBits_78 rfl ⟨_, rfl, rfl, rfl, (by first | exact dr_up (dr_v c3_1 ev10_2 ev17_3 ev18_4 ev24_5 ev25_6) ev72_8 (dr_u1 (dr_v c3_1 ev10_2 ev17_3 ev18_4 ev24_5 ev25_6) c33_7) | exact dr_up (dr_v c3_1 ev10_2 ev17_3 ev18_4 ev24_5 ev25_6) ev72_8 (dr_u2 (dr_v c3_1 ev10_2 ev17_3 ev18_4 ev24_5 ev25_6) nokey_ nokey_) | exact dr_up (dr_v c3_1 ev10_2 ev17_3 ev18_4 ev24_5 ev25_6) ev72_8 (dr_u3 (dr_v c3_1 ev10_2 ev17_3 ev18_4 ev24_5 ev25_6) nokey_ nokey_ nokey_) | exact dr_no (dr_v c3_1 ev10_2 ev17_3 ev18_4 ev24_5 ev25_6) (dr_n1 (dr_v c3_1 ev10_2 ev17_3 ev18_4 ev24_5 ev25_6) c33_7 nokey_) | exact dr_no (dr_v c3_1 ev10_2 ev17_3 ev18_4 ev24_5 ev25_6) (dr_n2 (dr_v c3_1 ev10_2 ev17_3 ev18_4 ev24_5 ev25_6) c33_7 nokey_ nokey_ nokey_))⟩
    · refine z_lload (pc := 36) hZ 1 dV_dropBits_36 rfl ?_
      refine z_lload (pc := 38) hZ 0 dV_dropBits_38 rfl ?_
      refine z_lif_ne (pc := 40) hZ 61 dV_dropBits_40 dV_dropBits_41 (by decide) (fun c41_9 => ?_) (fun c41_9 => ?_)
      · refine z_iconst (pc := 61) hZ 0 dV_dropBits_61 (by decide) ?_
        refine z_istore (pc := 62) hZ [(10, .int 0), (8, .long v25_6), (6, .long v18_4), (4, .long v10_2), (0, .long p0), (2, .int p1), (3, .int p2)] dV_dropBits_62 (by decide) rfl ?_
        refine z_iload (pc := 64) hZ 0 dV_dropBits_64 rfl ?_
        refine z_if_eq (pc := 66) hZ 76 dV_dropBits_66 (by decide) (fun c66 => ?_) (fun c9 => False.elim (absurd c9 (by decide)))
        refine z_lload (pc := 76) hZ 3 dV_dropBits_76 rfl ?_
        exact z_retl (pc := 78) hZ dV_dropBits_78 rfl ⟨_, rfl, rfl, rfl, (by first | exact dr_up (dr_v c3_1 ev10_2 ev17_3 ev18_4 ev24_5 ev25_6) nokey_ (dr_u1 (dr_v c3_1 ev10_2 ev17_3 ev18_4 ev24_5 ev25_6) c33_7) | exact dr_up (dr_v c3_1 ev10_2 ev17_3 ev18_4 ev24_5 ev25_6) nokey_ (dr_u2 (dr_v c3_1 ev10_2 ev17_3 ev18_4 ev24_5 ev25_6) c41_9 nokey_) | exact dr_up (dr_v c3_1 ev10_2 ev17_3 ev18_4 ev24_5 ev25_6) nokey_ (dr_u3 (dr_v c3_1 ev10_2 ev17_3 ev18_4 ev24_5 ev25_6) c41_9 nokey_ nokey_) | exact dr_no (dr_v c3_1 ev10_2 ev17_3 ev18_4 ev24_5 ev25_6) (dr_n1 (dr_v c3_1 ev10_2 ev17_3 ev18_4 ev24_5 ev25_6) c33_7 c41_9) | exact dr_no (dr_v c3_1 ev10_2 ev17_3 ev18_4 ev24_5 ev25_6) (dr_n2 (dr_v c3_1 ev10_2 ev17_3 ev18_4 ev24_5 ev25_6) c33_7 nokey_ nokey_ nokey_))⟩
      · refine z_iload_n (pc := 44) hZ 4 dV_dropBits_44 rfl rfl ?_
        refine z_if_ne (pc := 45) hZ 57 dV_dropBits_45 (by decide) (fun c45_10 => ?_) (fun c45_10 => ?_)
        · refine z_iconst (pc := 57) hZ 1 dV_dropBits_57 (by decide) ?_
          refine z_goto (pc := 58) hZ 62 dV_dropBits_58 (by decide) ?_
          refine z_istore (pc := 62) hZ [(10, .int 1), (8, .long v25_6), (6, .long v18_4), (4, .long v10_2), (0, .long p0), (2, .int p1), (3, .int p2)] dV_dropBits_62 (by decide) rfl ?_
          refine z_iload (pc := 64) hZ 0 dV_dropBits_64 rfl ?_
          refine z_if_eq (pc := 66) hZ 76 dV_dropBits_66 (by decide) (fun c9 => False.elim (absurd c9 (by decide))) (fun c66 => ?_)
          refine z_lload (pc := 69) hZ 3 dV_dropBits_69 rfl ?_
          refine z_lconst (pc := 71) hZ 1 dV_dropBits_71 (by decide) ?_
          refine z_ladd (pc := 72) hZ dV_dropBits_72 (fun v72_11 ev72_11 => ?_)
          refine z_goto (pc := 73) hZ 78 dV_dropBits_73 (by decide) ?_
          exact z_retl (pc := 78) hZ dV_dropBits_78 rfl ⟨_, rfl, rfl, rfl, (by first | exact dr_up (dr_v c3_1 ev10_2 ev17_3 ev18_4 ev24_5 ev25_6) ev72_11 (dr_u1 (dr_v c3_1 ev10_2 ev17_3 ev18_4 ev24_5 ev25_6) c33_7) | exact dr_up (dr_v c3_1 ev10_2 ev17_3 ev18_4 ev24_5 ev25_6) ev72_11 (dr_u2 (dr_v c3_1 ev10_2 ev17_3 ev18_4 ev24_5 ev25_6) c41_9 c45_10) | exact dr_up (dr_v c3_1 ev10_2 ev17_3 ev18_4 ev24_5 ev25_6) ev72_11 (dr_u3 (dr_v c3_1 ev10_2 ev17_3 ev18_4 ev24_5 ev25_6) c41_9 nokey_ nokey_) | exact dr_no (dr_v c3_1 ev10_2 ev17_3 ev18_4 ev24_5 ev25_6) (dr_n1 (dr_v c3_1 ev10_2 ev17_3 ev18_4 ev24_5 ev25_6) c33_7 c41_9) | exact dr_no (dr_v c3_1 ev10_2 ev17_3 ev18_4 ev24_5 ev25_6) (dr_n2 (dr_v c3_1 ev10_2 ev17_3 ev18_4 ev24_5 ev25_6) c33_7 c45_10 nokey_ nokey_))⟩
        · refine z_lload (pc := 48) hZ 2 dV_dropBits_48 rfl ?_
          refine z_lconst (pc := 50) hZ 1 dV_dropBits_50 (by decide) ?_
          refine z_land (pc := 51) hZ dV_dropBits_51 (fun v51_12 ev51_12 => ?_)
          refine z_lconst (pc := 52) hZ 1 dV_dropBits_52 (by decide) ?_
          refine z_lif_ne (pc := 53) hZ 61 dV_dropBits_53 dV_dropBits_54 (by decide) (fun c54_13 => ?_) (fun c54_13 => ?_)
          · refine z_iconst (pc := 61) hZ 0 dV_dropBits_61 (by decide) ?_
            refine z_istore (pc := 62) hZ [(10, .int 0), (8, .long v25_6), (6, .long v18_4), (4, .long v10_2), (0, .long p0), (2, .int p1), (3, .int p2)] dV_dropBits_62 (by decide) rfl ?_
            refine z_iload (pc := 64) hZ 0 dV_dropBits_64 rfl ?_
            refine z_if_eq (pc := 66) hZ 76 dV_dropBits_66 (by decide) (fun c66 => ?_) (fun c9 => False.elim (absurd c9 (by decide)))
            refine z_lload (pc := 76) hZ 3 dV_dropBits_76 rfl ?_
            exact z_retl (pc := 78) hZ dV_dropBits_78 rfl ⟨_, rfl, rfl, rfl, (by first | exact dr_up (dr_v c3_1 ev10_2 ev17_3 ev18_4 ev24_5 ev25_6) nokey_ (dr_u1 (dr_v c3_1 ev10_2 ev17_3 ev18_4 ev24_5 ev25_6) c33_7) | exact dr_up (dr_v c3_1 ev10_2 ev17_3 ev18_4 ev24_5 ev25_6) nokey_ (dr_u2 (dr_v c3_1 ev10_2 ev17_3 ev18_4 ev24_5 ev25_6) c41_9 c45_10) | exact dr_up (dr_v c3_1 ev10_2 ev17_3 ev18_4 ev24_5 ev25_6) nokey_ (dr_u3 (dr_v c3_1 ev10_2 ev17_3 ev18_4 ev24_5 ev25_6) c41_9 ev51_12 c54_13) | exact dr_no (dr_v c3_1 ev10_2 ev17_3 ev18_4 ev24_5 ev25_6) (dr_n1 (dr_v c3_1 ev10_2 ev17_3 ev18_4 ev24_5 ev25_6) c33_7 c41_9) | exact dr_no (dr_v c3_1 ev10_2 ev17_3 ev18_4 ev24_5 ev25_6) (dr_n2 (dr_v c3_1 ev10_2 ev17_3 ev18_4 ev24_5 ev25_6) c33_7 c45_10 ev51_12 c54_13))⟩
          · refine z_iconst (pc := 57) hZ 1 dV_dropBits_57 (by decide) ?_
            refine z_goto (pc := 58) hZ 62 dV_dropBits_58 (by decide) ?_
            refine z_istore (pc := 62) hZ [(10, .int 1), (8, .long v25_6), (6, .long v18_4), (4, .long v10_2), (0, .long p0), (2, .int p1), (3, .int p2)] dV_dropBits_62 (by decide) rfl ?_
            refine z_iload (pc := 64) hZ 0 dV_dropBits_64 rfl ?_
            refine z_if_eq (pc := 66) hZ 76 dV_dropBits_66 (by decide) (fun c9 => False.elim (absurd c9 (by decide))) (fun c66 => ?_)
            refine z_lload (pc := 69) hZ 3 dV_dropBits_69 rfl ?_
            refine z_lconst (pc := 71) hZ 1 dV_dropBits_71 (by decide) ?_
            refine z_ladd (pc := 72) hZ dV_dropBits_72 (fun v72_14 ev72_14 => ?_)
            refine z_goto (pc := 73) hZ 78 dV_dropBits_73 (by decide) ?_
            exact z_retl (pc := 78) hZ dV_dropBits_78 rfl ⟨_, rfl, rfl, rfl, (by first | exact dr_up (dr_v c3_1 ev10_2 ev17_3 ev18_4 ev24_5 ev25_6) ev72_14 (dr_u1 (dr_v c3_1 ev10_2 ev17_3 ev18_4 ev24_5 ev25_6) c33_7) | exact dr_up (dr_v c3_1 ev10_2 ev17_3 ev18_4 ev24_5 ev25_6) ev72_14 (dr_u2 (dr_v c3_1 ev10_2 ev17_3 ev18_4 ev24_5 ev25_6) c41_9 c45_10) | exact dr_up (dr_v c3_1 ev10_2 ev17_3 ev18_4 ev24_5 ev25_6) ev72_14 (dr_u3 (dr_v c3_1 ev10_2 ev17_3 ev18_4 ev24_5 ev25_6) c41_9 ev51_12 c54_13) | exact dr_no (dr_v c3_1 ev10_2 ev17_3 ev18_4 ev24_5 ev25_6) (dr_n1 (dr_v c3_1 ev10_2 ev17_3 ev18_4 ev24_5 ev25_6) c33_7 c41_9) | exact dr_no (dr_v c3_1 ev10_2 ev17_3 ev18_4 ev24_5 ev25_6) (dr_n2 (dr_v c3_1 ev10_2 ev17_3 ev18_4 ev24_5 ev25_6) c33_7 c45_10 ev51_12 c54_13))⟩
  · refine z_lconst (pc := 6) hZ 0 dV_dropBits_6 (by decide) ?_
    exact z_retl (pc := 7) hZ dV_dropBits_7 rfl ⟨_, rfl, rfl, rfl, (by exact dr_0 c3_1)⟩
set_option maxHeartbeats 4000000 in
set_option maxRecDepth 100000 in
theorem cV_setNearest (l : Launch) (D : va_G) (tys : zT) (X : va_W) (LP : List Nat) (f : Nat → V3) (a0 : Nat) (h_a0 : a0 ∈ LP) (p1 : Int32) (p2 : Int64) (p3 : Int32) (p4 : Int32) : zM l D vwCl zNF zNM yV_setNearest wsV_setNearest { frames := 2, cells := 0, slots := 0, locals := 43 } [.ref a0, .int p1, .long p2, .int p3, .int p4] (X ++ PL LP f) tys (qV (fun w' tys' => ∃ f' : Nat → V3, X ++ PL LP f' = w' ∧ tys = tys' ∧ (SNC p2 p4 → ∃ v, f' = va_up f a0 v ∧ CA v (rnd (bb p1) (un p2 * 2 ^ (p4.toInt + (OFF : Int)).toNat) (bb p3))))) := by
  refine z_met (cc := bV_setNearest) (maxL := 12) (ret := none) (isI := false) (own := RV) (by decide +kernel) rfl rfl (fun h => by cases h) (Nat.le_of_ble_eq_true rfl) (fun Z hZ => ?_)
  show Z 0 0 tys 0 [(0, .ref a0), (1, .int p1), (2, .long p2), (4, .int p3), (5, .int p4)] [] (X ++ PL LP f)
  refine z_bipush (pc := 0) hZ 64 dV_setNearest_0 (by decide) ?_
  refine z_lload_n (pc := 2) hZ 2 dV_setNearest_2 rfl rfl ?_
  refine z_callS (pc := 3) (As := [.long p2]) (rest := [.int 64]) hZ (cJL_numberOfLeadingZeros l D tys (X ++ PL LP f) p2) zyJL_numberOfLeadingZeros (z_goodS ml_V_30 st_JL_numberOfLeadingZeros in_JL co_JL_numberOfLeadingZeros) rfl rfl (by decide) rfl rfl (Nat.le_of_ble_eq_true rfl) ⟨Nat.zero_le _, Nat.zero_le _⟩ dV_setNearest_3 (z_ki (fun r3_1 w1 tys1 hp => ?_))
  obtain ⟨rfl, rfl, p3_1⟩ := hp
  refine z_isub (pc := 6) hZ dV_setNearest_6 (fun v6_2 ev6_2 => ?_)
  refine z_istore (pc := 7) hZ [(6, .int v6_2), (0, .ref a0), (1, .int p1), (2, .long p2), (4, .int p3), (5, .int p4)] dV_setNearest_7 (by decide) rfl ?_
  refine z_iload (pc := 9) hZ 5 dV_setNearest_9 rfl ?_
  refine z_iload (pc := 11) hZ 0 dV_setNearest_11 rfl ?_
  refine z_iadd (pc := 13) hZ dV_setNearest_13 (fun v13_3 ev13_3 => ?_)
  refine z_bipush (pc := 14) hZ 53 dV_setNearest_14 (by decide) ?_
  refine z_isub (pc := 16) hZ dV_setNearest_16 (fun v16_4 ev16_4 => ?_)
  refine z_sipush (pc := 17) hZ (-1074) dV_setNearest_17 (by decide) ?_
  refine z_mmax (pc := 20) hZ (zb ml_V_36) (zb st_JM_max) (zb in_Math) (zb co_JM_max) (by decide) (Nat.le_of_ble_eq_true rfl) (Nat.zero_le _) (Nat.zero_le _) dV_setNearest_20 (fun v20_5 ev20_5 => ?_)
  refine z_iload (pc := 23) hZ 5 dV_setNearest_23 rfl ?_
  refine z_isub (pc := 25) hZ dV_setNearest_25 (fun v25_6 ev25_6 => ?_)
  refine z_istore (pc := 26) hZ [(7, .int v25_6), (6, .int v6_2), (0, .ref a0), (1, .int p1), (2, .long p2), (4, .int p3), (5, .int p4)] dV_setNearest_26 (by decide) rfl ?_
  refine z_iload (pc := 28) hZ 0 dV_setNearest_28 rfl ?_
  refine z_if_le (pc := 30) hZ 44 dV_setNearest_30 (by decide) (fun c30_7 => ?_) (fun c30_7 => ?_)
  · refine z_lload_n (pc := 44) hZ 4 dV_setNearest_44 rfl rfl ?_
    refine z_lstore (pc := 45) hZ [(8, .long p2), (7, .int v25_6), (6, .int v6_2), (0, .ref a0), (1, .int p1), (2, .long p2), (4, .int p3), (5, .int p4)] dV_setNearest_45 (by decide) rfl ?_
    refine z_iload (pc := 47) hZ 1 dV_setNearest_47 rfl ?_
    refine z_if_le (pc := 49) hZ 60 dV_setNearest_49 (by decide) (fun c49 => ?_) (fun c9 => False.elim (by first | exact absurd c9 c30_7 | exact absurd c30_7 c9 | exact absurd c9 (Int32.not_lt.mpr c30_7) | exact absurd c9 (Int32.not_le.mpr c30_7) | exact c9 ((Int32.not_lt).mp c30_7) | exact c9 ((Int32.not_le).mp c30_7)))
    refine z_iload (pc := 60) hZ 7 dV_setNearest_60 rfl ?_
    refine z_istore (pc := 62) hZ [(10, .int p4), (8, .long p2), (7, .int v25_6), (6, .int v6_2), (0, .ref a0), (1, .int p1), (2, .long p2), (4, .int p3), (5, .int p4)] dV_setNearest_62 (by decide) rfl ?_
    have HM : SNC p2 p4 → NMM p2 p4 (RBv p2 p4 (bb p3)) := by first | exact fun hc => sn_1 hc p3_1 ev6_2 ev13_3 ev16_4 ev20_5 ev25_6 c30_7 nokey_ nokey_ | exact fun hc => sn_2 hc p3_1 ev6_2 ev13_3 ev16_4 ev20_5 ev25_6 c30_7
    refine z_lload (pc := 64) hZ 1 dV_setNearest_64 rfl ?_
    refine z_lconst (pc := 66) hZ 0 dV_setNearest_66 (by decide) ?_
    refine z_lif_ne (pc := 67) hZ 78 dV_setNearest_67 dV_setNearest_68 (by decide) (fun c68_8 => ?_) (fun c68_8 => ?_)
    · refine z_bipush (pc := 78) hZ 64 dV_setNearest_78 (by decide) ?_
      refine z_lload (pc := 80) hZ 1 dV_setNearest_80 rfl ?_
      refine z_callS (pc := 82) (As := [.long p2]) (rest := [.int 64]) hZ (cJL_numberOfLeadingZeros l D tys (X ++ PL LP f) p2) zyJL_numberOfLeadingZeros (z_goodS ml_V_30 st_JL_numberOfLeadingZeros in_JL co_JL_numberOfLeadingZeros) rfl rfl (by decide) rfl rfl (Nat.le_of_ble_eq_true rfl) ⟨Nat.zero_le _, Nat.zero_le _⟩ dV_setNearest_82 (z_ki (fun r82_9 w1 tys1 hp => ?_))
      obtain ⟨rfl, rfl, p82_9⟩ := hp
      refine z_isub (pc := 85) hZ dV_setNearest_85 (fun v85_10 ev85_10 => ?_)
      refine z_iload (pc := 86) hZ 0 dV_setNearest_86 rfl ?_
      refine z_iadd (pc := 88) hZ dV_setNearest_88 (fun v88_11 ev88_11 => ?_)
      refine z_sipush (pc := 89) hZ 1024 dV_setNearest_89 (by decide) ?_
      refine z_icmp_le (pc := 92) hZ 103 dV_setNearest_92 (by decide) (fun c92_12 => ?_) (fun c92_12 => ?_)
      · refine z_lload (pc := 103) hZ 1 dV_setNearest_103 rfl ?_
        refine z_callS (pc := 105) (As := [.long p2]) (rest := []) hZ (cJL_numberOfTrailingZeros l D tys (X ++ PL LP f) p2) zyJL_numberOfTrailingZeros (z_goodS ml_V_53 st_JL_numberOfTrailingZeros in_JL co_JL_numberOfTrailingZeros) rfl rfl (by decide) rfl rfl (Nat.le_of_ble_eq_true rfl) ⟨Nat.zero_le _, Nat.zero_le _⟩ dV_setNearest_105 (z_ki (fun r105_13 w1 tys1 hp => ?_))
        obtain ⟨rfl, rfl, p105_13⟩ := hp
        refine z_sipush (pc := 108) hZ 971 dV_setNearest_108 (by decide) ?_
        refine z_iload (pc := 111) hZ 0 dV_setNearest_111 rfl ?_
        refine z_isub (pc := 113) hZ dV_setNearest_113 (fun v113_14 ev113_14 => ?_)
        refine z_mmin (pc := 114) hZ (zb ml_V_56) (zb st_JM_min) (zb in_Math) (zb co_JM_min) (by decide) (Nat.le_of_ble_eq_true rfl) (Nat.zero_le _) (Nat.zero_le _) dV_setNearest_114 (fun v114_15 ev114_15 => ?_)
        refine z_istore (pc := 117) hZ [(11, .int v114_15), (10, .int p4), (8, .long p2), (7, .int v25_6), (6, .int v6_2), (0, .ref a0), (1, .int p1), (2, .long p2), (4, .int p3), (5, .int p4)] dV_setNearest_117 (by decide) rfl ?_
        refine z_iload (pc := 119) hZ 0 dV_setNearest_119 rfl ?_
        refine z_if_lt (pc := 121) hZ 132 dV_setNearest_121 (by decide) (fun c121_16 => ?_) (fun c121_16 => ?_)
        · refine z_lload (pc := 132) hZ 2 dV_setNearest_132 rfl ?_
          refine z_iload (pc := 134) hZ 0 dV_setNearest_134 rfl ?_
          refine z_ineg (pc := 136) hZ dV_setNearest_136 (fun v136_17 ev136_17 => ?_)
          refine z_lshl (pc := 137) hZ dV_setNearest_137 (fun v137_18 ev137_18 => ?_)
          refine z_lstore (pc := 138) hZ [(8, .long v137_18), (11, .int v114_15), (10, .int p4), (7, .int v25_6), (6, .int v6_2), (0, .ref a0), (1, .int p1), (2, .long p2), (4, .int p3), (5, .int p4)] dV_setNearest_138 (by decide) rfl ?_
          refine z_aload_n (pc := 140) hZ 5 dV_setNearest_140 rfl rfl ?_
          refine z_iconst (pc := 141) hZ 2 dV_setNearest_141 (by decide) ?_
          refine z_pp0 (pc := 142) hZ h_a0 uc_V (zb fl_V_9) dV_setNearest_142 (fun f142_18 ef142_18 => ?_)
          refine z_aload_n (pc := 145) hZ 5 dV_setNearest_145 rfl rfl ?_
          refine z_iload_n (pc := 146) hZ 6 dV_setNearest_146 rfl rfl ?_
          refine z_if_eq (pc := 147) hZ 156 dV_setNearest_147 (by decide) (fun c147_20 => ?_) (fun c147_20 => ?_)
          · refine z_lload (pc := 156) hZ 0 dV_setNearest_156 rfl ?_
            refine z_pp1 (pc := 158) hZ h_a0 uc_V (zb fl_V_15) dV_setNearest_158 (fun f158_20 ef158_20 => ?_)
            refine z_aload_n (pc := 161) hZ 5 dV_setNearest_161 rfl rfl ?_
            refine z_iload (pc := 162) hZ 2 dV_setNearest_162 rfl ?_
            refine z_iload (pc := 164) hZ 1 dV_setNearest_164 rfl ?_
            refine z_iadd (pc := 166) hZ dV_setNearest_166 (fun v166_22 ev166_22 => ?_)
            refine z_pp2 (pc := 167) hZ h_a0 uc_V (zb fl_V_19) dV_setNearest_167 (fun f167_22 ef167_22 => ?_)
            exact z_retv (pc := 170) hZ dV_setNearest_170 rfl ⟨rfl, _, rfl, rfl, (by first | exact fun hc => ⟨_, nokey_, sn_z (HM hc) c68_8⟩ | exact fun hc => ⟨_, nokey_, sn_i (HM hc) p82_9 ev85_10 ev88_11 c92_12 c68_8⟩ | exact fun hc => ⟨_, st_3 ef142_18 ef158_20 ef167_22, sn_s0 (sn_u (HM hc) p82_9 ev85_10 ev88_11 c92_12 c68_8 p105_13 ev113_14 ev114_15 c121_16 nokey_ ev166_22) c147_20⟩ | exact fun hc => ⟨_, st_3 ef142_18 ef158_20 ef167_22, sn_s1 (sn_u (HM hc) p82_9 ev85_10 ev88_11 c92_12 c68_8 p105_13 ev113_14 ev114_15 c121_16 nokey_ ev166_22) c147_20 nokey_⟩ | exact fun hc => ⟨_, st_3 ef142_18 ef158_20 ef167_22, sn_s0 (sn_l (HM hc) p82_9 ev85_10 ev88_11 c92_12 c68_8 p105_13 ev113_14 ev114_15 c121_16 ev136_17 ev137_18 ev166_22) c147_20⟩ | exact fun hc => ⟨_, st_3 ef142_18 ef158_20 ef167_22, sn_s1 (sn_l (HM hc) p82_9 ev85_10 ev88_11 c92_12 c68_8 p105_13 ev113_14 ev114_15 c121_16 ev136_17 ev137_18 ev166_22) c147_20 nokey_⟩)⟩
          · refine z_lload (pc := 150) hZ 0 dV_setNearest_150 rfl ?_
            refine z_lneg (pc := 152) hZ dV_setNearest_152 (fun v152_24 ev152_24 => ?_)
            refine z_goto (pc := 153) hZ 158 dV_setNearest_153 (by decide) ?_
            refine z_pp1 (pc := 158) hZ h_a0 uc_V (zb fl_V_15) dV_setNearest_158 (fun f158_24 ef158_24 => ?_)
            refine z_aload_n (pc := 161) hZ 5 dV_setNearest_161 rfl rfl ?_
            refine z_iload (pc := 162) hZ 2 dV_setNearest_162 rfl ?_
            refine z_iload (pc := 164) hZ 1 dV_setNearest_164 rfl ?_
            refine z_iadd (pc := 166) hZ dV_setNearest_166 (fun v166_26 ev166_26 => ?_)
            refine z_pp2 (pc := 167) hZ h_a0 uc_V (zb fl_V_19) dV_setNearest_167 (fun f167_26 ef167_26 => ?_)
            exact z_retv (pc := 170) hZ dV_setNearest_170 rfl ⟨rfl, _, rfl, rfl, (by first | exact fun hc => ⟨_, nokey_, sn_z (HM hc) c68_8⟩ | exact fun hc => ⟨_, nokey_, sn_i (HM hc) p82_9 ev85_10 ev88_11 c92_12 c68_8⟩ | exact fun hc => ⟨_, st_3 ef142_18 ef158_24 ef167_26, sn_s0 (sn_u (HM hc) p82_9 ev85_10 ev88_11 c92_12 c68_8 p105_13 ev113_14 ev114_15 c121_16 nokey_ ev166_26) c147_20⟩ | exact fun hc => ⟨_, st_3 ef142_18 ef158_24 ef167_26, sn_s1 (sn_u (HM hc) p82_9 ev85_10 ev88_11 c92_12 c68_8 p105_13 ev113_14 ev114_15 c121_16 nokey_ ev166_26) c147_20 ev152_24⟩ | exact fun hc => ⟨_, st_3 ef142_18 ef158_24 ef167_26, sn_s0 (sn_l (HM hc) p82_9 ev85_10 ev88_11 c92_12 c68_8 p105_13 ev113_14 ev114_15 c121_16 ev136_17 ev137_18 ev166_26) c147_20⟩ | exact fun hc => ⟨_, st_3 ef142_18 ef158_24 ef167_26, sn_s1 (sn_l (HM hc) p82_9 ev85_10 ev88_11 c92_12 c68_8 p105_13 ev113_14 ev114_15 c121_16 ev136_17 ev137_18 ev166_26) c147_20 ev152_24⟩)⟩
        · refine z_lload (pc := 124) hZ 2 dV_setNearest_124 rfl ?_
          refine z_iload (pc := 126) hZ 0 dV_setNearest_126 rfl ?_
          refine z_lushr (pc := 128) hZ dV_setNearest_128 (fun v128_28 ev128_28 => ?_)
          refine z_goto (pc := 129) hZ 138 dV_setNearest_129 (by decide) ?_
          refine z_lstore (pc := 138) hZ [(8, .long v128_28), (11, .int v114_15), (10, .int p4), (7, .int v25_6), (6, .int v6_2), (0, .ref a0), (1, .int p1), (2, .long p2), (4, .int p3), (5, .int p4)] dV_setNearest_138 (by decide) rfl ?_
          refine z_aload_n (pc := 140) hZ 5 dV_setNearest_140 rfl rfl ?_
          refine z_iconst (pc := 141) hZ 2 dV_setNearest_141 (by decide) ?_
          refine z_pp0 (pc := 142) hZ h_a0 uc_V (zb fl_V_9) dV_setNearest_142 (fun f142_28 ef142_28 => ?_)
          refine z_aload_n (pc := 145) hZ 5 dV_setNearest_145 rfl rfl ?_
          refine z_iload_n (pc := 146) hZ 6 dV_setNearest_146 rfl rfl ?_
          refine z_if_eq (pc := 147) hZ 156 dV_setNearest_147 (by decide) (fun c147_30 => ?_) (fun c147_30 => ?_)
          · refine z_lload (pc := 156) hZ 0 dV_setNearest_156 rfl ?_
            refine z_pp1 (pc := 158) hZ h_a0 uc_V (zb fl_V_15) dV_setNearest_158 (fun f158_30 ef158_30 => ?_)
            refine z_aload_n (pc := 161) hZ 5 dV_setNearest_161 rfl rfl ?_
            refine z_iload (pc := 162) hZ 2 dV_setNearest_162 rfl ?_
            refine z_iload (pc := 164) hZ 1 dV_setNearest_164 rfl ?_
            refine z_iadd (pc := 166) hZ dV_setNearest_166 (fun v166_32 ev166_32 => ?_)
            refine z_pp2 (pc := 167) hZ h_a0 uc_V (zb fl_V_19) dV_setNearest_167 (fun f167_32 ef167_32 => ?_)
            exact z_retv (pc := 170) hZ dV_setNearest_170 rfl ⟨rfl, _, rfl, rfl, (by first | exact fun hc => ⟨_, nokey_, sn_z (HM hc) c68_8⟩ | exact fun hc => ⟨_, nokey_, sn_i (HM hc) p82_9 ev85_10 ev88_11 c92_12 c68_8⟩ | exact fun hc => ⟨_, st_3 ef142_28 ef158_30 ef167_32, sn_s0 (sn_u (HM hc) p82_9 ev85_10 ev88_11 c92_12 c68_8 p105_13 ev113_14 ev114_15 c121_16 ev128_28 ev166_32) c147_30⟩ | exact fun hc => ⟨_, st_3 ef142_28 ef158_30 ef167_32, sn_s1 (sn_u (HM hc) p82_9 ev85_10 ev88_11 c92_12 c68_8 p105_13 ev113_14 ev114_15 c121_16 ev128_28 ev166_32) c147_30 nokey_⟩ | exact fun hc => ⟨_, st_3 ef142_28 ef158_30 ef167_32, sn_s0 (sn_l (HM hc) p82_9 ev85_10 ev88_11 c92_12 c68_8 p105_13 ev113_14 ev114_15 c121_16 nokey_ nokey_ ev166_32) c147_30⟩ | exact fun hc => ⟨_, st_3 ef142_28 ef158_30 ef167_32, sn_s1 (sn_l (HM hc) p82_9 ev85_10 ev88_11 c92_12 c68_8 p105_13 ev113_14 ev114_15 c121_16 nokey_ nokey_ ev166_32) c147_30 nokey_⟩)⟩
          · refine z_lload (pc := 150) hZ 0 dV_setNearest_150 rfl ?_
            refine z_lneg (pc := 152) hZ dV_setNearest_152 (fun v152_34 ev152_34 => ?_)
            refine z_goto (pc := 153) hZ 158 dV_setNearest_153 (by decide) ?_
            refine z_pp1 (pc := 158) hZ h_a0 uc_V (zb fl_V_15) dV_setNearest_158 (fun f158_34 ef158_34 => ?_)
            refine z_aload_n (pc := 161) hZ 5 dV_setNearest_161 rfl rfl ?_
            refine z_iload (pc := 162) hZ 2 dV_setNearest_162 rfl ?_
            refine z_iload (pc := 164) hZ 1 dV_setNearest_164 rfl ?_
            refine z_iadd (pc := 166) hZ dV_setNearest_166 (fun v166_36 ev166_36 => ?_)
            refine z_pp2 (pc := 167) hZ h_a0 uc_V (zb fl_V_19) dV_setNearest_167 (fun f167_36 ef167_36 => ?_)
            exact z_retv (pc := 170) hZ dV_setNearest_170 rfl ⟨rfl, _, rfl, rfl, (by first | exact fun hc => ⟨_, nokey_, sn_z (HM hc) c68_8⟩ | exact fun hc => ⟨_, nokey_, sn_i (HM hc) p82_9 ev85_10 ev88_11 c92_12 c68_8⟩ | exact fun hc => ⟨_, st_3 ef142_28 ef158_34 ef167_36, sn_s0 (sn_u (HM hc) p82_9 ev85_10 ev88_11 c92_12 c68_8 p105_13 ev113_14 ev114_15 c121_16 ev128_28 ev166_36) c147_30⟩ | exact fun hc => ⟨_, st_3 ef142_28 ef158_34 ef167_36, sn_s1 (sn_u (HM hc) p82_9 ev85_10 ev88_11 c92_12 c68_8 p105_13 ev113_14 ev114_15 c121_16 ev128_28 ev166_36) c147_30 ev152_34⟩ | exact fun hc => ⟨_, st_3 ef142_28 ef158_34 ef167_36, sn_s0 (sn_l (HM hc) p82_9 ev85_10 ev88_11 c92_12 c68_8 p105_13 ev113_14 ev114_15 c121_16 nokey_ nokey_ ev166_36) c147_30⟩ | exact fun hc => ⟨_, st_3 ef142_28 ef158_34 ef167_36, sn_s1 (sn_l (HM hc) p82_9 ev85_10 ev88_11 c92_12 c68_8 p105_13 ev113_14 ev114_15 c121_16 nokey_ nokey_ ev166_36) c147_30 ev152_34⟩)⟩
      · refine z_aload_n (pc := 95) hZ 4 dV_setNearest_95 rfl rfl ?_
        refine z_iload_n (pc := 96) hZ 5 dV_setNearest_96 rfl rfl ?_
        obtain ⟨q97_38, hq97_38⟩ := zp_at (X := X) (f := f) h_a0
        refine z_callV (pc := 97) (As := [.int p1]) (rest := []) hZ (cV_setInfinity l D tys X LP f a0 h_a0 p1) zyV_setInfinity (z_goodV ml_V_49 im_V_setInfinity se_V_setInfinity in_V co_V_setInfinity) q97_38 hq97_38 rfl rfl rfl (by decide) rfl rfl (Nat.le_of_ble_eq_true rfl) ⟨Nat.zero_le _, Nat.zero_le _⟩ dV_setNearest_97 (z_kv (fun w1 tys1 hp => ?_))
        obtain ⟨f97_38, rfl, rfl, p97_38⟩ := hp
        refine z_goto (pc := 100) hZ 170 dV_setNearest_100 (by decide) ?_
        exact z_retv (pc := 170) hZ dV_setNearest_170 rfl ⟨rfl, _, rfl, rfl, (by first | exact fun hc => ⟨_, nokey_, sn_z (HM hc) c68_8⟩ | exact fun hc => ⟨_, p97_38, sn_i (HM hc) p82_9 ev85_10 ev88_11 c92_12 c68_8⟩ | exact fun hc => ⟨_, st_3 nokey_ nokey_ nokey_, sn_s0 (sn_u (HM hc) p82_9 ev85_10 ev88_11 c92_12 c68_8 nokey_ nokey_ nokey_ nokey_ nokey_ nokey_) nokey_⟩ | exact fun hc => ⟨_, st_3 nokey_ nokey_ nokey_, sn_s1 (sn_u (HM hc) p82_9 ev85_10 ev88_11 c92_12 c68_8 nokey_ nokey_ nokey_ nokey_ nokey_ nokey_) nokey_ nokey_⟩ | exact fun hc => ⟨_, st_3 nokey_ nokey_ nokey_, sn_s0 (sn_l (HM hc) p82_9 ev85_10 ev88_11 c92_12 c68_8 nokey_ nokey_ nokey_ nokey_ nokey_ nokey_ nokey_) nokey_⟩ | exact fun hc => ⟨_, st_3 nokey_ nokey_ nokey_, sn_s1 (sn_l (HM hc) p82_9 ev85_10 ev88_11 c92_12 c68_8 nokey_ nokey_ nokey_ nokey_ nokey_ nokey_ nokey_) nokey_ nokey_⟩)⟩
    · refine z_aload_n (pc := 71) hZ 4 dV_setNearest_71 rfl rfl ?_
      obtain ⟨q72_39, hq72_39⟩ := zp_at (X := X) (f := f) h_a0
      refine z_callV (pc := 72) (As := []) (rest := []) hZ (cV_setZero l D tys X LP f a0 h_a0) zyV_setZero (z_goodV ml_V_46 im_V_setZero se_V_setZero in_V co_V_setZero) q72_39 hq72_39 rfl rfl rfl (by decide) rfl rfl (Nat.le_of_ble_eq_true rfl) ⟨Nat.zero_le _, Nat.zero_le _⟩ dV_setNearest_72 (z_kv (fun w1 tys1 hp => ?_))
      obtain ⟨f72_39, rfl, rfl, p72_39⟩ := hp
      refine z_goto (pc := 75) hZ 170 dV_setNearest_75 (by decide) ?_
      exact z_retv (pc := 170) hZ dV_setNearest_170 rfl ⟨rfl, _, rfl, rfl, (by first | exact fun hc => ⟨_, p72_39, sn_z (HM hc) c68_8⟩ | exact fun hc => ⟨_, nokey_, sn_i (HM hc) nokey_ nokey_ nokey_ nokey_ c68_8⟩ | exact fun hc => ⟨_, st_3 nokey_ nokey_ nokey_, sn_s0 (sn_u (HM hc) nokey_ nokey_ nokey_ nokey_ c68_8 nokey_ nokey_ nokey_ nokey_ nokey_ nokey_) nokey_⟩ | exact fun hc => ⟨_, st_3 nokey_ nokey_ nokey_, sn_s1 (sn_u (HM hc) nokey_ nokey_ nokey_ nokey_ c68_8 nokey_ nokey_ nokey_ nokey_ nokey_ nokey_) nokey_ nokey_⟩ | exact fun hc => ⟨_, st_3 nokey_ nokey_ nokey_, sn_s0 (sn_l (HM hc) nokey_ nokey_ nokey_ nokey_ c68_8 nokey_ nokey_ nokey_ nokey_ nokey_ nokey_ nokey_) nokey_⟩ | exact fun hc => ⟨_, st_3 nokey_ nokey_ nokey_, sn_s1 (sn_l (HM hc) nokey_ nokey_ nokey_ nokey_ c68_8 nokey_ nokey_ nokey_ nokey_ nokey_ nokey_ nokey_) nokey_ nokey_⟩)⟩
  · refine z_lload_n (pc := 33) hZ 4 dV_setNearest_33 rfl rfl ?_
    refine z_iload (pc := 34) hZ 5 dV_setNearest_34 rfl ?_
    refine z_iload (pc := 36) hZ 0 dV_setNearest_36 rfl ?_
    refine z_callS (pc := 38) (As := [.long p2, .int p3, .int v25_6]) (rest := []) hZ (cV_dropBits l D tys (X ++ PL LP f) p2 p3 v25_6) zyV_dropBits (z_goodS ml_V_42 st_V_dropBits in_V co_V_dropBits) rfl rfl (by decide) rfl rfl (Nat.le_of_ble_eq_true rfl) ⟨Nat.zero_le _, Nat.zero_le _⟩ dV_setNearest_38 (z_kl (fun r38_40 w1 tys1 hp => ?_))
    obtain ⟨rfl, rfl, p38_40⟩ := hp
    refine z_goto (pc := 41) hZ 45 dV_setNearest_41 (by decide) ?_
    refine z_lstore (pc := 45) hZ [(8, .long r38_40), (7, .int v25_6), (6, .int v6_2), (0, .ref a0), (1, .int p1), (2, .long p2), (4, .int p3), (5, .int p4)] dV_setNearest_45 (by decide) rfl ?_
    refine z_iload (pc := 47) hZ 1 dV_setNearest_47 rfl ?_
    refine z_if_le (pc := 49) hZ 60 dV_setNearest_49 (by decide) (fun c9 => False.elim (by first | exact absurd c9 c30_7 | exact absurd c30_7 c9 | exact absurd c9 (Int32.not_lt.mpr c30_7) | exact absurd c9 (Int32.not_le.mpr c30_7) | exact c9 ((Int32.not_lt).mp c30_7) | exact c9 ((Int32.not_le).mp c30_7))) (fun c49 => ?_)
    refine z_iload (pc := 52) hZ 7 dV_setNearest_52 rfl ?_
    refine z_iload (pc := 54) hZ 1 dV_setNearest_54 rfl ?_
    refine z_iadd (pc := 56) hZ dV_setNearest_56 (fun v56_41 ev56_41 => ?_)
    refine z_goto (pc := 57) hZ 62 dV_setNearest_57 (by decide) ?_
    refine z_istore (pc := 62) hZ [(10, .int v56_41), (8, .long r38_40), (7, .int v25_6), (6, .int v6_2), (0, .ref a0), (1, .int p1), (2, .long p2), (4, .int p3), (5, .int p4)] dV_setNearest_62 (by decide) rfl ?_
    have HM : SNC p2 p4 → NMM r38_40 v56_41 (RBv p2 p4 (bb p3)) := by first | exact fun hc => sn_1 hc p3_1 ev6_2 ev13_3 ev16_4 ev20_5 ev25_6 c30_7 p38_40 ev56_41 | exact fun hc => sn_2 hc p3_1 ev6_2 ev13_3 ev16_4 ev20_5 ev25_6 c30_7
    refine z_lload (pc := 64) hZ 1 dV_setNearest_64 rfl ?_
    refine z_lconst (pc := 66) hZ 0 dV_setNearest_66 (by decide) ?_
    refine z_lif_ne (pc := 67) hZ 78 dV_setNearest_67 dV_setNearest_68 (by decide) (fun c68_42 => ?_) (fun c68_42 => ?_)
    · refine z_bipush (pc := 78) hZ 64 dV_setNearest_78 (by decide) ?_
      refine z_lload (pc := 80) hZ 1 dV_setNearest_80 rfl ?_
      refine z_callS (pc := 82) (As := [.long r38_40]) (rest := [.int 64]) hZ (cJL_numberOfLeadingZeros l D tys (X ++ PL LP f) r38_40) zyJL_numberOfLeadingZeros (z_goodS ml_V_30 st_JL_numberOfLeadingZeros in_JL co_JL_numberOfLeadingZeros) rfl rfl (by decide) rfl rfl (Nat.le_of_ble_eq_true rfl) ⟨Nat.zero_le _, Nat.zero_le _⟩ dV_setNearest_82 (z_ki (fun r82_43 w1 tys1 hp => ?_))
      obtain ⟨rfl, rfl, p82_43⟩ := hp
      refine z_isub (pc := 85) hZ dV_setNearest_85 (fun v85_44 ev85_44 => ?_)
      refine z_iload (pc := 86) hZ 0 dV_setNearest_86 rfl ?_
      refine z_iadd (pc := 88) hZ dV_setNearest_88 (fun v88_45 ev88_45 => ?_)
      refine z_sipush (pc := 89) hZ 1024 dV_setNearest_89 (by decide) ?_
      refine z_icmp_le (pc := 92) hZ 103 dV_setNearest_92 (by decide) (fun c92_46 => ?_) (fun c92_46 => ?_)
      · refine z_lload (pc := 103) hZ 1 dV_setNearest_103 rfl ?_
        refine z_callS (pc := 105) (As := [.long r38_40]) (rest := []) hZ (cJL_numberOfTrailingZeros l D tys (X ++ PL LP f) r38_40) zyJL_numberOfTrailingZeros (z_goodS ml_V_53 st_JL_numberOfTrailingZeros in_JL co_JL_numberOfTrailingZeros) rfl rfl (by decide) rfl rfl (Nat.le_of_ble_eq_true rfl) ⟨Nat.zero_le _, Nat.zero_le _⟩ dV_setNearest_105 (z_ki (fun r105_47 w1 tys1 hp => ?_))
        obtain ⟨rfl, rfl, p105_47⟩ := hp
        refine z_sipush (pc := 108) hZ 971 dV_setNearest_108 (by decide) ?_
        refine z_iload (pc := 111) hZ 0 dV_setNearest_111 rfl ?_
        refine z_isub (pc := 113) hZ dV_setNearest_113 (fun v113_48 ev113_48 => ?_)
        refine z_mmin (pc := 114) hZ (zb ml_V_56) (zb st_JM_min) (zb in_Math) (zb co_JM_min) (by decide) (Nat.le_of_ble_eq_true rfl) (Nat.zero_le _) (Nat.zero_le _) dV_setNearest_114 (fun v114_49 ev114_49 => ?_)
        refine z_istore (pc := 117) hZ [(11, .int v114_49), (10, .int v56_41), (8, .long r38_40), (7, .int v25_6), (6, .int v6_2), (0, .ref a0), (1, .int p1), (2, .long p2), (4, .int p3), (5, .int p4)] dV_setNearest_117 (by decide) rfl ?_
        refine z_iload (pc := 119) hZ 0 dV_setNearest_119 rfl ?_
        refine z_if_lt (pc := 121) hZ 132 dV_setNearest_121 (by decide) (fun c121_50 => ?_) (fun c121_50 => ?_)
        · refine z_lload (pc := 132) hZ 2 dV_setNearest_132 rfl ?_
          refine z_iload (pc := 134) hZ 0 dV_setNearest_134 rfl ?_
          refine z_ineg (pc := 136) hZ dV_setNearest_136 (fun v136_51 ev136_51 => ?_)
          refine z_lshl (pc := 137) hZ dV_setNearest_137 (fun v137_52 ev137_52 => ?_)
          refine z_lstore (pc := 138) hZ [(8, .long v137_52), (11, .int v114_49), (10, .int v56_41), (7, .int v25_6), (6, .int v6_2), (0, .ref a0), (1, .int p1), (2, .long p2), (4, .int p3), (5, .int p4)] dV_setNearest_138 (by decide) rfl ?_
          refine z_aload_n (pc := 140) hZ 5 dV_setNearest_140 rfl rfl ?_
          refine z_iconst (pc := 141) hZ 2 dV_setNearest_141 (by decide) ?_
          refine z_pp0 (pc := 142) hZ h_a0 uc_V (zb fl_V_9) dV_setNearest_142 (fun f142_52 ef142_52 => ?_)
          refine z_aload_n (pc := 145) hZ 5 dV_setNearest_145 rfl rfl ?_
          refine z_iload_n (pc := 146) hZ 6 dV_setNearest_146 rfl rfl ?_
          refine z_if_eq (pc := 147) hZ 156 dV_setNearest_147 (by decide) (fun c147_54 => ?_) (fun c147_54 => ?_)
          · refine z_lload (pc := 156) hZ 0 dV_setNearest_156 rfl ?_
            refine z_pp1 (pc := 158) hZ h_a0 uc_V (zb fl_V_15) dV_setNearest_158 (fun f158_54 ef158_54 => ?_)
            refine z_aload_n (pc := 161) hZ 5 dV_setNearest_161 rfl rfl ?_
            refine z_iload (pc := 162) hZ 2 dV_setNearest_162 rfl ?_
            refine z_iload (pc := 164) hZ 1 dV_setNearest_164 rfl ?_
            refine z_iadd (pc := 166) hZ dV_setNearest_166 (fun v166_56 ev166_56 => ?_)
            refine z_pp2 (pc := 167) hZ h_a0 uc_V (zb fl_V_19) dV_setNearest_167 (fun f167_56 ef167_56 => ?_)
            exact z_retv (pc := 170) hZ dV_setNearest_170 rfl ⟨rfl, _, rfl, rfl, (by first | exact fun hc => ⟨_, nokey_, sn_z (HM hc) c68_42⟩ | exact fun hc => ⟨_, nokey_, sn_i (HM hc) p82_43 ev85_44 ev88_45 c92_46 c68_42⟩ | exact fun hc => ⟨_, st_3 ef142_52 ef158_54 ef167_56, sn_s0 (sn_u (HM hc) p82_43 ev85_44 ev88_45 c92_46 c68_42 p105_47 ev113_48 ev114_49 c121_50 nokey_ ev166_56) c147_54⟩ | exact fun hc => ⟨_, st_3 ef142_52 ef158_54 ef167_56, sn_s1 (sn_u (HM hc) p82_43 ev85_44 ev88_45 c92_46 c68_42 p105_47 ev113_48 ev114_49 c121_50 nokey_ ev166_56) c147_54 nokey_⟩ | exact fun hc => ⟨_, st_3 ef142_52 ef158_54 ef167_56, sn_s0 (sn_l (HM hc) p82_43 ev85_44 ev88_45 c92_46 c68_42 p105_47 ev113_48 ev114_49 c121_50 ev136_51 ev137_52 ev166_56) c147_54⟩ | exact fun hc => ⟨_, st_3 ef142_52 ef158_54 ef167_56, sn_s1 (sn_l (HM hc) p82_43 ev85_44 ev88_45 c92_46 c68_42 p105_47 ev113_48 ev114_49 c121_50 ev136_51 ev137_52 ev166_56) c147_54 nokey_⟩)⟩
          · refine z_lload (pc := 150) hZ 0 dV_setNearest_150 rfl ?_
            refine z_lneg (pc := 152) hZ dV_setNearest_152 (fun v152_58 ev152_58 => ?_)
            refine z_goto (pc := 153) hZ 158 dV_setNearest_153 (by decide) ?_
            refine z_pp1 (pc := 158) hZ h_a0 uc_V (zb fl_V_15) dV_setNearest_158 (fun f158_58 ef158_58 => ?_)
            refine z_aload_n (pc := 161) hZ 5 dV_setNearest_161 rfl rfl ?_
            refine z_iload (pc := 162) hZ 2 dV_setNearest_162 rfl ?_
            refine z_iload (pc := 164) hZ 1 dV_setNearest_164 rfl ?_
            refine z_iadd (pc := 166) hZ dV_setNearest_166 (fun v166_60 ev166_60 => ?_)
            refine z_pp2 (pc := 167) hZ h_a0 uc_V (zb fl_V_19) dV_setNearest_167 (fun f167_60 ef167_60 => ?_)
            exact z_retv (pc := 170) hZ dV_setNearest_170 rfl ⟨rfl, _, rfl, rfl, (by first | exact fun hc => ⟨_, nokey_, sn_z (HM hc) c68_42⟩ | exact fun hc => ⟨_, nokey_, sn_i (HM hc) p82_43 ev85_44 ev88_45 c92_46 c68_42⟩ | exact fun hc => ⟨_, st_3 ef142_52 ef158_58 ef167_60, sn_s0 (sn_u (HM hc) p82_43 ev85_44 ev88_45 c92_46 c68_42 p105_47 ev113_48 ev114_49 c121_50 nokey_ ev166_60) c147_54⟩ | exact fun hc => ⟨_, st_3 ef142_52 ef158_58 ef167_60, sn_s1 (sn_u (HM hc) p82_43 ev85_44 ev88_45 c92_46 c68_42 p105_47 ev113_48 ev114_49 c121_50 nokey_ ev166_60) c147_54 ev152_58⟩ | exact fun hc => ⟨_, st_3 ef142_52 ef158_58 ef167_60, sn_s0 (sn_l (HM hc) p82_43 ev85_44 ev88_45 c92_46 c68_42 p105_47 ev113_48 ev114_49 c121_50 ev136_51 ev137_52 ev166_60) c147_54⟩ | exact fun hc => ⟨_, st_3 ef142_52 ef158_58 ef167_60, sn_s1 (sn_l (HM hc) p82_43 ev85_44 ev88_45 c92_46 c68_42 p105_47 ev113_48 ev114_49 c121_50 ev136_51 ev137_52 ev166_60) c147_54 ev152_58⟩)⟩
        · refine z_lload (pc := 124) hZ 2 dV_setNearest_124 rfl ?_
          refine z_iload (pc := 126) hZ 0 dV_setNearest_126 rfl ?_
          refine z_lushr (pc := 128) hZ dV_setNearest_128 (fun v128_62 ev128_62 => ?_)
          refine z_goto (pc := 129) hZ 138 dV_setNearest_129 (by decide) ?_
          refine z_lstore (pc := 138) hZ [(8, .long v128_62), (11, .int v114_49), (10, .int v56_41), (7, .int v25_6), (6, .int v6_2), (0, .ref a0), (1, .int p1), (2, .long p2), (4, .int p3), (5, .int p4)] dV_setNearest_138 (by decide) rfl ?_
          refine z_aload_n (pc := 140) hZ 5 dV_setNearest_140 rfl rfl ?_
          refine z_iconst (pc := 141) hZ 2 dV_setNearest_141 (by decide) ?_
          refine z_pp0 (pc := 142) hZ h_a0 uc_V (zb fl_V_9) dV_setNearest_142 (fun f142_62 ef142_62 => ?_)
          refine z_aload_n (pc := 145) hZ 5 dV_setNearest_145 rfl rfl ?_
          refine z_iload_n (pc := 146) hZ 6 dV_setNearest_146 rfl rfl ?_
          refine z_if_eq (pc := 147) hZ 156 dV_setNearest_147 (by decide) (fun c147_64 => ?_) (fun c147_64 => ?_)
          · refine z_lload (pc := 156) hZ 0 dV_setNearest_156 rfl ?_
            refine z_pp1 (pc := 158) hZ h_a0 uc_V (zb fl_V_15) dV_setNearest_158 (fun f158_64 ef158_64 => ?_)
            refine z_aload_n (pc := 161) hZ 5 dV_setNearest_161 rfl rfl ?_
            refine z_iload (pc := 162) hZ 2 dV_setNearest_162 rfl ?_
            refine z_iload (pc := 164) hZ 1 dV_setNearest_164 rfl ?_
            refine z_iadd (pc := 166) hZ dV_setNearest_166 (fun v166_66 ev166_66 => ?_)
            refine z_pp2 (pc := 167) hZ h_a0 uc_V (zb fl_V_19) dV_setNearest_167 (fun f167_66 ef167_66 => ?_)
            exact z_retv (pc := 170) hZ dV_setNearest_170 rfl ⟨rfl, _, rfl, rfl, (by first | exact fun hc => ⟨_, nokey_, sn_z (HM hc) c68_42⟩ | exact fun hc => ⟨_, nokey_, sn_i (HM hc) p82_43 ev85_44 ev88_45 c92_46 c68_42⟩ | exact fun hc => ⟨_, st_3 ef142_62 ef158_64 ef167_66, sn_s0 (sn_u (HM hc) p82_43 ev85_44 ev88_45 c92_46 c68_42 p105_47 ev113_48 ev114_49 c121_50 ev128_62 ev166_66) c147_64⟩ | exact fun hc => ⟨_, st_3 ef142_62 ef158_64 ef167_66, sn_s1 (sn_u (HM hc) p82_43 ev85_44 ev88_45 c92_46 c68_42 p105_47 ev113_48 ev114_49 c121_50 ev128_62 ev166_66) c147_64 nokey_⟩ | exact fun hc => ⟨_, st_3 ef142_62 ef158_64 ef167_66, sn_s0 (sn_l (HM hc) p82_43 ev85_44 ev88_45 c92_46 c68_42 p105_47 ev113_48 ev114_49 c121_50 nokey_ nokey_ ev166_66) c147_64⟩ | exact fun hc => ⟨_, st_3 ef142_62 ef158_64 ef167_66, sn_s1 (sn_l (HM hc) p82_43 ev85_44 ev88_45 c92_46 c68_42 p105_47 ev113_48 ev114_49 c121_50 nokey_ nokey_ ev166_66) c147_64 nokey_⟩)⟩
          · refine z_lload (pc := 150) hZ 0 dV_setNearest_150 rfl ?_
            refine z_lneg (pc := 152) hZ dV_setNearest_152 (fun v152_68 ev152_68 => ?_)
            refine z_goto (pc := 153) hZ 158 dV_setNearest_153 (by decide) ?_
            refine z_pp1 (pc := 158) hZ h_a0 uc_V (zb fl_V_15) dV_setNearest_158 (fun f158_68 ef158_68 => ?_)
            refine z_aload_n (pc := 161) hZ 5 dV_setNearest_161 rfl rfl ?_
            refine z_iload (pc := 162) hZ 2 dV_setNearest_162 rfl ?_
            refine z_iload (pc := 164) hZ 1 dV_setNearest_164 rfl ?_
            refine z_iadd (pc := 166) hZ dV_setNearest_166 (fun v166_70 ev166_70 => ?_)
            refine z_pp2 (pc := 167) hZ h_a0 uc_V (zb fl_V_19) dV_setNearest_167 (fun f167_70 ef167_70 => ?_)
            exact z_retv (pc := 170) hZ dV_setNearest_170 rfl ⟨rfl, _, rfl, rfl, (by first | exact fun hc => ⟨_, nokey_, sn_z (HM hc) c68_42⟩ | exact fun hc => ⟨_, nokey_, sn_i (HM hc) p82_43 ev85_44 ev88_45 c92_46 c68_42⟩ | exact fun hc => ⟨_, st_3 ef142_62 ef158_68 ef167_70, sn_s0 (sn_u (HM hc) p82_43 ev85_44 ev88_45 c92_46 c68_42 p105_47 ev113_48 ev114_49 c121_50 ev128_62 ev166_70) c147_64⟩ | exact fun hc => ⟨_, st_3 ef142_62 ef158_68 ef167_70, sn_s1 (sn_u (HM hc) p82_43 ev85_44 ev88_45 c92_46 c68_42 p105_47 ev113_48 ev114_49 c121_50 ev128_62 ev166_70) c147_64 ev152_68⟩ | exact fun hc => ⟨_, st_3 ef142_62 ef158_68 ef167_70, sn_s0 (sn_l (HM hc) p82_43 ev85_44 ev88_45 c92_46 c68_42 p105_47 ev113_48 ev114_49 c121_50 nokey_ nokey_ ev166_70) c147_64⟩ | exact fun hc => ⟨_, st_3 ef142_62 ef158_68 ef167_70, sn_s1 (sn_l (HM hc) p82_43 ev85_44 ev88_45 c92_46 c68_42 p105_47 ev113_48 ev114_49 c121_50 nokey_ nokey_ ev166_70) c147_64 ev152_68⟩)⟩
      · refine z_aload_n (pc := 95) hZ 4 dV_setNearest_95 rfl rfl ?_
        refine z_iload_n (pc := 96) hZ 5 dV_setNearest_96 rfl rfl ?_
        obtain ⟨q97_72, hq97_72⟩ := zp_at (X := X) (f := f) h_a0
        refine z_callV (pc := 97) (As := [.int p1]) (rest := []) hZ (cV_setInfinity l D tys X LP f a0 h_a0 p1) zyV_setInfinity (z_goodV ml_V_49 im_V_setInfinity se_V_setInfinity in_V co_V_setInfinity) q97_72 hq97_72 rfl rfl rfl (by decide) rfl rfl (Nat.le_of_ble_eq_true rfl) ⟨Nat.zero_le _, Nat.zero_le _⟩ dV_setNearest_97 (z_kv (fun w1 tys1 hp => ?_))
        obtain ⟨f97_72, rfl, rfl, p97_72⟩ := hp
        refine z_goto (pc := 100) hZ 170 dV_setNearest_100 (by decide) ?_
        exact z_retv (pc := 170) hZ dV_setNearest_170 rfl ⟨rfl, _, rfl, rfl, (by first | exact fun hc => ⟨_, nokey_, sn_z (HM hc) c68_42⟩ | exact fun hc => ⟨_, p97_72, sn_i (HM hc) p82_43 ev85_44 ev88_45 c92_46 c68_42⟩ | exact fun hc => ⟨_, st_3 nokey_ nokey_ nokey_, sn_s0 (sn_u (HM hc) p82_43 ev85_44 ev88_45 c92_46 c68_42 nokey_ nokey_ nokey_ nokey_ nokey_ nokey_) nokey_⟩ | exact fun hc => ⟨_, st_3 nokey_ nokey_ nokey_, sn_s1 (sn_u (HM hc) p82_43 ev85_44 ev88_45 c92_46 c68_42 nokey_ nokey_ nokey_ nokey_ nokey_ nokey_) nokey_ nokey_⟩ | exact fun hc => ⟨_, st_3 nokey_ nokey_ nokey_, sn_s0 (sn_l (HM hc) p82_43 ev85_44 ev88_45 c92_46 c68_42 nokey_ nokey_ nokey_ nokey_ nokey_ nokey_ nokey_) nokey_⟩ | exact fun hc => ⟨_, st_3 nokey_ nokey_ nokey_, sn_s1 (sn_l (HM hc) p82_43 ev85_44 ev88_45 c92_46 c68_42 nokey_ nokey_ nokey_ nokey_ nokey_ nokey_ nokey_) nokey_ nokey_⟩)⟩
    · refine z_aload_n (pc := 71) hZ 4 dV_setNearest_71 rfl rfl ?_
      obtain ⟨q72_73, hq72_73⟩ := zp_at (X := X) (f := f) h_a0
      refine z_callV (pc := 72) (As := []) (rest := []) hZ (cV_setZero l D tys X LP f a0 h_a0) zyV_setZero (z_goodV ml_V_46 im_V_setZero se_V_setZero in_V co_V_setZero) q72_73 hq72_73 rfl rfl rfl (by decide) rfl rfl (Nat.le_of_ble_eq_true rfl) ⟨Nat.zero_le _, Nat.zero_le _⟩ dV_setNearest_72 (z_kv (fun w1 tys1 hp => ?_))
      obtain ⟨f72_73, rfl, rfl, p72_73⟩ := hp
      refine z_goto (pc := 75) hZ 170 dV_setNearest_75 (by decide) ?_
      exact z_retv (pc := 170) hZ dV_setNearest_170 rfl ⟨rfl, _, rfl, rfl, (by first | exact fun hc => ⟨_, p72_73, sn_z (HM hc) c68_42⟩ | exact fun hc => ⟨_, nokey_, sn_i (HM hc) nokey_ nokey_ nokey_ nokey_ c68_42⟩ | exact fun hc => ⟨_, st_3 nokey_ nokey_ nokey_, sn_s0 (sn_u (HM hc) nokey_ nokey_ nokey_ nokey_ c68_42 nokey_ nokey_ nokey_ nokey_ nokey_ nokey_) nokey_⟩ | exact fun hc => ⟨_, st_3 nokey_ nokey_ nokey_, sn_s1 (sn_u (HM hc) nokey_ nokey_ nokey_ nokey_ c68_42 nokey_ nokey_ nokey_ nokey_ nokey_ nokey_) nokey_ nokey_⟩ | exact fun hc => ⟨_, st_3 nokey_ nokey_ nokey_, sn_s0 (sn_l (HM hc) nokey_ nokey_ nokey_ nokey_ c68_42 nokey_ nokey_ nokey_ nokey_ nokey_ nokey_ nokey_) nokey_⟩ | exact fun hc => ⟨_, st_3 nokey_ nokey_ nokey_, sn_s1 (sn_l (HM hc) nokey_ nokey_ nokey_ nokey_ c68_42 nokey_ nokey_ nokey_ nokey_ nokey_ nokey_ nokey_) nokey_ nokey_⟩)⟩
set_option maxHeartbeats 4000000 in
set_option maxRecDepth 100000 in
theorem cV_setReal (l : Launch) (D : va_G) (tys : zT) (X : va_W) (LP : List Nat) (f : Nat → V3) (a0 : Nat) (h_a0 : a0 ∈ LP) (p1 : Int64) (p2 : Int32) : zM l D vwCl zNF zNM yV_setReal wsV_setReal { frames := 3, cells := 0, slots := 0, locals := 74 } [.ref a0, .long p1, .int p2] (X ++ PL LP f) tys (qV (fun w' tys' => ∃ f' : Nat → V3, X ++ PL LP f' = w' ∧ tys = tys' ∧ (SRC p1 p2 → UPD f f' a0 (rndS p1.toInt p2.toInt)))) := by
  refine z_met (cc := bV_setReal) (maxL := 4) (ret := none) (isI := false) (own := RV) (by decide +kernel) rfl rfl (fun h => by cases h) (Nat.le_of_ble_eq_true rfl) (fun Z hZ => ?_)
  show Z 0 0 tys 0 [(0, .ref a0), (1, .long p1), (3, .int p2)] [] (X ++ PL LP f)
  refine z_aload_n (pc := 0) hZ 0 dV_setReal_0 rfl rfl ?_
  refine z_lload_n (pc := 1) hZ 1 dV_setReal_1 rfl rfl ?_
  refine z_lconst (pc := 2) hZ 0 dV_setReal_2 (by decide) ?_
  refine z_lif_ge (pc := 3) hZ 11 dV_setReal_3 dV_setReal_4 (by decide) (fun c4_1 => ?_) (fun c4_1 => ?_)
  · refine z_iconst (pc := 11) hZ 0 dV_setReal_11 (by decide) ?_
    refine z_lload_n (pc := 12) hZ 1 dV_setReal_12 rfl rfl ?_
    refine z_callS (pc := 13) (As := [.long p1]) (rest := [.int 0, .ref a0]) hZ (cV_sizeOf l D tys (X ++ PL LP f) p1) zyV_sizeOf (z_goodS ml_V_22 st_V_sizeOf in_V co_V_sizeOf) rfl rfl (by decide) rfl rfl (Nat.le_of_ble_eq_true rfl) ⟨Nat.zero_le _, Nat.zero_le _⟩ dV_setReal_13 (z_kl (fun r13_2 w1 tys1 hp => ?_))
    obtain ⟨rfl, rfl, p13_2⟩ := hp
    refine z_iconst (pc := 16) hZ 0 dV_setReal_16 (by decide) ?_
    refine z_iload_n (pc := 17) hZ 2 dV_setReal_17 rfl rfl ?_
    obtain ⟨q18_3, hq18_3⟩ := zp_at (X := X) (f := f) h_a0
    refine z_callV (pc := 18) (As := [.int 0, .long r13_2, .int 0, .int p2]) (rest := []) hZ (cV_setNearest l D tys X LP f a0 h_a0 0 r13_2 0 p2) zyV_setNearest (z_goodV ml_V_26 im_V_setNearest se_V_setNearest in_V co_V_setNearest) q18_3 hq18_3 rfl rfl rfl (by decide) rfl rfl (Nat.le_of_ble_eq_true rfl) ⟨Nat.zero_le _, Nat.zero_le _⟩ dV_setReal_18 (z_kv (fun w1 tys1 hp => ?_))
    obtain ⟨f18_3, rfl, rfl, p18_3⟩ := hp
    exact z_retv (pc := 21) hZ dV_setReal_21 rfl ⟨rfl, _, rfl, rfl, (by first | exact sr_e 0 p13_2 (sr_0 c4_1) p18_3 | exact sr_e 1 p13_2 (sr_1 c4_1) p18_3)⟩
  · refine z_iconst (pc := 7) hZ 1 dV_setReal_7 (by decide) ?_
    refine z_goto (pc := 8) hZ 12 dV_setReal_8 (by decide) ?_
    refine z_lload_n (pc := 12) hZ 1 dV_setReal_12 rfl rfl ?_
    refine z_callS (pc := 13) (As := [.long p1]) (rest := [.int 1, .ref a0]) hZ (cV_sizeOf l D tys (X ++ PL LP f) p1) zyV_sizeOf (z_goodS ml_V_22 st_V_sizeOf in_V co_V_sizeOf) rfl rfl (by decide) rfl rfl (Nat.le_of_ble_eq_true rfl) ⟨Nat.zero_le _, Nat.zero_le _⟩ dV_setReal_13 (z_kl (fun r13_4 w1 tys1 hp => ?_))
    obtain ⟨rfl, rfl, p13_4⟩ := hp
    refine z_iconst (pc := 16) hZ 0 dV_setReal_16 (by decide) ?_
    refine z_iload_n (pc := 17) hZ 2 dV_setReal_17 rfl rfl ?_
    obtain ⟨q18_5, hq18_5⟩ := zp_at (X := X) (f := f) h_a0
    refine z_callV (pc := 18) (As := [.int 1, .long r13_4, .int 0, .int p2]) (rest := []) hZ (cV_setNearest l D tys X LP f a0 h_a0 1 r13_4 0 p2) zyV_setNearest (z_goodV ml_V_26 im_V_setNearest se_V_setNearest in_V co_V_setNearest) q18_5 hq18_5 rfl rfl rfl (by decide) rfl rfl (Nat.le_of_ble_eq_true rfl) ⟨Nat.zero_le _, Nat.zero_le _⟩ dV_setReal_18 (z_kv (fun w1 tys1 hp => ?_))
    obtain ⟨f18_5, rfl, rfl, p18_5⟩ := hp
    exact z_retv (pc := 21) hZ dV_setReal_21 rfl ⟨rfl, _, rfl, rfl, (by first | exact sr_e 0 p13_4 (sr_0 c4_1) p18_5 | exact sr_e 1 p13_4 (sr_1 c4_1) p18_5)⟩
set_option maxHeartbeats 4000000 in
set_option maxRecDepth 100000 in
theorem cV_size (l : Launch) (D : va_G) (tys : zT) (X : va_W) (LP : List Nat) (f : Nat → V3) (a0 : Nat) (h_a0 : a0 ∈ LP) : zM l D vwCl zNF zNM yV_size wsV_size { frames := 1, cells := 0, slots := 0, locals := 21 } [.ref a0] (X ++ PL LP f) tys (qL (fun r w' tys' => X ++ PL LP f = w' ∧ tys = tys' ∧ (un r = (f a0).2.1.toInt.natAbs))) := by
  refine z_met (cc := bV_size) (maxL := 1) (ret := (some .long)) (isI := false) (own := RV) (by decide +kernel) rfl rfl (fun h => by cases h) (Nat.le_of_ble_eq_true rfl) (fun Z hZ => ?_)
  show Z 0 0 tys 0 [(0, .ref a0)] [] (X ++ PL LP f)
  refine z_aload_n (pc := 0) hZ 0 dV_size_0 rfl rfl ?_
  refine z_pg1 (pc := 1) hZ h_a0 uc_V (zb fl_V_15) dV_size_1 (fun v1_1 ev1_1 => ?_)
  refine z_callS (pc := 4) (As := [.long v1_1]) (rest := []) hZ (cV_sizeOf l D tys (X ++ PL LP f) v1_1) zyV_sizeOf (z_goodS ml_V_22 st_V_sizeOf in_V co_V_sizeOf) rfl rfl (by decide) rfl rfl (Nat.le_of_ble_eq_true rfl) ⟨Nat.zero_le _, Nat.zero_le _⟩ dV_size_4 (z_kl (fun r4_2 w1 tys1 hp => ?_))
  obtain ⟨rfl, rfl, p4_2⟩ := hp
  exact z_retl (pc := 7) hZ dV_size_7 rfl ⟨_, rfl, rfl, rfl, (by exact ev1_1 ▸ p4_2)⟩
set_option maxHeartbeats 4000000 in
set_option maxRecDepth 100000 in
theorem cV_turnReal (l : Launch) (D : va_G) (tys : zT) (X : va_W) (LP : List Nat) (f : Nat → V3) (a0 : Nat) (h_a0 : a0 ∈ LP) : zM l D vwCl zNF zNM yV_turnReal wsV_turnReal { frames := 3, cells := 0, slots := 0, locals := 74 } [.ref a0] (X ++ PL LP f) tys (qV (fun w' tys' => ∃ f' : Nat → V3, X ++ PL LP f' = w' ∧ tys = tys' ∧ (∀ a, CA (f a0) a → UPD f f' a0 (turn a)))) := by
  refine z_met (cc := bV_turnReal) (maxL := 1) (ret := none) (isI := false) (own := RV) (by decide +kernel) rfl rfl (fun h => by cases h) (Nat.le_of_ble_eq_true rfl) (fun Z hZ => ?_)
  show Z 0 0 tys 0 [(0, .ref a0)] [] (X ++ PL LP f)
  refine z_aload_n (pc := 0) hZ 0 dV_turnReal_0 rfl rfl ?_
  refine z_pg0 (pc := 1) hZ h_a0 uc_V (zb fl_V_9) dV_turnReal_1 (fun v1_1 ev1_1 => ?_)
  refine z_iconst (pc := 4) hZ 1 dV_turnReal_4 (by decide) ?_
  refine z_icmp_ne (pc := 5) hZ 32 dV_turnReal_5 (by decide) (fun c5_2 => ?_) (fun c5_2 => ?_)
  · exact z_retv (pc := 32) hZ dV_turnReal_32 rfl ⟨rfl, _, rfl, rfl, (by first | exact fun a h => tr_1 h ev1_1 c5_2 nokey_ (sr_0 nokey_) nokey_ nokey_ | exact fun a h => tr_1 h ev1_1 c5_2 nokey_ (sr_1 nokey_) nokey_ nokey_ | exact fun a h => tr_0 h ev1_1 c5_2)⟩
  · refine z_aload_n (pc := 8) hZ 0 dV_turnReal_8 rfl rfl ?_
    refine z_aload_n (pc := 9) hZ 0 dV_turnReal_9 rfl rfl ?_
    refine z_pg1 (pc := 10) hZ h_a0 uc_V (zb fl_V_15) dV_turnReal_10 (fun v10_3 ev10_3 => ?_)
    refine z_lconst (pc := 13) hZ 0 dV_turnReal_13 (by decide) ?_
    refine z_lif_ge (pc := 14) hZ 22 dV_turnReal_14 dV_turnReal_15 (by decide) (fun c15_4 => ?_) (fun c15_4 => ?_)
    · refine z_iconst (pc := 22) hZ 0 dV_turnReal_22 (by decide) ?_
      refine z_aload_n (pc := 23) hZ 0 dV_turnReal_23 rfl rfl ?_
      obtain ⟨q24_5, hq24_5⟩ := zp_at (X := X) (f := f) h_a0
      refine z_callV (pc := 24) (As := []) (rest := [.int 0, .ref a0]) hZ (cV_size l D tys X LP f a0 h_a0) zyV_size (z_goodV ml_V_59 im_V_size se_V_size in_V co_V_size) q24_5 hq24_5 rfl rfl rfl (by decide) rfl rfl (Nat.le_of_ble_eq_true rfl) ⟨Nat.zero_le _, Nat.zero_le _⟩ dV_turnReal_24 (z_kl (fun r24_5 w1 tys1 hp => ?_))
      obtain ⟨rfl, rfl, p24_5⟩ := hp
      refine z_iconst (pc := 27) hZ 0 dV_turnReal_27 (by decide) ?_
      refine z_iconst (pc := 28) hZ 0 dV_turnReal_28 (by decide) ?_
      obtain ⟨q29_6, hq29_6⟩ := zp_at (X := X) (f := f) h_a0
      refine z_callV (pc := 29) (As := [.int 0, .long r24_5, .int 0, .int 0]) (rest := []) hZ (cV_setNearest l D tys X LP f a0 h_a0 0 r24_5 0 0) zyV_setNearest (z_goodV ml_V_26 im_V_setNearest se_V_setNearest in_V co_V_setNearest) q29_6 hq29_6 rfl rfl rfl (by decide) rfl rfl (Nat.le_of_ble_eq_true rfl) ⟨Nat.zero_le _, Nat.zero_le _⟩ dV_turnReal_29 (z_kv (fun w1 tys1 hp => ?_))
      obtain ⟨f29_6, rfl, rfl, p29_6⟩ := hp
      exact z_retv (pc := 32) hZ dV_turnReal_32 rfl ⟨rfl, _, rfl, rfl, (by first | exact fun a h => tr_1 h ev1_1 c5_2 ev10_3 (sr_0 c15_4) p24_5 p29_6 | exact fun a h => tr_1 h ev1_1 c5_2 ev10_3 (sr_1 c15_4) p24_5 p29_6 | exact fun a h => tr_0 h ev1_1 c5_2)⟩
    · refine z_iconst (pc := 18) hZ 1 dV_turnReal_18 (by decide) ?_
      refine z_goto (pc := 19) hZ 23 dV_turnReal_19 (by decide) ?_
      refine z_aload_n (pc := 23) hZ 0 dV_turnReal_23 rfl rfl ?_
      obtain ⟨q24_7, hq24_7⟩ := zp_at (X := X) (f := f) h_a0
      refine z_callV (pc := 24) (As := []) (rest := [.int 1, .ref a0]) hZ (cV_size l D tys X LP f a0 h_a0) zyV_size (z_goodV ml_V_59 im_V_size se_V_size in_V co_V_size) q24_7 hq24_7 rfl rfl rfl (by decide) rfl rfl (Nat.le_of_ble_eq_true rfl) ⟨Nat.zero_le _, Nat.zero_le _⟩ dV_turnReal_24 (z_kl (fun r24_7 w1 tys1 hp => ?_))
      obtain ⟨rfl, rfl, p24_7⟩ := hp
      refine z_iconst (pc := 27) hZ 0 dV_turnReal_27 (by decide) ?_
      refine z_iconst (pc := 28) hZ 0 dV_turnReal_28 (by decide) ?_
      obtain ⟨q29_8, hq29_8⟩ := zp_at (X := X) (f := f) h_a0
      refine z_callV (pc := 29) (As := [.int 1, .long r24_7, .int 0, .int 0]) (rest := []) hZ (cV_setNearest l D tys X LP f a0 h_a0 1 r24_7 0 0) zyV_setNearest (z_goodV ml_V_26 im_V_setNearest se_V_setNearest in_V co_V_setNearest) q29_8 hq29_8 rfl rfl rfl (by decide) rfl rfl (Nat.le_of_ble_eq_true rfl) ⟨Nat.zero_le _, Nat.zero_le _⟩ dV_turnReal_29 (z_kv (fun w1 tys1 hp => ?_))
      obtain ⟨f29_8, rfl, rfl, p29_8⟩ := hp
      exact z_retv (pc := 32) hZ dV_turnReal_32 rfl ⟨rfl, _, rfl, rfl, (by first | exact fun a h => tr_1 h ev1_1 c5_2 ev10_3 (sr_0 c15_4) p24_7 p29_8 | exact fun a h => tr_1 h ev1_1 c5_2 ev10_3 (sr_1 c15_4) p24_7 p29_8 | exact fun a h => tr_0 h ev1_1 c5_2)⟩
set_option maxHeartbeats 4000000 in
set_option maxRecDepth 100000 in
theorem cV_isInfinite (l : Launch) (D : va_G) (tys : zT) (X : va_W) (LP : List Nat) (f : Nat → V3) (a0 : Nat) (h_a0 : a0 ∈ LP) : zM l D vwCl zNF zNM yV_isInfinite wsV_isInfinite { frames := 0, cells := 0, slots := 0, locals := 0 } [.ref a0] (X ++ PL LP f) tys (qI (fun r w' tys' => X ++ PL LP f = w' ∧ tys = tys' ∧ (ISI r (f a0).1))) := by
  refine z_met (cc := bV_isInfinite) (maxL := 1) (ret := (some .boolean)) (isI := false) (own := RV) (by decide +kernel) rfl rfl (fun h => by cases h) (Nat.le_of_ble_eq_true rfl) (fun Z hZ => ?_)
  show Z 0 0 tys 0 [(0, .ref a0)] [] (X ++ PL LP f)
  refine z_aload_n (pc := 0) hZ 0 dV_isInfinite_0 rfl rfl ?_
  refine z_pg0 (pc := 1) hZ h_a0 uc_V (zb fl_V_9) dV_isInfinite_1 (fun v1_1 ev1_1 => ?_)
  refine z_iconst (pc := 4) hZ 3 dV_isInfinite_4 (by decide) ?_
  refine z_icmp_eq (pc := 5) hZ 16 dV_isInfinite_5 (by decide) (fun c5_2 => ?_) (fun c5_2 => ?_)
  · refine z_iconst (pc := 16) hZ 1 dV_isInfinite_16 (by decide) ?_
    refine z_goto (pc := 17) hZ 21 dV_isInfinite_17 (by decide) ?_
    exact z_reti (pc := 21) hZ dV_isInfinite_21 .boolean rfl rfl ⟨_, rfl, rfl, rfl, (by first | exact isi_1 ev1_1 c5_2 | exact isi_2 nokey_ nokey_ | exact isi_0 ev1_1 c5_2 nokey_ nokey_)⟩
  · refine z_aload_n (pc := 8) hZ 0 dV_isInfinite_8 rfl rfl ?_
    refine z_pg0 (pc := 9) hZ h_a0 uc_V (zb fl_V_9) dV_isInfinite_9 (fun v9_3 ev9_3 => ?_)
    refine z_iconst (pc := 12) hZ 4 dV_isInfinite_12 (by decide) ?_
    refine z_icmp_ne (pc := 13) hZ 20 dV_isInfinite_13 (by decide) (fun c13_4 => ?_) (fun c13_4 => ?_)
    · refine z_iconst (pc := 20) hZ 0 dV_isInfinite_20 (by decide) ?_
      exact z_reti (pc := 21) hZ dV_isInfinite_21 .boolean rfl rfl ⟨_, rfl, rfl, rfl, (by first | exact isi_1 ev1_1 c5_2 | exact isi_2 ev9_3 c13_4 | exact isi_0 ev1_1 c5_2 ev9_3 c13_4)⟩
    · refine z_iconst (pc := 16) hZ 1 dV_isInfinite_16 (by decide) ?_
      refine z_goto (pc := 17) hZ 21 dV_isInfinite_17 (by decide) ?_
      exact z_reti (pc := 21) hZ dV_isInfinite_21 .boolean rfl rfl ⟨_, rfl, rfl, rfl, (by first | exact isi_1 ev1_1 c5_2 | exact isi_2 ev9_3 c13_4 | exact isi_0 ev1_1 c5_2 ev9_3 c13_4)⟩
set_option maxHeartbeats 4000000 in
set_option maxRecDepth 100000 in
theorem cV_negate (l : Launch) (D : va_G) (tys : zT) (X : va_W) (LP : List Nat) (f : Nat → V3) (a0 : Nat) (h_a0 : a0 ∈ LP) : zM l D vwCl zNF zNM yV_negate wsV_negate { frames := 1, cells := 0, slots := 0, locals := 21 } [.ref a0] (X ++ PL LP f) tys (qV (fun w' tys' => ∃ f' : Nat → V3, X ++ PL LP f' = w' ∧ tys = tys' ∧ (∀ a, CA (f a0) a → UPD f f' a0 (ng a)))) := by
  refine z_met (cc := bV_negate) (maxL := 1) (ret := none) (isI := false) (own := RV) (by decide +kernel) rfl rfl (fun h => by cases h) (Nat.le_of_ble_eq_true rfl) (fun Z hZ => ?_)
  show Z 0 0 tys 0 [(0, .ref a0)] [] (X ++ PL LP f)
  refine z_aload_n (pc := 0) hZ 0 dV_negate_0 rfl rfl ?_
  obtain ⟨q1_1, hq1_1⟩ := zp_at (X := X) (f := f) h_a0
  refine z_callV (pc := 1) (As := []) (rest := []) hZ (cV_isInfinite l D tys X LP f a0 h_a0) zyV_isInfinite (z_goodV ml_V_63 im_V_isInfinite se_V_isInfinite in_V co_V_isInfinite) q1_1 hq1_1 rfl rfl rfl (by decide) rfl rfl (Nat.le_of_ble_eq_true rfl) ⟨Nat.zero_le _, Nat.zero_le _⟩ dV_negate_1 (z_ki (fun r1_1 w1 tys1 hp => ?_))
  obtain ⟨rfl, rfl, p1_1⟩ := hp
  refine z_if_eq (pc := 4) hZ 27 dV_negate_4 (by decide) (fun c4_2 => ?_) (fun c4_2 => ?_)
  · refine z_aload_n (pc := 27) hZ 0 dV_negate_27 rfl rfl ?_
    refine z_aload_n (pc := 28) hZ 0 dV_negate_28 rfl rfl ?_
    refine z_pg1 (pc := 29) hZ h_a0 uc_V (zb fl_V_15) dV_negate_29 (fun v29_3 ev29_3 => ?_)
    refine z_lneg (pc := 32) hZ dV_negate_32 (fun v32_4 ev32_4 => ?_)
    refine z_pp1 (pc := 33) hZ h_a0 uc_V (zb fl_V_15) dV_negate_33 (fun f33_4 ef33_4 => ?_)
    exact z_retv (pc := 36) hZ dV_negate_36 rfl ⟨rfl, _, rfl, rfl, (by first | exact fun a h => neg_f h p1_1 c4_2 ev29_3 ev32_4 ef33_4 | exact fun a h => neg_i 1 h p1_1 c4_2 nokey_ (Or.inl ⟨nokey_, rfl⟩) nokey_ | exact fun a h => neg_i 0 h p1_1 c4_2 nokey_ (Or.inr ⟨nokey_, rfl⟩) nokey_)⟩
  · refine z_aload_n (pc := 7) hZ 0 dV_negate_7 rfl rfl ?_
    refine z_aload_n (pc := 8) hZ 0 dV_negate_8 rfl rfl ?_
    refine z_pg0 (pc := 9) hZ h_a0 uc_V (zb fl_V_9) dV_negate_9 (fun v9_6 ev9_6 => ?_)
    refine z_iconst (pc := 12) hZ 3 dV_negate_12 (by decide) ?_
    refine z_icmp_ne (pc := 13) hZ 20 dV_negate_13 (by decide) (fun c13_7 => ?_) (fun c13_7 => ?_)
    · refine z_iconst (pc := 20) hZ 0 dV_negate_20 (by decide) ?_
      obtain ⟨q21_8, hq21_8⟩ := zp_at (X := X) (f := f) h_a0
      refine z_callV (pc := 21) (As := [.int 0]) (rest := []) hZ (cV_setInfinity l D tys X LP f a0 h_a0 0) zyV_setInfinity (z_goodV ml_V_49 im_V_setInfinity se_V_setInfinity in_V co_V_setInfinity) q21_8 hq21_8 rfl rfl rfl (by decide) rfl rfl (Nat.le_of_ble_eq_true rfl) ⟨Nat.zero_le _, Nat.zero_le _⟩ dV_negate_21 (z_kv (fun w1 tys1 hp => ?_))
      obtain ⟨f21_8, rfl, rfl, p21_8⟩ := hp
      refine z_goto (pc := 24) hZ 36 dV_negate_24 (by decide) ?_
      exact z_retv (pc := 36) hZ dV_negate_36 rfl ⟨rfl, _, rfl, rfl, (by first | exact fun a h => neg_f h p1_1 c4_2 nokey_ nokey_ nokey_ | exact fun a h => neg_i 1 h p1_1 c4_2 ev9_6 (Or.inl ⟨c13_7, rfl⟩) p21_8 | exact fun a h => neg_i 0 h p1_1 c4_2 ev9_6 (Or.inr ⟨c13_7, rfl⟩) p21_8)⟩
    · refine z_iconst (pc := 16) hZ 1 dV_negate_16 (by decide) ?_
      refine z_goto (pc := 17) hZ 21 dV_negate_17 (by decide) ?_
      obtain ⟨q21_9, hq21_9⟩ := zp_at (X := X) (f := f) h_a0
      refine z_callV (pc := 21) (As := [.int 1]) (rest := []) hZ (cV_setInfinity l D tys X LP f a0 h_a0 1) zyV_setInfinity (z_goodV ml_V_49 im_V_setInfinity se_V_setInfinity in_V co_V_setInfinity) q21_9 hq21_9 rfl rfl rfl (by decide) rfl rfl (Nat.le_of_ble_eq_true rfl) ⟨Nat.zero_le _, Nat.zero_le _⟩ dV_negate_21 (z_kv (fun w1 tys1 hp => ?_))
      obtain ⟨f21_9, rfl, rfl, p21_9⟩ := hp
      refine z_goto (pc := 24) hZ 36 dV_negate_24 (by decide) ?_
      exact z_retv (pc := 36) hZ dV_negate_36 rfl ⟨rfl, _, rfl, rfl, (by first | exact fun a h => neg_f h p1_1 c4_2 nokey_ nokey_ nokey_ | exact fun a h => neg_i 1 h p1_1 c4_2 ev9_6 (Or.inl ⟨c13_7, rfl⟩) p21_9 | exact fun a h => neg_i 0 h p1_1 c4_2 ev9_6 (Or.inr ⟨c13_7, rfl⟩) p21_9)⟩
set_option maxHeartbeats 4000000 in
set_option maxRecDepth 100000 in
theorem cV_floor (l : Launch) (D : va_G) (tys : zT) (X : va_W) (LP : List Nat) (f : Nat → V3) (a0 : Nat) (h_a0 : a0 ∈ LP) : zM l D vwCl zNF zNM yV_floor wsV_floor { frames := 1, cells := 0, slots := 0, locals := 21 } [.ref a0] (X ++ PL LP f) tys (qL (fun r w' tys' => X ++ PL LP f = w' ∧ tys = tys' ∧ (∀ A, CA (f a0) (.inr (.inl A)) → -9223372036854775808 ≤ A / W1 → A / W1 < 9223372036854775808 → r.toInt = A / W1))) := by
  refine z_met (cc := bV_floor) (maxL := 1) (ret := (some .long)) (isI := false) (own := RV) (by decide +kernel) rfl rfl (fun h => by cases h) (Nat.le_of_ble_eq_true rfl) (fun Z hZ => ?_)
  show Z 0 0 tys 0 [(0, .ref a0)] [] (X ++ PL LP f)
  refine z_aload_n (pc := 0) hZ 0 dV_floor_0 rfl rfl ?_
  refine z_pg2 (pc := 1) hZ h_a0 uc_V (zb fl_V_19) dV_floor_1 (fun v1_1 ev1_1 => ?_)
  refine z_if_ge (pc := 4) hZ 25 dV_floor_4 (by decide) (fun c4_2 => ?_) (fun c4_2 => ?_)
  · refine z_aload_n (pc := 25) hZ 0 dV_floor_25 rfl rfl ?_
    refine z_pg1 (pc := 26) hZ h_a0 uc_V (zb fl_V_15) dV_floor_26 (fun v26_3 ev26_3 => ?_)
    refine z_aload_n (pc := 29) hZ 0 dV_floor_29 rfl rfl ?_
    refine z_pg2 (pc := 30) hZ h_a0 uc_V (zb fl_V_19) dV_floor_30 (fun v30_4 ev30_4 => ?_)
    refine z_lshl (pc := 33) hZ dV_floor_33 (fun v33_5 ev33_5 => ?_)
    exact z_retl (pc := 34) hZ dV_floor_34 rfl ⟨_, rfl, rfl, rfl, (by first | exact fun A h _ _ => fl_a h ev1_1 c4_2 nokey_ nokey_ nokey_ nokey_ nokey_ | exact fun A h f1 f2 => fl_b h ev1_1 c4_2 ev26_3 ev30_4 ev33_5 f1 f2)⟩
  · refine z_aload_n (pc := 7) hZ 0 dV_floor_7 rfl rfl ?_
    refine z_pg1 (pc := 8) hZ h_a0 uc_V (zb fl_V_15) dV_floor_8 (fun v8_6 ev8_6 => ?_)
    refine z_aload_n (pc := 11) hZ 0 dV_floor_11 rfl rfl ?_
    refine z_pg2 (pc := 12) hZ h_a0 uc_V (zb fl_V_19) dV_floor_12 (fun v12_7 ev12_7 => ?_)
    refine z_ineg (pc := 15) hZ dV_floor_15 (fun v15_8 ev15_8 => ?_)
    refine z_bipush (pc := 16) hZ 63 dV_floor_16 (by decide) ?_
    refine z_mmin (pc := 18) hZ (zb ml_V_56) (zb st_JM_min) (zb in_Math) (zb co_JM_min) (by decide) (Nat.le_of_ble_eq_true rfl) (Nat.zero_le _) (Nat.zero_le _) dV_floor_18 (fun v18_9 ev18_9 => ?_)
    refine z_lshr (pc := 21) hZ dV_floor_21 (fun v21_10 ev21_10 => ?_)
    refine z_goto (pc := 22) hZ 34 dV_floor_22 (by decide) ?_
    exact z_retl (pc := 34) hZ dV_floor_34 rfl ⟨_, rfl, rfl, rfl, (by first | exact fun A h _ _ => fl_a h ev1_1 c4_2 ev8_6 ev12_7 ev15_8 ev18_9 ev21_10 | exact fun A h f1 f2 => fl_b h ev1_1 c4_2 nokey_ nokey_ nokey_ f1 f2)⟩
set_option maxHeartbeats 4000000 in
set_option maxRecDepth 100000 in
theorem cV_roundDown (l : Launch) (D : va_G) (tys : zT) (X : va_W) (LP : List Nat) (f : Nat → V3) (a0 : Nat) (h_a0 : a0 ∈ LP) : zM l D vwCl zNF zNM yV_roundDown wsV_roundDown { frames := 4, cells := 0, slots := 0, locals := 97 } [.ref a0] (X ++ PL LP f) tys (qV (fun w' tys' => ∃ f' : Nat → V3, X ++ PL LP f' = w' ∧ tys = tys' ∧ (∀ a, CA (f a0) a → UPD f f' a0 (flr a)))) := by
  refine z_met (cc := bV_roundDown) (maxL := 1) (ret := none) (isI := false) (own := RV) (by decide +kernel) rfl rfl (fun h => by cases h) (Nat.le_of_ble_eq_true rfl) (fun Z hZ => ?_)
  show Z 0 0 tys 0 [(0, .ref a0)] [] (X ++ PL LP f)
  refine z_aload_n (pc := 0) hZ 0 dV_roundDown_0 rfl rfl ?_
  refine z_pg0 (pc := 1) hZ h_a0 uc_V (zb fl_V_9) dV_roundDown_1 (fun v1_1 ev1_1 => ?_)
  refine z_iconst (pc := 4) hZ 2 dV_roundDown_4 (by decide) ?_
  refine z_icmp_ne (pc := 5) hZ 24 dV_roundDown_5 (by decide) (fun c5_2 => ?_) (fun c5_2 => ?_)
  · exact z_retv (pc := 24) hZ dV_roundDown_24 rfl ⟨rfl, _, rfl, rfl, (by first | exact fun a h => rd_1 h ev1_1 c5_2 nokey_ nokey_ nokey_ nokey_ | exact fun a h => rd_2 h ev1_1 c5_2 nokey_ nokey_ | exact fun a h => rd_0 h ev1_1 c5_2)⟩
  · refine z_aload_n (pc := 8) hZ 0 dV_roundDown_8 rfl rfl ?_
    refine z_pg2 (pc := 9) hZ h_a0 uc_V (zb fl_V_19) dV_roundDown_9 (fun v9_3 ev9_3 => ?_)
    refine z_if_ge (pc := 12) hZ 24 dV_roundDown_12 (by decide) (fun c12_4 => ?_) (fun c12_4 => ?_)
    · exact z_retv (pc := 24) hZ dV_roundDown_24 rfl ⟨rfl, _, rfl, rfl, (by first | exact fun a h => rd_1 h ev1_1 c5_2 ev9_3 c12_4 nokey_ nokey_ | exact fun a h => rd_2 h ev1_1 c5_2 ev9_3 c12_4 | exact fun a h => rd_0 h ev1_1 c5_2)⟩
    · refine z_aload_n (pc := 15) hZ 0 dV_roundDown_15 rfl rfl ?_
      refine z_aload_n (pc := 16) hZ 0 dV_roundDown_16 rfl rfl ?_
      obtain ⟨q17_5, hq17_5⟩ := zp_at (X := X) (f := f) h_a0
      refine z_callV (pc := 17) (As := []) (rest := [.ref a0]) hZ (cV_floor l D tys X LP f a0 h_a0) zyV_floor (z_goodV ml_V_67 im_V_floor se_V_floor in_V co_V_floor) q17_5 hq17_5 rfl rfl rfl (by decide) rfl rfl (Nat.le_of_ble_eq_true rfl) ⟨Nat.zero_le _, Nat.zero_le _⟩ dV_roundDown_17 (z_kl (fun r17_5 w1 tys1 hp => ?_))
      obtain ⟨rfl, rfl, p17_5⟩ := hp
      refine z_iconst (pc := 20) hZ 0 dV_roundDown_20 (by decide) ?_
      obtain ⟨q21_6, hq21_6⟩ := zp_at (X := X) (f := f) h_a0
      refine z_callV (pc := 21) (As := [.long r17_5, .int 0]) (rest := []) hZ (cV_setReal l D tys X LP f a0 h_a0 r17_5 0) zyV_setReal (z_goodV ml_V_70 im_V_setReal se_V_setReal in_V co_V_setReal) q21_6 hq21_6 rfl rfl rfl (by decide) rfl rfl (Nat.le_of_ble_eq_true rfl) ⟨Nat.zero_le _, Nat.zero_le _⟩ dV_roundDown_21 (z_kv (fun w1 tys1 hp => ?_))
      obtain ⟨f21_6, rfl, rfl, p21_6⟩ := hp
      exact z_retv (pc := 24) hZ dV_roundDown_24 rfl ⟨rfl, _, rfl, rfl, (by first | exact fun a h => rd_1 h ev1_1 c5_2 ev9_3 c12_4 p17_5 p21_6 | exact fun a h => rd_2 h ev1_1 c5_2 ev9_3 c12_4 | exact fun a h => rd_0 h ev1_1 c5_2)⟩
set_option maxHeartbeats 4000000 in
set_option maxRecDepth 100000 in
theorem cV_countsAsWhole (l : Launch) (D : va_G) (tys : zT) (X : va_W) (LP : List Nat) (f : Nat → V3) (a0 : Nat) (h_a0 : a0 ∈ LP) : zM l D vwCl zNF zNM yV_countsAsWhole wsV_countsAsWhole { frames := 0, cells := 0, slots := 0, locals := 0 } [.ref a0] (X ++ PL LP f) tys (qI (fun r w' tys' => X ++ PL LP f = w' ∧ tys = tys' ∧ (∀ a, CA (f a0) a → CWP r a))) := by
  refine z_met (cc := bV_countsAsWhole) (maxL := 1) (ret := (some .boolean)) (isI := false) (own := RV) (by decide +kernel) rfl rfl (fun h => by cases h) (Nat.le_of_ble_eq_true rfl) (fun Z hZ => ?_)
  show Z 0 0 tys 0 [(0, .ref a0)] [] (X ++ PL LP f)
  refine z_aload_n (pc := 0) hZ 0 dV_countsAsWhole_0 rfl rfl ?_
  refine z_pg0 (pc := 1) hZ h_a0 uc_V (zb fl_V_9) dV_countsAsWhole_1 (fun v1_1 ev1_1 => ?_)
  refine z_iconst (pc := 4) hZ 2 dV_countsAsWhole_4 (by decide) ?_
  refine z_icmp_eq (pc := 5) hZ 22 dV_countsAsWhole_5 (by decide) (fun c5_2 => ?_) (fun c5_2 => ?_)
  · refine z_aload_n (pc := 22) hZ 0 dV_countsAsWhole_22 rfl rfl ?_
    refine z_pg2 (pc := 23) hZ h_a0 uc_V (zb fl_V_19) dV_countsAsWhole_23 (fun v23_3 ev23_3 => ?_)
    refine z_if_lt (pc := 26) hZ 64 dV_countsAsWhole_26 (by decide) (fun c26_4 => ?_) (fun c26_4 => ?_)
    · refine z_iconst (pc := 64) hZ 0 dV_countsAsWhole_64 (by decide) ?_
      exact z_reti (pc := 65) hZ dV_countsAsWhole_65 .boolean rfl rfl ⟨_, rfl, rfl, rfl, (by first | exact fun a h => cwp_w h nokey_ nokey_ | exact fun a h => cwp_n h ev1_1 c5_2 nokey_ nokey_ | exact fun a h => cwp_1 h ev1_1 c5_2 ev23_3 c26_4 | exact fun a h => cwp_2 h ev1_1 c5_2 nokey_ nokey_ | exact fun a h => cwp_3 1 h ev1_1 c5_2 ev23_3 c26_4 nokey_ nokey_ nokey_ nokey_ nokey_ nokey_ nokey_ nokey_ (Or.inl ⟨nokey_, rfl⟩) | exact fun a h => cwp_3 0 h ev1_1 c5_2 ev23_3 c26_4 nokey_ nokey_ nokey_ nokey_ nokey_ nokey_ nokey_ nokey_ (Or.inr ⟨nokey_, rfl⟩))⟩
    · refine z_aload_n (pc := 29) hZ 0 dV_countsAsWhole_29 rfl rfl ?_
      refine z_pg2 (pc := 30) hZ h_a0 uc_V (zb fl_V_19) dV_countsAsWhole_30 (fun v30_5 ev30_5 => ?_)
      refine z_bipush (pc := 33) hZ 63 dV_countsAsWhole_33 (by decide) ?_
      refine z_icmp_gt (pc := 35) hZ 64 dV_countsAsWhole_35 (by decide) (fun c35_6 => ?_) (fun c35_6 => ?_)
      · refine z_iconst (pc := 64) hZ 0 dV_countsAsWhole_64 (by decide) ?_
        exact z_reti (pc := 65) hZ dV_countsAsWhole_65 .boolean rfl rfl ⟨_, rfl, rfl, rfl, (by first | exact fun a h => cwp_w h nokey_ nokey_ | exact fun a h => cwp_n h ev1_1 c5_2 nokey_ nokey_ | exact fun a h => cwp_1 h ev1_1 c5_2 ev23_3 c26_4 | exact fun a h => cwp_2 h ev1_1 c5_2 ev30_5 c35_6 | exact fun a h => cwp_3 1 h ev1_1 c5_2 ev23_3 c26_4 ev30_5 c35_6 nokey_ nokey_ nokey_ nokey_ nokey_ nokey_ (Or.inl ⟨nokey_, rfl⟩) | exact fun a h => cwp_3 0 h ev1_1 c5_2 ev23_3 c26_4 ev30_5 c35_6 nokey_ nokey_ nokey_ nokey_ nokey_ nokey_ (Or.inr ⟨nokey_, rfl⟩))⟩
      · refine z_aload_n (pc := 38) hZ 0 dV_countsAsWhole_38 rfl rfl ?_
        refine z_pg1 (pc := 39) hZ h_a0 uc_V (zb fl_V_15) dV_countsAsWhole_39 (fun v39_7 ev39_7 => ?_)
        refine z_aload_n (pc := 42) hZ 0 dV_countsAsWhole_42 rfl rfl ?_
        refine z_pg2 (pc := 43) hZ h_a0 uc_V (zb fl_V_19) dV_countsAsWhole_43 (fun v43_8 ev43_8 => ?_)
        refine z_lshl (pc := 46) hZ dV_countsAsWhole_46 (fun v46_9 ev46_9 => ?_)
        refine z_aload_n (pc := 47) hZ 0 dV_countsAsWhole_47 rfl rfl ?_
        refine z_pg2 (pc := 48) hZ h_a0 uc_V (zb fl_V_19) dV_countsAsWhole_48 (fun v48_10 ev48_10 => ?_)
        refine z_lshr (pc := 51) hZ dV_countsAsWhole_51 (fun v51_11 ev51_11 => ?_)
        refine z_aload_n (pc := 52) hZ 0 dV_countsAsWhole_52 rfl rfl ?_
        refine z_pg1 (pc := 53) hZ h_a0 uc_V (zb fl_V_15) dV_countsAsWhole_53 (fun v53_12 ev53_12 => ?_)
        refine z_lif_ne (pc := 56) hZ 64 dV_countsAsWhole_56 dV_countsAsWhole_57 (by decide) (fun c57_13 => ?_) (fun c57_13 => ?_)
        · refine z_iconst (pc := 64) hZ 0 dV_countsAsWhole_64 (by decide) ?_
          exact z_reti (pc := 65) hZ dV_countsAsWhole_65 .boolean rfl rfl ⟨_, rfl, rfl, rfl, (by first | exact fun a h => cwp_w h nokey_ nokey_ | exact fun a h => cwp_n h ev1_1 c5_2 nokey_ nokey_ | exact fun a h => cwp_1 h ev1_1 c5_2 ev23_3 c26_4 | exact fun a h => cwp_2 h ev1_1 c5_2 ev30_5 c35_6 | exact fun a h => cwp_3 1 h ev1_1 c5_2 ev23_3 c26_4 ev30_5 c35_6 ev39_7 ev43_8 ev46_9 ev48_10 ev51_11 ev53_12 (Or.inl ⟨c57_13, rfl⟩) | exact fun a h => cwp_3 0 h ev1_1 c5_2 ev23_3 c26_4 ev30_5 c35_6 ev39_7 ev43_8 ev46_9 ev48_10 ev51_11 ev53_12 (Or.inr ⟨c57_13, rfl⟩))⟩
        · refine z_iconst (pc := 60) hZ 1 dV_countsAsWhole_60 (by decide) ?_
          refine z_goto (pc := 61) hZ 65 dV_countsAsWhole_61 (by decide) ?_
          exact z_reti (pc := 65) hZ dV_countsAsWhole_65 .boolean rfl rfl ⟨_, rfl, rfl, rfl, (by first | exact fun a h => cwp_w h nokey_ nokey_ | exact fun a h => cwp_n h ev1_1 c5_2 nokey_ nokey_ | exact fun a h => cwp_1 h ev1_1 c5_2 ev23_3 c26_4 | exact fun a h => cwp_2 h ev1_1 c5_2 ev30_5 c35_6 | exact fun a h => cwp_3 1 h ev1_1 c5_2 ev23_3 c26_4 ev30_5 c35_6 ev39_7 ev43_8 ev46_9 ev48_10 ev51_11 ev53_12 (Or.inl ⟨c57_13, rfl⟩) | exact fun a h => cwp_3 0 h ev1_1 c5_2 ev23_3 c26_4 ev30_5 c35_6 ev39_7 ev43_8 ev46_9 ev48_10 ev51_11 ev53_12 (Or.inr ⟨c57_13, rfl⟩))⟩
  · refine z_aload_n (pc := 8) hZ 0 dV_countsAsWhole_8 rfl rfl ?_
    refine z_pg0 (pc := 9) hZ h_a0 uc_V (zb fl_V_9) dV_countsAsWhole_9 (fun v9_14 ev9_14 => ?_)
    refine z_iconst (pc := 12) hZ 1 dV_countsAsWhole_12 (by decide) ?_
    refine z_icmp_ne (pc := 13) hZ 20 dV_countsAsWhole_13 (by decide) (fun c13_15 => ?_) (fun c13_15 => ?_)
    · refine z_iconst (pc := 20) hZ 0 dV_countsAsWhole_20 (by decide) ?_
      exact z_reti (pc := 21) hZ dV_countsAsWhole_21 .boolean rfl rfl ⟨_, rfl, rfl, rfl, (by first | exact fun a h => cwp_w h ev9_14 c13_15 | exact fun a h => cwp_n h ev1_1 c5_2 ev9_14 c13_15 | exact fun a h => cwp_1 h ev1_1 c5_2 nokey_ nokey_ | exact fun a h => cwp_2 h ev1_1 c5_2 nokey_ nokey_ | exact fun a h => cwp_3 1 h ev1_1 c5_2 nokey_ nokey_ nokey_ nokey_ nokey_ nokey_ nokey_ nokey_ nokey_ nokey_ (Or.inl ⟨nokey_, rfl⟩) | exact fun a h => cwp_3 0 h ev1_1 c5_2 nokey_ nokey_ nokey_ nokey_ nokey_ nokey_ nokey_ nokey_ nokey_ nokey_ (Or.inr ⟨nokey_, rfl⟩))⟩
    · refine z_iconst (pc := 16) hZ 1 dV_countsAsWhole_16 (by decide) ?_
      refine z_goto (pc := 17) hZ 21 dV_countsAsWhole_17 (by decide) ?_
      exact z_reti (pc := 21) hZ dV_countsAsWhole_21 .boolean rfl rfl ⟨_, rfl, rfl, rfl, (by first | exact fun a h => cwp_w h ev9_14 c13_15 | exact fun a h => cwp_n h ev1_1 c5_2 ev9_14 c13_15 | exact fun a h => cwp_1 h ev1_1 c5_2 nokey_ nokey_ | exact fun a h => cwp_2 h ev1_1 c5_2 nokey_ nokey_ | exact fun a h => cwp_3 1 h ev1_1 c5_2 nokey_ nokey_ nokey_ nokey_ nokey_ nokey_ nokey_ nokey_ nokey_ nokey_ (Or.inl ⟨nokey_, rfl⟩) | exact fun a h => cwp_3 0 h ev1_1 c5_2 nokey_ nokey_ nokey_ nokey_ nokey_ nokey_ nokey_ nokey_ nokey_ nokey_ (Or.inr ⟨nokey_, rfl⟩))⟩
set_option maxHeartbeats 4000000 in
set_option maxRecDepth 100000 in
theorem cV_asWhole (l : Launch) (D : va_G) (tys : zT) (X : va_W) (LP : List Nat) (f : Nat → V3) (a0 : Nat) (h_a0 : a0 ∈ LP) : zM l D vwCl zNF zNM yV_asWhole wsV_asWhole { frames := 0, cells := 0, slots := 0, locals := 0 } [.ref a0] (X ++ PL LP f) tys (qL (fun r w' tys' => X ++ PL LP f = w' ∧ tys = tys' ∧ (r = (f a0).2.1 <<< ((f a0).2.2.toInt64 &&& 63)))) := by
  refine z_met (cc := bV_asWhole) (maxL := 1) (ret := (some .long)) (isI := false) (own := RV) (by decide +kernel) rfl rfl (fun h => by cases h) (Nat.le_of_ble_eq_true rfl) (fun Z hZ => ?_)
  show Z 0 0 tys 0 [(0, .ref a0)] [] (X ++ PL LP f)
  refine z_aload_n (pc := 0) hZ 0 dV_asWhole_0 rfl rfl ?_
  refine z_pg1 (pc := 1) hZ h_a0 uc_V (zb fl_V_15) dV_asWhole_1 (fun v1_1 ev1_1 => ?_)
  refine z_aload_n (pc := 4) hZ 0 dV_asWhole_4 rfl rfl ?_
  refine z_pg2 (pc := 5) hZ h_a0 uc_V (zb fl_V_19) dV_asWhole_5 (fun v5_2 ev5_2 => ?_)
  refine z_lshl (pc := 8) hZ dV_asWhole_8 (fun v8_3 ev8_3 => ?_)
  exact z_retl (pc := 9) hZ dV_asWhole_9 rfl ⟨_, rfl, rfl, rfl, (by exact aw_e ev1_1 ev5_2 ev8_3)⟩
set_option maxHeartbeats 4000000 in
set_option maxRecDepth 100000 in
theorem cV_sign (l : Launch) (D : va_G) (tys : zT) (X : va_W) (LP : List Nat) (f : Nat → V3) (a0 : Nat) (h_a0 : a0 ∈ LP) : zM l D vwCl zNF zNM yV_sign wsV_sign { frames := 1, cells := 0, slots := 0, locals := 21 } [.ref a0] (X ++ PL LP f) tys (qI (fun r w' tys' => X ++ PL LP f = w' ∧ tys = tys' ∧ (∀ a, CA (f a0) a → SG (sg a) r))) := by
  refine z_met (cc := bV_sign) (maxL := 1) (ret := (some .int)) (isI := false) (own := RV) (by decide +kernel) rfl rfl (fun h => by cases h) (Nat.le_of_ble_eq_true rfl) (fun Z hZ => ?_)
  show Z 0 0 tys 0 [(0, .ref a0)] [] (X ++ PL LP f)
  refine z_aload_n (pc := 0) hZ 0 dV_sign_0 rfl rfl ?_
  obtain ⟨q1_1, hq1_1⟩ := zp_at (X := X) (f := f) h_a0
  refine z_callV (pc := 1) (As := []) (rest := []) hZ (cV_isInfinite l D tys X LP f a0 h_a0) zyV_isInfinite (z_goodV ml_V_63 im_V_isInfinite se_V_isInfinite in_V co_V_isInfinite) q1_1 hq1_1 rfl rfl rfl (by decide) rfl rfl (Nat.le_of_ble_eq_true rfl) ⟨Nat.zero_le _, Nat.zero_le _⟩ dV_sign_1 (z_ki (fun r1_1 w1 tys1 hp => ?_))
  obtain ⟨rfl, rfl, p1_1⟩ := hp
  refine z_if_eq (pc := 4) hZ 21 dV_sign_4 (by decide) (fun c4_2 => ?_) (fun c4_2 => ?_)
  · refine z_aload_n (pc := 21) hZ 0 dV_sign_21 rfl rfl ?_
    refine z_pg1 (pc := 22) hZ h_a0 uc_V (zb fl_V_15) dV_sign_22 (fun v22_3 ev22_3 => ?_)
    refine z_callS (pc := 25) (As := [.long v22_3]) (rest := []) hZ (cJL_signum l D tys (X ++ PL LP f) v22_3) zyJL_signum (z_goodS ml_V_74 st_JL_signum in_JL co_JL_signum) rfl rfl (by decide) rfl rfl (Nat.le_of_ble_eq_true rfl) ⟨Nat.zero_le _, Nat.zero_le _⟩ dV_sign_25 (z_ki (fun r25_4 w1 tys1 hp => ?_))
    obtain ⟨rfl, rfl, p25_4⟩ := hp
    exact z_reti (pc := 28) hZ dV_sign_28 .int rfl rfl ⟨_, rfl, rfl, rfl, (by first | exact fun a h => sign_f h p1_1 c4_2 ev22_3 p25_4 | exact fun a h => sign_p h p1_1 c4_2 nokey_ nokey_ | exact fun a h => sign_m h p1_1 c4_2 nokey_ nokey_)⟩
  · refine z_aload_n (pc := 7) hZ 0 dV_sign_7 rfl rfl ?_
    refine z_pg0 (pc := 8) hZ h_a0 uc_V (zb fl_V_9) dV_sign_8 (fun v8_5 ev8_5 => ?_)
    refine z_iconst (pc := 11) hZ 3 dV_sign_11 (by decide) ?_
    refine z_icmp_ne (pc := 12) hZ 19 dV_sign_12 (by decide) (fun c12_6 => ?_) (fun c12_6 => ?_)
    · refine z_iconst (pc := 19) hZ (-1) dV_sign_19 (by decide) ?_
      exact z_reti (pc := 20) hZ dV_sign_20 .int rfl rfl ⟨_, rfl, rfl, rfl, (by first | exact fun a h => sign_f h p1_1 c4_2 nokey_ nokey_ | exact fun a h => sign_p h p1_1 c4_2 ev8_5 c12_6 | exact fun a h => sign_m h p1_1 c4_2 ev8_5 c12_6)⟩
    · refine z_iconst (pc := 15) hZ 1 dV_sign_15 (by decide) ?_
      refine z_goto (pc := 16) hZ 20 dV_sign_16 (by decide) ?_
      exact z_reti (pc := 20) hZ dV_sign_20 .int rfl rfl ⟨_, rfl, rfl, rfl, (by first | exact fun a h => sign_f h p1_1 c4_2 nokey_ nokey_ | exact fun a h => sign_p h p1_1 c4_2 ev8_5 c12_6 | exact fun a h => sign_m h p1_1 c4_2 ev8_5 c12_6)⟩
