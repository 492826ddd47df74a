set_option maxHeartbeats 4000000 in
set_option maxRecDepth 100000 in
theorem cM_isRegister (l : Launch) (D : va_G) (tys : zT) (w : va_W) (p0 : Int32) : zM l D vwCl zNF zNM yM_isRegister wsM_isRegister { frames := 0, cells := 0, slots := 0, locals := 0 } [.int p0] (w) tys (qI (fun r w' tys' => w = w' ∧ tys = tys' ∧ ((r = 1 ∧ vp_in p0 32) ∨ (r = 0 ∧ ¬ vp_in p0 32)))) := by
  refine z_met (cc := bM_isRegister) (maxL := 1) (ret := (some .boolean)) (isI := false) (own := RM) (by decide +kernel) rfl rfl (fun h => by cases h) (Nat.le_of_ble_eq_true rfl) (fun Z hZ => ?_)
  show Z 0 0 tys 0 [(0, .int p0)] [] (w)
  refine z_iload_n (pc := 0) hZ 0 dM_isRegister_0 rfl rfl ?_
  refine z_if_lt (pc := 1) hZ 14 dM_isRegister_1 (by decide) (fun c1_1 => ?_) (fun c1_1 => ?_)
  · refine z_iconst (pc := 14) hZ 0 dM_isRegister_14 (by decide) ?_
    exact z_reti (pc := 15) hZ dM_isRegister_15 .boolean rfl rfl ⟨_, rfl, rfl, rfl, (by first | exact Or.inl ⟨rfl, reg_1 (by assumption) (by assumption)⟩ | exact Or.inr ⟨rfl, reg_0a (by assumption)⟩ | exact Or.inr ⟨rfl, reg_0b (by assumption)⟩)⟩
  · refine z_iload_n (pc := 4) hZ 0 dM_isRegister_4 rfl rfl ?_
    refine z_bipush (pc := 5) hZ 32 dM_isRegister_5 (by decide) ?_
    refine z_icmp_ge (pc := 7) hZ 14 dM_isRegister_7 (by decide) (fun c7_2 => ?_) (fun c7_2 => ?_)
    · refine z_iconst (pc := 14) hZ 0 dM_isRegister_14 (by decide) ?_
      exact z_reti (pc := 15) hZ dM_isRegister_15 .boolean rfl rfl ⟨_, rfl, rfl, rfl, (by first | exact Or.inl ⟨rfl, reg_1 (by assumption) (by assumption)⟩ | exact Or.inr ⟨rfl, reg_0a (by assumption)⟩ | exact Or.inr ⟨rfl, reg_0b (by assumption)⟩)⟩
    · refine z_iconst (pc := 10) hZ 1 dM_isRegister_10 (by decide) ?_
      refine z_goto (pc := 11) hZ 15 dM_isRegister_11 (by decide) ?_
      exact z_reti (pc := 15) hZ dM_isRegister_15 .boolean rfl rfl ⟨_, rfl, rfl, rfl, (by first | exact Or.inl ⟨rfl, reg_1 (by assumption) (by assumption)⟩ | exact Or.inr ⟨rfl, reg_0a (by assumption)⟩ | exact Or.inr ⟨rfl, reg_0b (by assumption)⟩)⟩
set_option maxHeartbeats 4000000 in
set_option maxRecDepth 100000 in
theorem cM_areRegisters (l : Launch) (D : va_G) (tys : zT) (w : va_W) (p0 : Int32) (p1 : Int32) : zM l D vwCl zNF zNM yM_areRegisters wsM_areRegisters { frames := 0, cells := 0, slots := 0, locals := 0 } [.int p0, .int p1] (w) tys (qI (fun r w' tys' => w = w' ∧ tys = tys' ∧ ((r = 1 ∧ rowOK p0 p1) ∨ (r = 0 ∧ ¬ rowOK p0 p1)))) := by
  refine z_met (cc := bM_areRegisters) (maxL := 2) (ret := (some .boolean)) (isI := false) (own := RM) (by decide +kernel) rfl rfl (fun h => by cases h) (Nat.le_of_ble_eq_true rfl) (fun Z hZ => ?_)
  show Z 0 0 tys 0 [(0, .int p0), (1, .int p1)] [] (w)
  refine z_iload_n (pc := 0) hZ 1 dM_areRegisters_0 rfl rfl ?_
  refine z_if_lt (pc := 1) hZ 26 dM_areRegisters_1 (by decide) (fun c1_1 => ?_) (fun c1_1 => ?_)
  · refine z_iconst (pc := 26) hZ 0 dM_areRegisters_26 (by decide) ?_
    exact z_reti (pc := 27) hZ dM_areRegisters_27 .boolean rfl rfl ⟨_, rfl, rfl, rfl, (by first | exact Or.inl ⟨rfl, row_t (by assumption) (by assumption) (by assumption) (by assumption) (by assumption)⟩ | exact Or.inr ⟨rfl, row_f1 (by assumption)⟩ | exact Or.inr ⟨rfl, row_f2 (by assumption)⟩ | exact Or.inr ⟨rfl, row_f3 (by assumption)⟩ | exact Or.inr ⟨rfl, row_f4 (by assumption) (by assumption) (by assumption) (by assumption)⟩)⟩
  · refine z_iload_n (pc := 4) hZ 0 dM_areRegisters_4 rfl rfl ?_
    refine z_if_lt (pc := 5) hZ 26 dM_areRegisters_5 (by decide) (fun c5_2 => ?_) (fun c5_2 => ?_)
    · refine z_iconst (pc := 26) hZ 0 dM_areRegisters_26 (by decide) ?_
      exact z_reti (pc := 27) hZ dM_areRegisters_27 .boolean rfl rfl ⟨_, rfl, rfl, rfl, (by first | exact Or.inl ⟨rfl, row_t (by assumption) (by assumption) (by assumption) (by assumption) (by assumption)⟩ | exact Or.inr ⟨rfl, row_f1 (by assumption)⟩ | exact Or.inr ⟨rfl, row_f2 (by assumption)⟩ | exact Or.inr ⟨rfl, row_f3 (by assumption)⟩ | exact Or.inr ⟨rfl, row_f4 (by assumption) (by assumption) (by assumption) (by assumption)⟩)⟩
    · refine z_iload_n (pc := 8) hZ 0 dM_areRegisters_8 rfl rfl ?_
      refine z_bipush (pc := 9) hZ 32 dM_areRegisters_9 (by decide) ?_
      refine z_icmp_gt (pc := 11) hZ 26 dM_areRegisters_11 (by decide) (fun c11_3 => ?_) (fun c11_3 => ?_)
      · refine z_iconst (pc := 26) hZ 0 dM_areRegisters_26 (by decide) ?_
        exact z_reti (pc := 27) hZ dM_areRegisters_27 .boolean rfl rfl ⟨_, rfl, rfl, rfl, (by first | exact Or.inl ⟨rfl, row_t (by assumption) (by assumption) (by assumption) (by assumption) (by assumption)⟩ | exact Or.inr ⟨rfl, row_f1 (by assumption)⟩ | exact Or.inr ⟨rfl, row_f2 (by assumption)⟩ | exact Or.inr ⟨rfl, row_f3 (by assumption)⟩ | exact Or.inr ⟨rfl, row_f4 (by assumption) (by assumption) (by assumption) (by assumption)⟩)⟩
      · refine z_iload_n (pc := 14) hZ 1 dM_areRegisters_14 rfl rfl ?_
        refine z_bipush (pc := 15) hZ 32 dM_areRegisters_15 (by decide) ?_
        refine z_iload_n (pc := 17) hZ 0 dM_areRegisters_17 rfl rfl ?_
        refine z_isub (pc := 18) hZ dM_areRegisters_18 (fun v18_4 ev18_4 => ?_)
        refine z_icmp_gt (pc := 19) hZ 26 dM_areRegisters_19 (by decide) (fun c19_5 => ?_) (fun c19_5 => ?_)
        · refine z_iconst (pc := 26) hZ 0 dM_areRegisters_26 (by decide) ?_
          exact z_reti (pc := 27) hZ dM_areRegisters_27 .boolean rfl rfl ⟨_, rfl, rfl, rfl, (by first | exact Or.inl ⟨rfl, row_t (by assumption) (by assumption) (by assumption) (by assumption) (by assumption)⟩ | exact Or.inr ⟨rfl, row_f1 (by assumption)⟩ | exact Or.inr ⟨rfl, row_f2 (by assumption)⟩ | exact Or.inr ⟨rfl, row_f3 (by assumption)⟩ | exact Or.inr ⟨rfl, row_f4 (by assumption) (by assumption) (by assumption) (by assumption)⟩)⟩
        · refine z_iconst (pc := 22) hZ 1 dM_areRegisters_22 (by decide) ?_
          refine z_goto (pc := 23) hZ 27 dM_areRegisters_23 (by decide) ?_
          exact z_reti (pc := 27) hZ dM_areRegisters_27 .boolean rfl rfl ⟨_, rfl, rfl, rfl, (by first | exact Or.inl ⟨rfl, row_t (by assumption) (by assumption) (by assumption) (by assumption) (by assumption)⟩ | exact Or.inr ⟨rfl, row_f1 (by assumption)⟩ | exact Or.inr ⟨rfl, row_f2 (by assumption)⟩ | exact Or.inr ⟨rfl, row_f3 (by assumption)⟩ | exact Or.inr ⟨rfl, row_f4 (by assumption) (by assumption) (by assumption) (by assumption)⟩)⟩
set_option maxHeartbeats 4000000 in
set_option maxRecDepth 100000 in
theorem cM_size (l : Launch) (D : va_G) (tys : zT) (w : va_W) (p0 : Int64) : zM l D vwCl zNF zNM yM_size wsM_size { frames := 0, cells := 0, slots := 0, locals := 0 } [.long p0] (w) tys (qL (fun r w' tys' => w = w' ∧ tys = tys' ∧ (-9223372036854775808 < p0.toInt → r.toInt = p0.toInt.natAbs))) := by
  refine z_met (cc := bM_size) (maxL := 2) (ret := (some .long)) (isI := false) (own := RM) (by decide +kernel) rfl rfl (fun h => by cases h) (Nat.le_of_ble_eq_true rfl) (fun Z hZ => ?_)
  show Z 0 0 tys 0 [(0, .long p0)] [] (w)
  refine z_lload_n (pc := 0) hZ 0 dM_size_0 rfl rfl ?_
  refine z_lconst (pc := 1) hZ 0 dM_size_1 (by decide) ?_
  refine z_lif_ge (pc := 2) hZ 11 dM_size_2 dM_size_3 (by decide) (fun c3_1 => ?_) (fun c3_1 => ?_)
  · refine z_lload_n (pc := 11) hZ 0 dM_size_11 rfl rfl ?_
    exact z_retl (pc := 12) hZ dM_size_12 rfl ⟨_, rfl, rfl, rfl, (by first | exact sz_p (by assumption) | exact sz_n (by assumption) (by assumption))⟩
  · refine z_lload_n (pc := 6) hZ 0 dM_size_6 rfl rfl ?_
    refine z_lneg (pc := 7) hZ dM_size_7 (fun v7_2 ev7_2 => ?_)
    refine z_goto (pc := 8) hZ 12 dM_size_8 (by decide) ?_
    exact z_retl (pc := 12) hZ dM_size_12 rfl ⟨_, rfl, rfl, rfl, (by first | exact sz_p (by assumption) | exact sz_n (by assumption) (by assumption))⟩
set_option maxHeartbeats 4000000 in
set_option maxRecDepth 100000 in
theorem cM_isGreat (l : Launch) (D : va_G) (tys : zT) (w : va_W) (p0 : Int32) : zM l D vwCl zNF zNM yM_isGreat wsM_isGreat { frames := 0, cells := 0, slots := 0, locals := 0 } [.int p0] (w) tys (qI (fun r w' tys' => w = w' ∧ tys = tys' ∧ ((r = 1 ∧ (p0 = 3 ∨ p0 = 4)) ∨ (r = 0 ∧ ¬ p0 = 3 ∧ ¬ p0 = 4)))) := by
  refine z_met (cc := bM_isGreat) (maxL := 1) (ret := (some .boolean)) (isI := false) (own := RM) (by decide +kernel) rfl rfl (fun h => by cases h) (Nat.le_of_ble_eq_true rfl) (fun Z hZ => ?_)
  show Z 0 0 tys 0 [(0, .int p0)] [] (w)
  refine z_iload_n (pc := 0) hZ 0 dM_isGreat_0 rfl rfl ?_
  refine z_iconst (pc := 1) hZ 3 dM_isGreat_1 (by decide) ?_
  refine z_icmp_eq (pc := 2) hZ 10 dM_isGreat_2 (by decide) (fun c2_1 => ?_) (fun c2_1 => ?_)
  · refine z_iconst (pc := 10) hZ 1 dM_isGreat_10 (by decide) ?_
    refine z_goto (pc := 11) hZ 15 dM_isGreat_11 (by decide) ?_
    exact z_reti (pc := 15) hZ dM_isGreat_15 .boolean rfl rfl ⟨_, rfl, rfl, rfl, (by first | exact Or.inl ⟨rfl, Or.inl (by assumption)⟩ | exact Or.inl ⟨rfl, Or.inr (by assumption)⟩ | exact Or.inr ⟨rfl, (by assumption), (by assumption)⟩)⟩
  · refine z_iload_n (pc := 5) hZ 0 dM_isGreat_5 rfl rfl ?_
    refine z_iconst (pc := 6) hZ 4 dM_isGreat_6 (by decide) ?_
    refine z_icmp_ne (pc := 7) hZ 14 dM_isGreat_7 (by decide) (fun c7_2 => ?_) (fun c7_2 => ?_)
    · refine z_iconst (pc := 14) hZ 0 dM_isGreat_14 (by decide) ?_
      exact z_reti (pc := 15) hZ dM_isGreat_15 .boolean rfl rfl ⟨_, rfl, rfl, rfl, (by first | exact Or.inl ⟨rfl, Or.inl (by assumption)⟩ | exact Or.inl ⟨rfl, Or.inr (by assumption)⟩ | exact Or.inr ⟨rfl, (by assumption), (by assumption)⟩)⟩
    · refine z_iconst (pc := 10) hZ 1 dM_isGreat_10 (by decide) ?_
      refine z_goto (pc := 11) hZ 15 dM_isGreat_11 (by decide) ?_
      exact z_reti (pc := 15) hZ dM_isGreat_15 .boolean rfl rfl ⟨_, rfl, rfl, rfl, (by first | exact Or.inl ⟨rfl, Or.inl (by assumption)⟩ | exact Or.inl ⟨rfl, Or.inr (by assumption)⟩ | exact Or.inr ⟨rfl, (by assumption), (by assumption)⟩)⟩
set_option maxHeartbeats 4000000 in
set_option maxRecDepth 100000 in
theorem cM_floorQuotient (l : Launch) (D : va_G) (tys : zT) (w : va_W) (p0 : Int64) (p1 : Int64) (hne : ¬ p1 = 0) : zM l D vwCl zNF zNM yM_floorQuotient wsM_floorQuotient { frames := 0, cells := 0, slots := 0, locals := 0 } [.long p0, .long p1] (w) tys (qL (fun r w' tys' => w = w' ∧ tys = tys' ∧ (True))) := by
  refine z_met (cc := bM_floorQuotient) (maxL := 6) (ret := (some .long)) (isI := false) (own := RM) (by decide +kernel) rfl rfl (fun h => by cases h) (Nat.le_of_ble_eq_true rfl) (fun Z hZ => ?_)
  show Z 0 0 tys 0 [(0, .long p0), (2, .long p1)] [] (w)
  refine z_lload_n (pc := 0) hZ 1 dM_floorQuotient_0 rfl rfl ?_
  refine z_ldc2 (pc := 1) hZ (-1) (zb kc_M_112) dM_floorQuotient_1 ?_
  refine z_lif_ne (pc := 4) hZ 11 dM_floorQuotient_4 dM_floorQuotient_5 (by decide) (fun c5_1 => ?_) (fun c5_1 => ?_)
  · refine z_lload_n (pc := 11) hZ 0 dM_floorQuotient_11 rfl rfl ?_
    refine z_lload_n (pc := 12) hZ 1 dM_floorQuotient_12 rfl rfl ?_
    refine z_ldiv (pc := 13) hZ dM_floorQuotient_13 (by assumption) (fun v13_2 ev13_2 => ?_)
    refine z_lstore (pc := 14) hZ [(4, .long v13_2), (0, .long p0), (2, .long p1)] dM_floorQuotient_14 (by decide) rfl ?_
    refine z_lload_n (pc := 16) hZ 1 dM_floorQuotient_16 rfl rfl ?_
    refine z_lload_n (pc := 17) hZ 2 dM_floorQuotient_17 rfl rfl ?_
    refine z_lrem (pc := 18) hZ dM_floorQuotient_18 (by assumption) (fun v18_3 ev18_3 => ?_)
    refine z_lconst (pc := 19) hZ 0 dM_floorQuotient_19 (by decide) ?_
    refine z_lif_eq (pc := 20) hZ 56 dM_floorQuotient_20 dM_floorQuotient_21 (by decide) (fun c21_4 => ?_) (fun c21_4 => ?_)
    · refine z_lload (pc := 56) hZ 0 dM_floorQuotient_56 rfl ?_
      exact z_retl (pc := 58) hZ dM_floorQuotient_58 rfl ⟨_, rfl, rfl, rfl, (by trivial)⟩
    · refine z_lload_n (pc := 24) hZ 1 dM_floorQuotient_24 rfl rfl ?_
      refine z_lconst (pc := 25) hZ 0 dM_floorQuotient_25 (by decide) ?_
      have J35 : ∀ (s0_35 : Int32), Z 0 0 tys 35 [(4, .long v13_2), (2, .long p1)] [.int s0_35] (w) := by
        intro s0_35
        refine z_lload_n (pc := 35) hZ 1 dM_floorQuotient_35 rfl rfl ?_
        refine z_lconst (pc := 36) hZ 0 dM_floorQuotient_36 (by decide) ?_
        have J46 : ∀ (s0_46 : Int32), Z 0 0 tys 46 [(4, .long v13_2)] [.int s0_46, .int s0_35] (w) := by
          intro s0_46
          refine z_icmp_eq (pc := 46) hZ 56 dM_floorQuotient_46 (by decide) (fun c46_5 => ?_) (fun c46_5 => ?_)
          · refine z_lload (pc := 56) hZ 0 dM_floorQuotient_56 rfl ?_
            exact z_retl (pc := 58) hZ dM_floorQuotient_58 rfl ⟨_, rfl, rfl, rfl, (by trivial)⟩
          · refine z_lload (pc := 49) hZ 0 dM_floorQuotient_49 rfl ?_
            refine z_lconst (pc := 51) hZ 1 dM_floorQuotient_51 (by decide) ?_
            refine z_lsub (pc := 52) hZ dM_floorQuotient_52 (fun v52_6 ev52_6 => ?_)
            refine z_goto (pc := 53) hZ 58 dM_floorQuotient_53 (by decide) ?_
            exact z_retl (pc := 58) hZ dM_floorQuotient_58 rfl ⟨_, rfl, rfl, rfl, (by trivial)⟩
        refine z_lif_ge (pc := 37) hZ 45 dM_floorQuotient_37 dM_floorQuotient_38 (by decide) (fun c38_7 => ?_) (fun c38_7 => ?_)
        · refine z_iconst (pc := 45) hZ 0 dM_floorQuotient_45 (by decide) ?_
          exact z_sub (pc := 46) hZ [0] rfl (J46 0)
        · refine z_iconst (pc := 41) hZ 1 dM_floorQuotient_41 (by decide) ?_
          refine z_goto (pc := 42) hZ 46 dM_floorQuotient_42 (by decide) ?_
          exact z_sub (pc := 46) hZ [0] rfl (J46 1)
      refine z_lif_ge (pc := 26) hZ 34 dM_floorQuotient_26 dM_floorQuotient_27 (by decide) (fun c27_8 => ?_) (fun c27_8 => ?_)
      · refine z_iconst (pc := 34) hZ 0 dM_floorQuotient_34 (by decide) ?_
        exact z_sub (pc := 35) hZ [0, 2] rfl (J35 0)
      · refine z_iconst (pc := 30) hZ 1 dM_floorQuotient_30 (by decide) ?_
        refine z_goto (pc := 31) hZ 35 dM_floorQuotient_31 (by decide) ?_
        exact z_sub (pc := 35) hZ [0, 2] rfl (J35 1)
  · refine z_lload_n (pc := 8) hZ 0 dM_floorQuotient_8 rfl rfl ?_
    refine z_lneg (pc := 9) hZ dM_floorQuotient_9 (fun v9_9 ev9_9 => ?_)
    exact z_retl (pc := 10) hZ dM_floorQuotient_10 rfl ⟨_, rfl, rfl, rfl, (by trivial)⟩
set_option maxHeartbeats 4000000 in
set_option maxRecDepth 100000 in
theorem cM_shifted (l : Launch) (D : va_G) (tys : zT) (w : va_W) (p0 : Int64) (p1 : Int64) : zM l D vwCl zNF zNM yM_shifted wsM_shifted { frames := 0, cells := 0, slots := 0, locals := 0 } [.long p0, .long p1] (w) tys (qL (fun r w' tys' => w = w' ∧ tys = tys' ∧ (True))) := by
  refine z_met (cc := bM_shifted) (maxL := 4) (ret := (some .long)) (isI := false) (own := RM) (by decide +kernel) rfl rfl (fun h => by cases h) (Nat.le_of_ble_eq_true rfl) (fun Z hZ => ?_)
  show Z 0 0 tys 0 [(0, .long p0), (2, .long p1)] [] (w)
  refine z_lload_n (pc := 0) hZ 1 dM_shifted_0 rfl rfl ?_
  refine z_ldc2 (pc := 1) hZ 64 (zb kc_M_122) dM_shifted_1 ?_
  refine z_lif_ge (pc := 4) hZ 16 dM_shifted_4 dM_shifted_5 (by decide) (fun c5_1 => ?_) (fun c5_1 => ?_)
  · refine z_lconst (pc := 16) hZ 0 dM_shifted_16 (by decide) ?_
    exact z_retl (pc := 17) hZ dM_shifted_17 rfl ⟨_, rfl, rfl, rfl, (by trivial)⟩
  · refine z_lload_n (pc := 8) hZ 1 dM_shifted_8 rfl rfl ?_
    refine z_ldc2 (pc := 9) hZ (-64) (zb kc_M_124) dM_shifted_9 ?_
    refine z_lif_gt (pc := 12) hZ 18 dM_shifted_12 dM_shifted_13 (by decide) (fun c13_2 => ?_) (fun c13_2 => ?_)
    · refine z_lload_n (pc := 18) hZ 1 dM_shifted_18 rfl rfl ?_
      refine z_lconst (pc := 19) hZ 0 dM_shifted_19 (by decide) ?_
      refine z_lif_ge (pc := 20) hZ 32 dM_shifted_20 dM_shifted_21 (by decide) (fun c21_3 => ?_) (fun c21_3 => ?_)
      · refine z_lload_n (pc := 32) hZ 0 dM_shifted_32 rfl rfl ?_
        refine z_lload_n (pc := 33) hZ 1 dM_shifted_33 rfl rfl ?_
        refine z_l2i (pc := 34) hZ dM_shifted_34 (fun v34_4 ev34_4 => ?_)
        refine z_lshl (pc := 35) hZ dM_shifted_35 (fun v35_5 ev35_5 => ?_)
        exact z_retl (pc := 36) hZ dM_shifted_36 rfl ⟨_, rfl, rfl, rfl, (by trivial)⟩
      · refine z_lload_n (pc := 24) hZ 0 dM_shifted_24 rfl rfl ?_
        refine z_lload_n (pc := 25) hZ 1 dM_shifted_25 rfl rfl ?_
        refine z_lneg (pc := 26) hZ dM_shifted_26 (fun v26_6 ev26_6 => ?_)
        refine z_l2i (pc := 27) hZ dM_shifted_27 (fun v27_7 ev27_7 => ?_)
        refine z_lushr (pc := 28) hZ dM_shifted_28 (fun v28_8 ev28_8 => ?_)
        refine z_goto (pc := 29) hZ 36 dM_shifted_29 (by decide) ?_
        exact z_retl (pc := 36) hZ dM_shifted_36 rfl ⟨_, rfl, rfl, rfl, (by trivial)⟩
    · refine z_lconst (pc := 16) hZ 0 dM_shifted_16 (by decide) ?_
      exact z_retl (pc := 17) hZ dM_shifted_17 rfl ⟨_, rfl, rfl, rfl, (by trivial)⟩
set_option maxHeartbeats 4000000 in
set_option maxRecDepth 100000 in
theorem cM_isWhole (l : Launch) (D : va_G) (cR c1 c2 c3 : ClassId) (h0 a1 a2 a3 : Nat) (Y : va_W) (ka : Int32) (na : Int64) (ea : Int32) (kb : Int32) (nb : Int64) (eb : Int32) (k : Int32) (n : Int64) (e : Int32) (bits : Int64) (scale : Int32) (K : Nat → Int32) (N : Nat → Int64) (E : Nat → Int32) (p1 : Int32) (p2 : Int64) (p3 : Int32) : zM l D vwCl zNF zNM yM_isWhole wsM_isWhole { frames := 0, cells := 0, slots := 0, locals := 0 } [.ref h0, .int p1, .long p2, .int p3] (MW h0 a1 a2 a3 c1 c2 c3 (ka, na, ea, kb, nb, eb, k, n, e, bits, scale, K, N, E) ++ Y) (TY cR c1 c2 c3) (qI (fun r w' tys' => MW h0 a1 a2 a3 c1 c2 c3 (ka, na, ea, kb, nb, eb, k, n, e, bits, scale, K, N, E) ++ Y = w' ∧ (TY cR c1 c2 c3) = tys' ∧ ((p1 = 1 → r = 1) ∧ (p1 = 2 → p2 = 0 → p3 = 0 → r = 1)))) := by
  refine z_met (cc := bM_isWhole) (maxL := 5) (ret := (some .boolean)) (isI := false) (own := RM) (by decide +kernel) rfl rfl (fun h => by cases h) (Nat.le_of_ble_eq_true rfl) (fun Z hZ => ?_)
  show Z 0 0 (TY cR c1 c2 c3) 0 [(0, .ref h0), (1, .int p1), (2, .long p2), (4, .int p3)] [] (MW h0 a1 a2 a3 c1 c2 c3 (ka, na, ea, kb, nb, eb, k, n, e, bits, scale, K, N, E) ++ Y)
  refine z_iload_n (pc := 0) hZ 1 dM_isWhole_0 rfl rfl ?_
  refine z_iconst (pc := 1) hZ 1 dM_isWhole_1 (by decide) ?_
  refine z_icmp_ne (pc := 2) hZ 7 dM_isWhole_2 (by decide) (fun c2_1 => ?_) (fun c2_1 => ?_)
  · refine z_iload_n (pc := 7) hZ 1 dM_isWhole_7 rfl rfl ?_
    refine z_iconst (pc := 8) hZ 2 dM_isWhole_8 (by decide) ?_
    refine z_icmp_ne (pc := 9) hZ 24 dM_isWhole_9 (by decide) (fun c9_2 => ?_) (fun c9_2 => ?_)
    · refine z_iconst (pc := 24) hZ 0 dM_isWhole_24 (by decide) ?_
      exact z_reti (pc := 25) hZ dM_isWhole_25 .boolean rfl rfl ⟨_, rfl, rfl, rfl, (by first | exact ⟨fun _ => rfl, fun _ _ _ => rfl⟩ | exact ⟨fun h => absurd h c2_1, fun h => absurd h c9_2⟩ | exact ⟨fun h => absurd h c2_1, fun _ _ h => (iw_1 h nokey_).elim⟩ | exact ⟨fun h => absurd h c2_1, fun _ _ h => (iw_2 h nokey_).elim⟩ | exact ⟨fun h => absurd h c2_1, fun _ _ h => (iw_3 h nokey_).elim⟩ | exact ⟨fun h => absurd h c2_1, fun _ h1 h2 => (iw_4 nokey_ nokey_ h1 h2 nokey_).elim⟩)⟩
    · refine z_iload (pc := 12) hZ 3 dM_isWhole_12 rfl ?_
      refine z_if_lt (pc := 14) hZ 24 dM_isWhole_14 (by decide) (fun c14_3 => ?_) (fun c14_3 => ?_)
      · refine z_iconst (pc := 24) hZ 0 dM_isWhole_24 (by decide) ?_
        exact z_reti (pc := 25) hZ dM_isWhole_25 .boolean rfl rfl ⟨_, rfl, rfl, rfl, (by first | exact ⟨fun _ => rfl, fun _ _ _ => rfl⟩ | exact ⟨fun h => absurd h c2_1, fun h => absurd h c9_2⟩ | exact ⟨fun h => absurd h c2_1, fun _ _ h => (iw_1 h c14_3).elim⟩ | exact ⟨fun h => absurd h c2_1, fun _ _ h => (iw_2 h nokey_).elim⟩ | exact ⟨fun h => absurd h c2_1, fun _ _ h => (iw_3 h nokey_).elim⟩ | exact ⟨fun h => absurd h c2_1, fun _ h1 h2 => (iw_4 nokey_ nokey_ h1 h2 nokey_).elim⟩)⟩
      · refine z_iload (pc := 17) hZ 3 dM_isWhole_17 rfl ?_
        refine z_bipush (pc := 19) hZ 63 dM_isWhole_19 (by decide) ?_
        refine z_icmp_le (pc := 21) hZ 26 dM_isWhole_21 (by decide) (fun c21_4 => ?_) (fun c21_4 => ?_)
        · refine z_iload (pc := 26) hZ 3 dM_isWhole_26 rfl ?_
          refine z_bipush (pc := 28) hZ 63 dM_isWhole_28 (by decide) ?_
          refine z_icmp_ne (pc := 30) hZ 47 dM_isWhole_30 (by decide) (fun c30_5 => ?_) (fun c30_5 => ?_)
          · refine z_lload_n (pc := 47) hZ 2 dM_isWhole_47 rfl rfl ?_
            refine z_iload (pc := 48) hZ 3 dM_isWhole_48 rfl ?_
            refine z_lshl (pc := 50) hZ dM_isWhole_50 (fun v50_6 ev50_6 => ?_)
            refine z_iload (pc := 51) hZ 3 dM_isWhole_51 rfl ?_
            refine z_lshr (pc := 53) hZ dM_isWhole_53 (fun v53_7 ev53_7 => ?_)
            refine z_lload_n (pc := 54) hZ 2 dM_isWhole_54 rfl rfl ?_
            refine z_lif_ne (pc := 55) hZ 63 dM_isWhole_55 dM_isWhole_56 (by decide) (fun c56_8 => ?_) (fun c56_8 => ?_)
            · refine z_iconst (pc := 63) hZ 0 dM_isWhole_63 (by decide) ?_
              exact z_reti (pc := 64) hZ dM_isWhole_64 .boolean rfl rfl ⟨_, rfl, rfl, rfl, (by first | exact ⟨fun _ => rfl, fun _ _ _ => rfl⟩ | exact ⟨fun h => absurd h c2_1, fun h => absurd h c9_2⟩ | exact ⟨fun h => absurd h c2_1, fun _ _ h => (iw_1 h c14_3).elim⟩ | exact ⟨fun h => absurd h c2_1, fun _ _ h => (iw_2 h c21_4).elim⟩ | exact ⟨fun h => absurd h c2_1, fun _ _ h => (iw_3 h c30_5).elim⟩ | exact ⟨fun h => absurd h c2_1, fun _ h1 h2 => (iw_4 ev50_6 ev53_7 h1 h2 c56_8).elim⟩)⟩
            · refine z_iconst (pc := 59) hZ 1 dM_isWhole_59 (by decide) ?_
              refine z_goto (pc := 60) hZ 64 dM_isWhole_60 (by decide) ?_
              exact z_reti (pc := 64) hZ dM_isWhole_64 .boolean rfl rfl ⟨_, rfl, rfl, rfl, (by first | exact ⟨fun _ => rfl, fun _ _ _ => rfl⟩ | exact ⟨fun h => absurd h c2_1, fun h => absurd h c9_2⟩ | exact ⟨fun h => absurd h c2_1, fun _ _ h => (iw_1 h c14_3).elim⟩ | exact ⟨fun h => absurd h c2_1, fun _ _ h => (iw_2 h c21_4).elim⟩ | exact ⟨fun h => absurd h c2_1, fun _ _ h => (iw_3 h c30_5).elim⟩ | exact ⟨fun h => absurd h c2_1, fun _ h1 h2 => (iw_4 ev50_6 ev53_7 h1 h2 c56_8).elim⟩)⟩
          · refine z_lload_n (pc := 33) hZ 2 dM_isWhole_33 rfl rfl ?_
            refine z_ldc2 (pc := 34) hZ (-1) (zb kc_M_112) dM_isWhole_34 ?_
            refine z_lif_ne (pc := 37) hZ 45 dM_isWhole_37 dM_isWhole_38 (by decide) (fun c38_9 => ?_) (fun c38_9 => ?_)
            · refine z_iconst (pc := 45) hZ 0 dM_isWhole_45 (by decide) ?_
              exact z_reti (pc := 46) hZ dM_isWhole_46 .boolean rfl rfl ⟨_, rfl, rfl, rfl, (by first | exact ⟨fun _ => rfl, fun _ _ _ => rfl⟩ | exact ⟨fun h => absurd h c2_1, fun h => absurd h c9_2⟩ | exact ⟨fun h => absurd h c2_1, fun _ _ h => (iw_1 h c14_3).elim⟩ | exact ⟨fun h => absurd h c2_1, fun _ _ h => (iw_2 h c21_4).elim⟩ | exact ⟨fun h => absurd h c2_1, fun _ _ h => (iw_3 h c30_5).elim⟩ | exact ⟨fun h => absurd h c2_1, fun _ h1 h2 => (iw_4 nokey_ nokey_ h1 h2 nokey_).elim⟩)⟩
            · refine z_iconst (pc := 41) hZ 1 dM_isWhole_41 (by decide) ?_
              refine z_goto (pc := 42) hZ 46 dM_isWhole_42 (by decide) ?_
              exact z_reti (pc := 46) hZ dM_isWhole_46 .boolean rfl rfl ⟨_, rfl, rfl, rfl, (by first | exact ⟨fun _ => rfl, fun _ _ _ => rfl⟩ | exact ⟨fun h => absurd h c2_1, fun h => absurd h c9_2⟩ | exact ⟨fun h => absurd h c2_1, fun _ _ h => (iw_1 h c14_3).elim⟩ | exact ⟨fun h => absurd h c2_1, fun _ _ h => (iw_2 h c21_4).elim⟩ | exact ⟨fun h => absurd h c2_1, fun _ _ h => (iw_3 h c30_5).elim⟩ | exact ⟨fun h => absurd h c2_1, fun _ h1 h2 => (iw_4 nokey_ nokey_ h1 h2 nokey_).elim⟩)⟩
        · refine z_iconst (pc := 24) hZ 0 dM_isWhole_24 (by decide) ?_
          exact z_reti (pc := 25) hZ dM_isWhole_25 .boolean rfl rfl ⟨_, rfl, rfl, rfl, (by first | exact ⟨fun _ => rfl, fun _ _ _ => rfl⟩ | exact ⟨fun h => absurd h c2_1, fun h => absurd h c9_2⟩ | exact ⟨fun h => absurd h c2_1, fun _ _ h => (iw_1 h c14_3).elim⟩ | exact ⟨fun h => absurd h c2_1, fun _ _ h => (iw_2 h c21_4).elim⟩ | exact ⟨fun h => absurd h c2_1, fun _ _ h => (iw_3 h nokey_).elim⟩ | exact ⟨fun h => absurd h c2_1, fun _ h1 h2 => (iw_4 nokey_ nokey_ h1 h2 nokey_).elim⟩)⟩
  · refine z_iconst (pc := 5) hZ 1 dM_isWhole_5 (by decide) ?_
    exact z_reti (pc := 6) hZ dM_isWhole_6 .boolean rfl rfl ⟨_, rfl, rfl, rfl, (by first | exact ⟨fun _ => rfl, fun _ _ _ => rfl⟩ | exact ⟨fun h => absurd h c2_1, fun h => absurd h nokey_⟩ | exact ⟨fun h => absurd h c2_1, fun _ _ h => (iw_1 h nokey_).elim⟩ | exact ⟨fun h => absurd h c2_1, fun _ _ h => (iw_2 h nokey_).elim⟩ | exact ⟨fun h => absurd h c2_1, fun _ _ h => (iw_3 h nokey_).elim⟩ | exact ⟨fun h => absurd h c2_1, fun _ h1 h2 => (iw_4 nokey_ nokey_ h1 h2 nokey_).elim⟩)⟩
set_option maxHeartbeats 4000000 in
set_option maxRecDepth 100000 in
theorem cM_wholeOf (l : Launch) (D : va_G) (cR c1 c2 c3 : ClassId) (h0 a1 a2 a3 : Nat) (Y : va_W) (ka : Int32) (na : Int64) (ea : Int32) (kb : Int32) (nb : Int64) (eb : Int32) (k : Int32) (n : Int64) (e : Int32) (bits : Int64) (scale : Int32) (K : Nat → Int32) (N : Nat → Int64) (E : Nat → Int32) (p1 : Int32) (p2 : Int64) (p3 : Int32) : zM l D vwCl zNF zNM yM_wholeOf wsM_wholeOf { frames := 0, cells := 0, slots := 0, locals := 0 } [.ref h0, .int p1, .long p2, .int p3] (MW h0 a1 a2 a3 c1 c2 c3 (ka, na, ea, kb, nb, eb, k, n, e, bits, scale, K, N, E) ++ Y) (TY cR c1 c2 c3) (qL (fun r w' tys' => MW h0 a1 a2 a3 c1 c2 c3 (ka, na, ea, kb, nb, eb, k, n, e, bits, scale, K, N, E) ++ Y = w' ∧ (TY cR c1 c2 c3) = tys' ∧ (p2 = 0 → p3 = 0 → r = 0))) := by
  refine z_met (cc := bM_wholeOf) (maxL := 5) (ret := (some .long)) (isI := false) (own := RM) (by decide +kernel) rfl rfl (fun h => by cases h) (Nat.le_of_ble_eq_true rfl) (fun Z hZ => ?_)
  show Z 0 0 (TY cR c1 c2 c3) 0 [(0, .ref h0), (1, .int p1), (2, .long p2), (4, .int p3)] [] (MW h0 a1 a2 a3 c1 c2 c3 (ka, na, ea, kb, nb, eb, k, n, e, bits, scale, K, N, E) ++ Y)
  refine z_iload_n (pc := 0) hZ 1 dM_wholeOf_0 rfl rfl ?_
  refine z_iconst (pc := 1) hZ 1 dM_wholeOf_1 (by decide) ?_
  refine z_icmp_ne (pc := 2) hZ 9 dM_wholeOf_2 (by decide) (fun c2_1 => ?_) (fun c2_1 => ?_)
  · refine z_lload_n (pc := 9) hZ 2 dM_wholeOf_9 rfl rfl ?_
    refine z_iload (pc := 10) hZ 3 dM_wholeOf_10 rfl ?_
    refine z_lshl (pc := 12) hZ dM_wholeOf_12 (fun v12_2 ev12_2 => ?_)
    exact z_retl (pc := 13) hZ dM_wholeOf_13 rfl ⟨_, rfl, rfl, rfl, (by first | exact fun h _ => h | exact fun h h3 => aw_z ev12_2 h h3)⟩
  · refine z_lload_n (pc := 5) hZ 2 dM_wholeOf_5 rfl rfl ?_
    refine z_goto (pc := 6) hZ 13 dM_wholeOf_6 (by decide) ?_
    exact z_retl (pc := 13) hZ dM_wholeOf_13 rfl ⟨_, rfl, rfl, rfl, (by first | exact fun h _ => h | exact fun h h3 => aw_z nokey_ h h3)⟩
set_option maxHeartbeats 4000000 in
set_option maxRecDepth 100000 in
theorem cM_setWhole (l : Launch) (D : va_G) (cR c1 c2 c3 : ClassId) (h0 a1 a2 a3 : Nat) (Y : va_W) (ka : Int32) (na : Int64) (ea : Int32) (kb : Int32) (nb : Int64) (eb : Int32) (k : Int32) (n : Int64) (e : Int32) (bits : Int64) (scale : Int32) (K : Nat → Int32) (N : Nat → Int64) (E : Nat → Int32) (p1 : Int64) : zM l D vwCl zNF zNM yM_setWhole wsM_setWhole { frames := 0, cells := 0, slots := 0, locals := 0 } [.ref h0, .long p1] (MW h0 a1 a2 a3 c1 c2 c3 (ka, na, ea, kb, nb, eb, k, n, e, bits, scale, K, N, E) ++ Y) (TY cR c1 c2 c3) (qV (fun w' tys' => ∃ k' : Int32, ∃ n' : Int64, ∃ e' : Int32, MW h0 a1 a2 a3 c1 c2 c3 (ka, na, ea, kb, nb, eb, k', n', e', bits, scale, K, N, E) ++ Y = w' ∧ (TY cR c1 c2 c3) = tys' ∧ (k' = 1 ∧ n' = p1 ∧ e' = 0))) := by
  refine z_met (cc := bM_setWhole) (maxL := 3) (ret := none) (isI := false) (own := RM) (by decide +kernel) rfl rfl (fun h => by cases h) (Nat.le_of_ble_eq_true rfl) (fun Z hZ => ?_)
  show Z 0 0 (TY cR c1 c2 c3) 0 [(0, .ref h0), (1, .long p1)] [] (MW h0 a1 a2 a3 c1 c2 c3 (ka, na, ea, kb, nb, eb, k, n, e, bits, scale, K, N, E) ++ Y)
  refine z_aload_n (pc := 0) hZ 0 dM_setWhole_0 rfl rfl ?_
  refine z_iconst (pc := 1) hZ 1 dM_setWhole_1 (by decide) ?_
  refine z_put (pc := 2) (ci := 2) hZ 0 rfl rfl uc_M 9 (by decide) (zb fl_M_20) tyM tyM_ok nmM rfl rfl rfl (Nat.le_of_ble_eq_true rfl) dM_setWhole_2 ?_
  show Z 0 0 (TY cR c1 c2 c3) (2 + 3) [(0, .ref h0), (1, .long p1)] [] (MW h0 a1 a2 a3 c1 c2 c3 (ka, na, ea, kb, nb, eb, 1, n, e, bits, scale, K, N, E) ++ Y)
  refine z_aload_n (pc := 5) hZ 0 dM_setWhole_5 rfl rfl ?_
  refine z_lload_n (pc := 6) hZ 1 dM_setWhole_6 rfl rfl ?_
  refine z_put (pc := 7) (ci := 2) hZ 0 rfl rfl uc_M 10 (by decide) (zb fl_M_24) tyM tyM_ok nmM rfl rfl rfl (Nat.le_of_ble_eq_true rfl) dM_setWhole_7 ?_
  show Z 0 0 (TY cR c1 c2 c3) (7 + 3) [(0, .ref h0), (1, .long p1)] [] (MW h0 a1 a2 a3 c1 c2 c3 (ka, na, ea, kb, nb, eb, 1, p1, e, bits, scale, K, N, E) ++ Y)
  refine z_aload_n (pc := 10) hZ 0 dM_setWhole_10 rfl rfl ?_
  refine z_iconst (pc := 11) hZ 0 dM_setWhole_11 (by decide) ?_
  refine z_put (pc := 12) (ci := 2) hZ 0 rfl rfl uc_M 11 (by decide) (zb fl_M_28) tyM tyM_ok nmM rfl rfl rfl (Nat.le_of_ble_eq_true rfl) dM_setWhole_12 ?_
  show Z 0 0 (TY cR c1 c2 c3) (12 + 3) [(0, .ref h0), (1, .long p1)] [] (MW h0 a1 a2 a3 c1 c2 c3 (ka, na, ea, kb, nb, eb, 1, p1, 0, bits, scale, K, N, E) ++ Y)
  exact z_retv (pc := 15) hZ dM_setWhole_15 rfl ⟨rfl, _, _, _, rfl, rfl, (by exact ⟨rfl, rfl, rfl⟩)⟩
set_option maxHeartbeats 4000000 in
set_option maxRecDepth 100000 in
theorem cM_setSpecial (l : Launch) (D : va_G) (cR c1 c2 c3 : ClassId) (h0 a1 a2 a3 : Nat) (Y : va_W) (ka : Int32) (na : Int64) (ea : Int32) (kb : Int32) (nb : Int64) (eb : Int32) (k : Int32) (n : Int64) (e : Int32) (bits : Int64) (scale : Int32) (K : Nat → Int32) (N : Nat → Int64) (E : Nat → Int32) (p1 : Int32) : zM l D vwCl zNF zNM yM_setSpecial wsM_setSpecial { frames := 0, cells := 0, slots := 0, locals := 0 } [.ref h0, .int p1] (MW h0 a1 a2 a3 c1 c2 c3 (ka, na, ea, kb, nb, eb, k, n, e, bits, scale, K, N, E) ++ Y) (TY cR c1 c2 c3) (qV (fun w' tys' => ∃ k' : Int32, ∃ n' : Int64, ∃ e' : Int32, MW h0 a1 a2 a3 c1 c2 c3 (ka, na, ea, kb, nb, eb, k', n', e', bits, scale, K, N, E) ++ Y = w' ∧ (TY cR c1 c2 c3) = tys' ∧ (k' = p1 ∧ n' = 0 ∧ e' = 0))) := by
  refine z_met (cc := bM_setSpecial) (maxL := 2) (ret := none) (isI := false) (own := RM) (by decide +kernel) rfl rfl (fun h => by cases h) (Nat.le_of_ble_eq_true rfl) (fun Z hZ => ?_)
  show Z 0 0 (TY cR c1 c2 c3) 0 [(0, .ref h0), (1, .int p1)] [] (MW h0 a1 a2 a3 c1 c2 c3 (ka, na, ea, kb, nb, eb, k, n, e, bits, scale, K, N, E) ++ Y)
  refine z_aload_n (pc := 0) hZ 0 dM_setSpecial_0 rfl rfl ?_
  refine z_iload_n (pc := 1) hZ 1 dM_setSpecial_1 rfl rfl ?_
  refine z_put (pc := 2) (ci := 2) hZ 0 rfl rfl uc_M 9 (by decide) (zb fl_M_20) tyM tyM_ok nmM rfl rfl rfl (Nat.le_of_ble_eq_true rfl) dM_setSpecial_2 ?_
  show Z 0 0 (TY cR c1 c2 c3) (2 + 3) [(0, .ref h0), (1, .int p1)] [] (MW h0 a1 a2 a3 c1 c2 c3 (ka, na, ea, kb, nb, eb, p1, n, e, bits, scale, K, N, E) ++ Y)
  refine z_aload_n (pc := 5) hZ 0 dM_setSpecial_5 rfl rfl ?_
  refine z_lconst (pc := 6) hZ 0 dM_setSpecial_6 (by decide) ?_
  refine z_put (pc := 7) (ci := 2) hZ 0 rfl rfl uc_M 10 (by decide) (zb fl_M_24) tyM tyM_ok nmM rfl rfl rfl (Nat.le_of_ble_eq_true rfl) dM_setSpecial_7 ?_
  show Z 0 0 (TY cR c1 c2 c3) (7 + 3) [(0, .ref h0), (1, .int p1)] [] (MW h0 a1 a2 a3 c1 c2 c3 (ka, na, ea, kb, nb, eb, p1, 0, e, bits, scale, K, N, E) ++ Y)
  refine z_aload_n (pc := 10) hZ 0 dM_setSpecial_10 rfl rfl ?_
  refine z_iconst (pc := 11) hZ 0 dM_setSpecial_11 (by decide) ?_
  refine z_put (pc := 12) (ci := 2) hZ 0 rfl rfl uc_M 11 (by decide) (zb fl_M_28) tyM tyM_ok nmM rfl rfl rfl (Nat.le_of_ble_eq_true rfl) dM_setSpecial_12 ?_
  show Z 0 0 (TY cR c1 c2 c3) (12 + 3) [(0, .ref h0), (1, .int p1)] [] (MW h0 a1 a2 a3 c1 c2 c3 (ka, na, ea, kb, nb, eb, p1, 0, 0, bits, scale, K, N, E) ++ Y)
  exact z_retv (pc := 15) hZ dM_setSpecial_15 rfl ⟨rfl, _, _, _, rfl, rfl, (by exact ⟨rfl, rfl, rfl⟩)⟩
set_option maxHeartbeats 4000000 in
set_option maxRecDepth 100000 in
theorem cM_takeA (l : Launch) (D : va_G) (cR c1 c2 c3 : ClassId) (h0 a1 a2 a3 : Nat) (Y : va_W) (ka : Int32) (na : Int64) (ea : Int32) (kb : Int32) (nb : Int64) (eb : Int32) (k : Int32) (n : Int64) (e : Int32) (bits : Int64) (scale : Int32) (K : Nat → Int32) (N : Nat → Int64) (E : Nat → Int32) (p1 : Int32) (hi : vp_in p1 32) : zM l D vwCl zNF zNM yM_takeA wsM_takeA { frames := 0, cells := 0, slots := 0, locals := 0 } [.ref h0, .int p1] (MW h0 a1 a2 a3 c1 c2 c3 (ka, na, ea, kb, nb, eb, k, n, e, bits, scale, K, N, E) ++ Y) (TY cR c1 c2 c3) (qV (fun w' tys' => ∃ ka' : Int32, ∃ na' : Int64, ∃ ea' : Int32, MW h0 a1 a2 a3 c1 c2 c3 (ka', na', ea', kb, nb, eb, k, n, e, bits, scale, K, N, E) ++ Y = w' ∧ (TY cR c1 c2 c3) = tys' ∧ (ka' = K p1.toNatClampNeg ∧ na' = N p1.toNatClampNeg ∧ ea' = E p1.toNatClampNeg))) := by
  refine z_met (cc := bM_takeA) (maxL := 2) (ret := none) (isI := false) (own := RM) (by decide +kernel) rfl rfl (fun h => by cases h) (Nat.le_of_ble_eq_true rfl) (fun Z hZ => ?_)
  show Z 0 0 (TY cR c1 c2 c3) 0 [(0, .ref h0), (1, .int p1)] [] (MW h0 a1 a2 a3 c1 c2 c3 (ka, na, ea, kb, nb, eb, k, n, e, bits, scale, K, N, E) ++ Y)
  refine z_aload_n (pc := 0) hZ 0 dM_takeA_0 rfl rfl ?_
  refine z_aload_n (pc := 1) hZ 0 dM_takeA_1 rfl rfl ?_
  refine z_get (pc := 2) (ci := 2) hZ 0 rfl rfl uc_M 0 (by decide) (zb fl_M_7) rfl dM_takeA_2 ?_
  refine z_iload_n (pc := 5) hZ 1 dM_takeA_5 rfl rfl ?_
  refine z_iald (pc := 6) hZ 1 1 rfl rfl (by assumption) dM_takeA_6 (fun v6_1 ev6_1 => ?_)
  refine z_put (pc := 7) (ci := 2) hZ 0 rfl rfl uc_M 3 (by decide) (zb fl_M_51) tyM tyM_ok nmM rfl rfl rfl (Nat.le_of_ble_eq_true rfl) dM_takeA_7 ?_
  show Z 0 0 (TY cR c1 c2 c3) (7 + 3) [(0, .ref h0), (1, .int p1)] [] (MW h0 a1 a2 a3 c1 c2 c3 (v6_1, na, ea, kb, nb, eb, k, n, e, bits, scale, K, N, E) ++ Y)
  refine z_aload_n (pc := 10) hZ 0 dM_takeA_10 rfl rfl ?_
  refine z_aload_n (pc := 11) hZ 0 dM_takeA_11 rfl rfl ?_
  refine z_get (pc := 12) (ci := 2) hZ 0 rfl rfl uc_M 1 (by decide) (zb fl_M_13) rfl dM_takeA_12 ?_
  refine z_iload_n (pc := 15) hZ 1 dM_takeA_15 rfl rfl ?_
  refine z_lald (pc := 16) hZ 2 2 rfl rfl (by assumption) dM_takeA_16 (fun v16_2 ev16_2 => ?_)
  refine z_put (pc := 17) (ci := 2) hZ 0 rfl rfl uc_M 4 (by decide) (zb fl_M_54) tyM tyM_ok nmM rfl rfl rfl (Nat.le_of_ble_eq_true rfl) dM_takeA_17 ?_
  show Z 0 0 (TY cR c1 c2 c3) (17 + 3) [(0, .ref h0), (1, .int p1)] [] (MW h0 a1 a2 a3 c1 c2 c3 (v6_1, v16_2, ea, kb, nb, eb, k, n, e, bits, scale, K, N, E) ++ Y)
  refine z_aload_n (pc := 20) hZ 0 dM_takeA_20 rfl rfl ?_
  refine z_aload_n (pc := 21) hZ 0 dM_takeA_21 rfl rfl ?_
  refine z_get (pc := 22) (ci := 2) hZ 0 rfl rfl uc_M 2 (by decide) (zb fl_M_17) rfl dM_takeA_22 ?_
  refine z_iload_n (pc := 25) hZ 1 dM_takeA_25 rfl rfl ?_
  refine z_iald (pc := 26) hZ 3 3 rfl rfl (by assumption) dM_takeA_26 (fun v26_3 ev26_3 => ?_)
  refine z_put (pc := 27) (ci := 2) hZ 0 rfl rfl uc_M 5 (by decide) (zb fl_M_57) tyM tyM_ok nmM rfl rfl rfl (Nat.le_of_ble_eq_true rfl) dM_takeA_27 ?_
  show Z 0 0 (TY cR c1 c2 c3) (27 + 3) [(0, .ref h0), (1, .int p1)] [] (MW h0 a1 a2 a3 c1 c2 c3 (v6_1, v16_2, v26_3, kb, nb, eb, k, n, e, bits, scale, K, N, E) ++ Y)
  exact z_retv (pc := 30) hZ dM_takeA_30 rfl ⟨rfl, _, _, _, rfl, rfl, (by exact ⟨(by assumption), (by assumption), (by assumption)⟩)⟩
set_option maxHeartbeats 4000000 in
set_option maxRecDepth 100000 in
theorem cM_takeB (l : Launch) (D : va_G) (cR c1 c2 c3 : ClassId) (h0 a1 a2 a3 : Nat) (Y : va_W) (ka : Int32) (na : Int64) (ea : Int32) (kb : Int32) (nb : Int64) (eb : Int32) (k : Int32) (n : Int64) (e : Int32) (bits : Int64) (scale : Int32) (K : Nat → Int32) (N : Nat → Int64) (E : Nat → Int32) (p1 : Int32) (hi : vp_in p1 32) : zM l D vwCl zNF zNM yM_takeB wsM_takeB { frames := 0, cells := 0, slots := 0, locals := 0 } [.ref h0, .int p1] (MW h0 a1 a2 a3 c1 c2 c3 (ka, na, ea, kb, nb, eb, k, n, e, bits, scale, K, N, E) ++ Y) (TY cR c1 c2 c3) (qV (fun w' tys' => ∃ kb' : Int32, ∃ nb' : Int64, ∃ eb' : Int32, MW h0 a1 a2 a3 c1 c2 c3 (ka, na, ea, kb', nb', eb', k, n, e, bits, scale, K, N, E) ++ Y = w' ∧ (TY cR c1 c2 c3) = tys' ∧ (kb' = K p1.toNatClampNeg ∧ nb' = N p1.toNatClampNeg ∧ eb' = E p1.toNatClampNeg))) := by
  refine z_met (cc := bM_takeB) (maxL := 2) (ret := none) (isI := false) (own := RM) (by decide +kernel) rfl rfl (fun h => by cases h) (Nat.le_of_ble_eq_true rfl) (fun Z hZ => ?_)
  show Z 0 0 (TY cR c1 c2 c3) 0 [(0, .ref h0), (1, .int p1)] [] (MW h0 a1 a2 a3 c1 c2 c3 (ka, na, ea, kb, nb, eb, k, n, e, bits, scale, K, N, E) ++ Y)
  refine z_aload_n (pc := 0) hZ 0 dM_takeB_0 rfl rfl ?_
  refine z_aload_n (pc := 1) hZ 0 dM_takeB_1 rfl rfl ?_
  refine z_get (pc := 2) (ci := 2) hZ 0 rfl rfl uc_M 0 (by decide) (zb fl_M_7) rfl dM_takeB_2 ?_
  refine z_iload_n (pc := 5) hZ 1 dM_takeB_5 rfl rfl ?_
  refine z_iald (pc := 6) hZ 1 1 rfl rfl (by assumption) dM_takeB_6 (fun v6_1 ev6_1 => ?_)
  refine z_put (pc := 7) (ci := 2) hZ 0 rfl rfl uc_M 6 (by decide) (zb fl_M_60) tyM tyM_ok nmM rfl rfl rfl (Nat.le_of_ble_eq_true rfl) dM_takeB_7 ?_
  show Z 0 0 (TY cR c1 c2 c3) (7 + 3) [(0, .ref h0), (1, .int p1)] [] (MW h0 a1 a2 a3 c1 c2 c3 (ka, na, ea, v6_1, nb, eb, k, n, e, bits, scale, K, N, E) ++ Y)
  refine z_aload_n (pc := 10) hZ 0 dM_takeB_10 rfl rfl ?_
  refine z_aload_n (pc := 11) hZ 0 dM_takeB_11 rfl rfl ?_
  refine z_get (pc := 12) (ci := 2) hZ 0 rfl rfl uc_M 1 (by decide) (zb fl_M_13) rfl dM_takeB_12 ?_
  refine z_iload_n (pc := 15) hZ 1 dM_takeB_15 rfl rfl ?_
  refine z_lald (pc := 16) hZ 2 2 rfl rfl (by assumption) dM_takeB_16 (fun v16_2 ev16_2 => ?_)
  refine z_put (pc := 17) (ci := 2) hZ 0 rfl rfl uc_M 7 (by decide) (zb fl_M_63) tyM tyM_ok nmM rfl rfl rfl (Nat.le_of_ble_eq_true rfl) dM_takeB_17 ?_
  show Z 0 0 (TY cR c1 c2 c3) (17 + 3) [(0, .ref h0), (1, .int p1)] [] (MW h0 a1 a2 a3 c1 c2 c3 (ka, na, ea, v6_1, v16_2, eb, k, n, e, bits, scale, K, N, E) ++ Y)
  refine z_aload_n (pc := 20) hZ 0 dM_takeB_20 rfl rfl ?_
  refine z_aload_n (pc := 21) hZ 0 dM_takeB_21 rfl rfl ?_
  refine z_get (pc := 22) (ci := 2) hZ 0 rfl rfl uc_M 2 (by decide) (zb fl_M_17) rfl dM_takeB_22 ?_
  refine z_iload_n (pc := 25) hZ 1 dM_takeB_25 rfl rfl ?_
  refine z_iald (pc := 26) hZ 3 3 rfl rfl (by assumption) dM_takeB_26 (fun v26_3 ev26_3 => ?_)
  refine z_put (pc := 27) (ci := 2) hZ 0 rfl rfl uc_M 8 (by decide) (zb fl_M_66) tyM tyM_ok nmM rfl rfl rfl (Nat.le_of_ble_eq_true rfl) dM_takeB_27 ?_
  show Z 0 0 (TY cR c1 c2 c3) (27 + 3) [(0, .ref h0), (1, .int p1)] [] (MW h0 a1 a2 a3 c1 c2 c3 (ka, na, ea, v6_1, v16_2, v26_3, k, n, e, bits, scale, K, N, E) ++ Y)
  exact z_retv (pc := 30) hZ dM_takeB_30 rfl ⟨rfl, _, _, _, rfl, rfl, (by exact ⟨(by assumption), (by assumption), (by assumption)⟩)⟩
set_option maxHeartbeats 4000000 in
set_option maxRecDepth 100000 in
theorem cM_resultToA (l : Launch) (D : va_G) (cR c1 c2 c3 : ClassId) (h0 a1 a2 a3 : Nat) (Y : va_W) (ka : Int32) (na : Int64) (ea : Int32) (kb : Int32) (nb : Int64) (eb : Int32) (k : Int32) (n : Int64) (e : Int32) (bits : Int64) (scale : Int32) (K : Nat → Int32) (N : Nat → Int64) (E : Nat → Int32)  : zM l D vwCl zNF zNM yM_resultToA wsM_resultToA { frames := 0, cells := 0, slots := 0, locals := 0 } [.ref h0] (MW h0 a1 a2 a3 c1 c2 c3 (ka, na, ea, kb, nb, eb, k, n, e, bits, scale, K, N, E) ++ Y) (TY cR c1 c2 c3) (qV (fun w' tys' => ∃ ka' : Int32, ∃ na' : Int64, ∃ ea' : Int32, MW h0 a1 a2 a3 c1 c2 c3 (ka', na', ea', kb, nb, eb, k, n, e, bits, scale, K, N, E) ++ Y = w' ∧ (TY cR c1 c2 c3) = tys' ∧ (ka' = k ∧ na' = n ∧ ea' = e))) := by
  refine z_met (cc := bM_resultToA) (maxL := 1) (ret := none) (isI := false) (own := RM) (by decide +kernel) rfl rfl (fun h => by cases h) (Nat.le_of_ble_eq_true rfl) (fun Z hZ => ?_)
  show Z 0 0 (TY cR c1 c2 c3) 0 [(0, .ref h0)] [] (MW h0 a1 a2 a3 c1 c2 c3 (ka, na, ea, kb, nb, eb, k, n, e, bits, scale, K, N, E) ++ Y)
  refine z_aload_n (pc := 0) hZ 0 dM_resultToA_0 rfl rfl ?_
  refine z_aload_n (pc := 1) hZ 0 dM_resultToA_1 rfl rfl ?_
  refine z_get (pc := 2) (ci := 2) hZ 0 rfl rfl uc_M 9 (by decide) (zb fl_M_20) rfl dM_resultToA_2 ?_
  refine z_put (pc := 5) (ci := 2) hZ 0 rfl rfl uc_M 3 (by decide) (zb fl_M_51) tyM tyM_ok nmM rfl rfl rfl (Nat.le_of_ble_eq_true rfl) dM_resultToA_5 ?_
  show Z 0 0 (TY cR c1 c2 c3) (5 + 3) [(0, .ref h0)] [] (MW h0 a1 a2 a3 c1 c2 c3 (k, na, ea, kb, nb, eb, k, n, e, bits, scale, K, N, E) ++ Y)
  refine z_aload_n (pc := 8) hZ 0 dM_resultToA_8 rfl rfl ?_
  refine z_aload_n (pc := 9) hZ 0 dM_resultToA_9 rfl rfl ?_
  refine z_get (pc := 10) (ci := 2) hZ 0 rfl rfl uc_M 10 (by decide) (zb fl_M_24) rfl dM_resultToA_10 ?_
  refine z_put (pc := 13) (ci := 2) hZ 0 rfl rfl uc_M 4 (by decide) (zb fl_M_54) tyM tyM_ok nmM rfl rfl rfl (Nat.le_of_ble_eq_true rfl) dM_resultToA_13 ?_
  show Z 0 0 (TY cR c1 c2 c3) (13 + 3) [(0, .ref h0)] [] (MW h0 a1 a2 a3 c1 c2 c3 (k, n, ea, kb, nb, eb, k, n, e, bits, scale, K, N, E) ++ Y)
  refine z_aload_n (pc := 16) hZ 0 dM_resultToA_16 rfl rfl ?_
  refine z_aload_n (pc := 17) hZ 0 dM_resultToA_17 rfl rfl ?_
  refine z_get (pc := 18) (ci := 2) hZ 0 rfl rfl uc_M 11 (by decide) (zb fl_M_28) rfl dM_resultToA_18 ?_
  refine z_put (pc := 21) (ci := 2) hZ 0 rfl rfl uc_M 5 (by decide) (zb fl_M_57) tyM tyM_ok nmM rfl rfl rfl (Nat.le_of_ble_eq_true rfl) dM_resultToA_21 ?_
  show Z 0 0 (TY cR c1 c2 c3) (21 + 3) [(0, .ref h0)] [] (MW h0 a1 a2 a3 c1 c2 c3 (k, n, e, kb, nb, eb, k, n, e, bits, scale, K, N, E) ++ Y)
  exact z_retv (pc := 24) hZ dM_resultToA_24 rfl ⟨rfl, _, _, _, rfl, rfl, (by exact ⟨rfl, rfl, rfl⟩)⟩
set_option maxHeartbeats 4000000 in
set_option maxRecDepth 100000 in
theorem cM_resultToB (l : Launch) (D : va_G) (cR c1 c2 c3 : ClassId) (h0 a1 a2 a3 : Nat) (Y : va_W) (ka : Int32) (na : Int64) (ea : Int32) (kb : Int32) (nb : Int64) (eb : Int32) (k : Int32) (n : Int64) (e : Int32) (bits : Int64) (scale : Int32) (K : Nat → Int32) (N : Nat → Int64) (E : Nat → Int32)  : zM l D vwCl zNF zNM yM_resultToB wsM_resultToB { frames := 0, cells := 0, slots := 0, locals := 0 } [.ref h0] (MW h0 a1 a2 a3 c1 c2 c3 (ka, na, ea, kb, nb, eb, k, n, e, bits, scale, K, N, E) ++ Y) (TY cR c1 c2 c3) (qV (fun w' tys' => ∃ kb' : Int32, ∃ nb' : Int64, ∃ eb' : Int32, MW h0 a1 a2 a3 c1 c2 c3 (ka, na, ea, kb', nb', eb', k, n, e, bits, scale, K, N, E) ++ Y = w' ∧ (TY cR c1 c2 c3) = tys' ∧ (kb' = k ∧ nb' = n ∧ eb' = e))) := by
  refine z_met (cc := bM_resultToB) (maxL := 1) (ret := none) (isI := false) (own := RM) (by decide +kernel) rfl rfl (fun h => by cases h) (Nat.le_of_ble_eq_true rfl) (fun Z hZ => ?_)
  show Z 0 0 (TY cR c1 c2 c3) 0 [(0, .ref h0)] [] (MW h0 a1 a2 a3 c1 c2 c3 (ka, na, ea, kb, nb, eb, k, n, e, bits, scale, K, N, E) ++ Y)
  refine z_aload_n (pc := 0) hZ 0 dM_resultToB_0 rfl rfl ?_
  refine z_aload_n (pc := 1) hZ 0 dM_resultToB_1 rfl rfl ?_
  refine z_get (pc := 2) (ci := 2) hZ 0 rfl rfl uc_M 9 (by decide) (zb fl_M_20) rfl dM_resultToB_2 ?_
  refine z_put (pc := 5) (ci := 2) hZ 0 rfl rfl uc_M 6 (by decide) (zb fl_M_60) tyM tyM_ok nmM rfl rfl rfl (Nat.le_of_ble_eq_true rfl) dM_resultToB_5 ?_
  show Z 0 0 (TY cR c1 c2 c3) (5 + 3) [(0, .ref h0)] [] (MW h0 a1 a2 a3 c1 c2 c3 (ka, na, ea, k, nb, eb, k, n, e, bits, scale, K, N, E) ++ Y)
  refine z_aload_n (pc := 8) hZ 0 dM_resultToB_8 rfl rfl ?_
  refine z_aload_n (pc := 9) hZ 0 dM_resultToB_9 rfl rfl ?_
  refine z_get (pc := 10) (ci := 2) hZ 0 rfl rfl uc_M 10 (by decide) (zb fl_M_24) rfl dM_resultToB_10 ?_
  refine z_put (pc := 13) (ci := 2) hZ 0 rfl rfl uc_M 7 (by decide) (zb fl_M_63) tyM tyM_ok nmM rfl rfl rfl (Nat.le_of_ble_eq_true rfl) dM_resultToB_13 ?_
  show Z 0 0 (TY cR c1 c2 c3) (13 + 3) [(0, .ref h0)] [] (MW h0 a1 a2 a3 c1 c2 c3 (ka, na, ea, k, n, eb, k, n, e, bits, scale, K, N, E) ++ Y)
  refine z_aload_n (pc := 16) hZ 0 dM_resultToB_16 rfl rfl ?_
  refine z_aload_n (pc := 17) hZ 0 dM_resultToB_17 rfl rfl ?_
  refine z_get (pc := 18) (ci := 2) hZ 0 rfl rfl uc_M 11 (by decide) (zb fl_M_28) rfl dM_resultToB_18 ?_
  refine z_put (pc := 21) (ci := 2) hZ 0 rfl rfl uc_M 8 (by decide) (zb fl_M_66) tyM tyM_ok nmM rfl rfl rfl (Nat.le_of_ble_eq_true rfl) dM_resultToB_21 ?_
  show Z 0 0 (TY cR c1 c2 c3) (21 + 3) [(0, .ref h0)] [] (MW h0 a1 a2 a3 c1 c2 c3 (ka, na, ea, k, n, e, k, n, e, bits, scale, K, N, E) ++ Y)
  exact z_retv (pc := 24) hZ dM_resultToB_24 rfl ⟨rfl, _, _, _, rfl, rfl, (by exact ⟨rfl, rfl, rfl⟩)⟩
set_option maxHeartbeats 4000000 in
set_option maxRecDepth 100000 in
theorem cM_copyA (l : Launch) (D : va_G) (cR c1 c2 c3 : ClassId) (h0 a1 a2 a3 : Nat) (Y : va_W) (ka : Int32) (na : Int64) (ea : Int32) (kb : Int32) (nb : Int64) (eb : Int32) (k : Int32) (n : Int64) (e : Int32) (bits : Int64) (scale : Int32) (K : Nat → Int32) (N : Nat → Int64) (E : Nat → Int32)  : zM l D vwCl zNF zNM yM_copyA wsM_copyA { frames := 0, cells := 0, slots := 0, locals := 0 } [.ref h0] (MW h0 a1 a2 a3 c1 c2 c3 (ka, na, ea, kb, nb, eb, k, n, e, bits, scale, K, N, E) ++ Y) (TY cR c1 c2 c3) (qV (fun w' tys' => ∃ k' : Int32, ∃ n' : Int64, ∃ e' : Int32, MW h0 a1 a2 a3 c1 c2 c3 (ka, na, ea, kb, nb, eb, k', n', e', bits, scale, K, N, E) ++ Y = w' ∧ (TY cR c1 c2 c3) = tys' ∧ (k' = ka ∧ n' = na ∧ e' = ea))) := by
  refine z_met (cc := bM_copyA) (maxL := 1) (ret := none) (isI := false) (own := RM) (by decide +kernel) rfl rfl (fun h => by cases h) (Nat.le_of_ble_eq_true rfl) (fun Z hZ => ?_)
  show Z 0 0 (TY cR c1 c2 c3) 0 [(0, .ref h0)] [] (MW h0 a1 a2 a3 c1 c2 c3 (ka, na, ea, kb, nb, eb, k, n, e, bits, scale, K, N, E) ++ Y)
  refine z_aload_n (pc := 0) hZ 0 dM_copyA_0 rfl rfl ?_
  refine z_aload_n (pc := 1) hZ 0 dM_copyA_1 rfl rfl ?_
  refine z_get (pc := 2) (ci := 2) hZ 0 rfl rfl uc_M 3 (by decide) (zb fl_M_51) rfl dM_copyA_2 ?_
  refine z_put (pc := 5) (ci := 2) hZ 0 rfl rfl uc_M 9 (by decide) (zb fl_M_20) tyM tyM_ok nmM rfl rfl rfl (Nat.le_of_ble_eq_true rfl) dM_copyA_5 ?_
  show Z 0 0 (TY cR c1 c2 c3) (5 + 3) [(0, .ref h0)] [] (MW h0 a1 a2 a3 c1 c2 c3 (ka, na, ea, kb, nb, eb, ka, n, e, bits, scale, K, N, E) ++ Y)
  refine z_aload_n (pc := 8) hZ 0 dM_copyA_8 rfl rfl ?_
  refine z_aload_n (pc := 9) hZ 0 dM_copyA_9 rfl rfl ?_
  refine z_get (pc := 10) (ci := 2) hZ 0 rfl rfl uc_M 4 (by decide) (zb fl_M_54) rfl dM_copyA_10 ?_
  refine z_put (pc := 13) (ci := 2) hZ 0 rfl rfl uc_M 10 (by decide) (zb fl_M_24) tyM tyM_ok nmM rfl rfl rfl (Nat.le_of_ble_eq_true rfl) dM_copyA_13 ?_
  show Z 0 0 (TY cR c1 c2 c3) (13 + 3) [(0, .ref h0)] [] (MW h0 a1 a2 a3 c1 c2 c3 (ka, na, ea, kb, nb, eb, ka, na, e, bits, scale, K, N, E) ++ Y)
  refine z_aload_n (pc := 16) hZ 0 dM_copyA_16 rfl rfl ?_
  refine z_aload_n (pc := 17) hZ 0 dM_copyA_17 rfl rfl ?_
  refine z_get (pc := 18) (ci := 2) hZ 0 rfl rfl uc_M 5 (by decide) (zb fl_M_57) rfl dM_copyA_18 ?_
  refine z_put (pc := 21) (ci := 2) hZ 0 rfl rfl uc_M 11 (by decide) (zb fl_M_28) tyM tyM_ok nmM rfl rfl rfl (Nat.le_of_ble_eq_true rfl) dM_copyA_21 ?_
  show Z 0 0 (TY cR c1 c2 c3) (21 + 3) [(0, .ref h0)] [] (MW h0 a1 a2 a3 c1 c2 c3 (ka, na, ea, kb, nb, eb, ka, na, ea, bits, scale, K, N, E) ++ Y)
  exact z_retv (pc := 24) hZ dM_copyA_24 rfl ⟨rfl, _, _, _, rfl, rfl, (by exact ⟨rfl, rfl, rfl⟩)⟩
set_option maxHeartbeats 4000000 in
set_option maxRecDepth 100000 in
theorem cM_put (l : Launch) (D : va_G) (cR c1 c2 c3 : ClassId) (h0 a1 a2 a3 : Nat) (Y : va_W) (ka : Int32) (na : Int64) (ea : Int32) (kb : Int32) (nb : Int64) (eb : Int32) (k : Int32) (n : Int64) (e : Int32) (bits : Int64) (scale : Int32) (K : Nat → Int32) (N : Nat → Int64) (E : Nat → Int32) (p1 : Int32) (hi : vp_in p1 32) : zM l D vwCl zNF zNM yM_put wsM_put { frames := 0, cells := 0, slots := 0, locals := 0 } [.ref h0, .int p1] (MW h0 a1 a2 a3 c1 c2 c3 (ka, na, ea, kb, nb, eb, k, n, e, bits, scale, K, N, E) ++ Y) (TY cR c1 c2 c3) (qV (fun w' tys' => ∃ K' : Nat → Int32, ∃ N' : Nat → Int64, ∃ E' : Nat → Int32, MW h0 a1 a2 a3 c1 c2 c3 (ka, na, ea, kb, nb, eb, k, n, e, bits, scale, K', N', E') ++ Y = w' ∧ (TY cR c1 c2 c3) = tys' ∧ (K' = upd K p1.toNatClampNeg k ∧ N' = vp_updL N p1.toNatClampNeg n ∧ E' = upd E p1.toNatClampNeg e))) := by
  refine z_met (cc := bM_put) (maxL := 2) (ret := none) (isI := false) (own := RM) (by decide +kernel) rfl rfl (fun h => by cases h) (Nat.le_of_ble_eq_true rfl) (fun Z hZ => ?_)
  show Z 0 0 (TY cR c1 c2 c3) 0 [(0, .ref h0), (1, .int p1)] [] (MW h0 a1 a2 a3 c1 c2 c3 (ka, na, ea, kb, nb, eb, k, n, e, bits, scale, K, N, E) ++ Y)
  refine z_aload_n (pc := 0) hZ 0 dM_put_0 rfl rfl ?_
  refine z_get (pc := 1) (ci := 2) hZ 0 rfl rfl uc_M 0 (by decide) (zb fl_M_7) rfl dM_put_1 ?_
  refine z_iload_n (pc := 4) hZ 1 dM_put_4 rfl rfl ?_
  refine z_aload_n (pc := 5) hZ 0 dM_put_5 rfl rfl ?_
  refine z_get (pc := 6) (ci := 2) hZ 0 rfl rfl uc_M 9 (by decide) (zb fl_M_20) rfl dM_put_6 ?_
  refine z_iast (pc := 9) hZ 1 1 rfl rfl (by assumption) dM_put_9 (fun K9_0 eK9_0 => ?_)
  show Z 0 0 (TY cR c1 c2 c3) (9 + 1) [(0, .ref h0), (1, .int p1)] [] (MW h0 a1 a2 a3 c1 c2 c3 (ka, na, ea, kb, nb, eb, k, n, e, bits, scale, K9_0, N, E) ++ Y)
  refine z_aload_n (pc := 10) hZ 0 dM_put_10 rfl rfl ?_
  refine z_get (pc := 11) (ci := 2) hZ 0 rfl rfl uc_M 1 (by decide) (zb fl_M_13) rfl dM_put_11 ?_
  refine z_iload_n (pc := 14) hZ 1 dM_put_14 rfl rfl ?_
  refine z_aload_n (pc := 15) hZ 0 dM_put_15 rfl rfl ?_
  refine z_get (pc := 16) (ci := 2) hZ 0 rfl rfl uc_M 10 (by decide) (zb fl_M_24) rfl dM_put_16 ?_
  refine z_last (pc := 19) hZ 2 2 rfl rfl (by assumption) dM_put_19 (fun N19_1 eN19_1 => ?_)
  show Z 0 0 (TY cR c1 c2 c3) (19 + 1) [(0, .ref h0), (1, .int p1)] [] (MW h0 a1 a2 a3 c1 c2 c3 (ka, na, ea, kb, nb, eb, k, n, e, bits, scale, K9_0, N19_1, E) ++ Y)
  refine z_aload_n (pc := 20) hZ 0 dM_put_20 rfl rfl ?_
  refine z_get (pc := 21) (ci := 2) hZ 0 rfl rfl uc_M 2 (by decide) (zb fl_M_17) rfl dM_put_21 ?_
  refine z_iload_n (pc := 24) hZ 1 dM_put_24 rfl rfl ?_
  refine z_aload_n (pc := 25) hZ 0 dM_put_25 rfl rfl ?_
  refine z_get (pc := 26) (ci := 2) hZ 0 rfl rfl uc_M 11 (by decide) (zb fl_M_28) rfl dM_put_26 ?_
  refine z_iast (pc := 29) hZ 3 3 rfl rfl (by assumption) dM_put_29 (fun E29_2 eE29_2 => ?_)
  show Z 0 0 (TY cR c1 c2 c3) (29 + 1) [(0, .ref h0), (1, .int p1)] [] (MW h0 a1 a2 a3 c1 c2 c3 (ka, na, ea, kb, nb, eb, k, n, e, bits, scale, K9_0, N19_1, E29_2) ++ Y)
  exact z_retv (pc := 30) hZ dM_put_30 rfl ⟨rfl, _, _, _, rfl, rfl, (by exact ⟨(by assumption), (by assumption), (by assumption)⟩)⟩
set_option maxHeartbeats 4000000 in
set_option maxRecDepth 100000 in
theorem cM_plain (l : Launch) (D : va_G) (cR c1 c2 c3 : ClassId) (h0 a1 a2 a3 : Nat) (Y : va_W) (ka : Int32) (na : Int64) (ea : Int32) (kb : Int32) (nb : Int64) (eb : Int32) (k : Int32) (n : Int64) (e : Int32) (bits : Int64) (scale : Int32) (K : Nat → Int32) (N : Nat → Int64) (E : Nat → Int32) (p1 : Int64) (p2 : Int32) (hpp : PP p1 p2) : zM l D vwCl zNF zNM yM_plain wsM_plain { frames := 0, cells := 0, slots := 0, locals := 0 } [.ref h0, .long p1, .int p2] (MW h0 a1 a2 a3 c1 c2 c3 (ka, na, ea, kb, nb, eb, k, n, e, bits, scale, K, N, E) ++ Y) (TY cR c1 c2 c3) (qV (fun w' tys' => ∃ k' : Int32, ∃ n' : Int64, ∃ e' : Int32, MW h0 a1 a2 a3 c1 c2 c3 (ka, na, ea, kb, nb, eb, k', n', e', bits, scale, K, N, E) ++ Y = w' ∧ (TY cR c1 c2 c3) = tys' ∧ ((k' = 2 ∧ GR n' e') ∧ (p1 = 0 → n' = 0 ∧ e' = 0)))) := by
  refine z_met (cc := bM_plain) (maxL := 4) (ret := none) (isI := false) (own := RM) (by decide +kernel) rfl rfl (fun h => by cases h) (Nat.le_of_ble_eq_true rfl) (fun Z hZ => ?_)
  show Z 0 0 (TY cR c1 c2 c3) 0 [(0, .ref h0), (1, .long p1), (3, .int p2)] [] (MW h0 a1 a2 a3 c1 c2 c3 (ka, na, ea, kb, nb, eb, k, n, e, bits, scale, K, N, E) ++ Y)
  refine z_aload_n (pc := 0) hZ 0 dM_plain_0 rfl rfl ?_
  refine z_iconst (pc := 1) hZ 2 dM_plain_1 (by decide) ?_
  refine z_put (pc := 2) (ci := 2) hZ 0 rfl rfl uc_M 9 (by decide) (zb fl_M_20) tyM tyM_ok nmM rfl rfl rfl (Nat.le_of_ble_eq_true rfl) dM_plain_2 ?_
  show Z 0 0 (TY cR c1 c2 c3) (2 + 3) [(0, .ref h0), (1, .long p1), (3, .int p2)] [] (MW h0 a1 a2 a3 c1 c2 c3 (ka, na, ea, kb, nb, eb, 2, n, e, bits, scale, K, N, E) ++ Y)
  refine z_aload_n (pc := 5) hZ 0 dM_plain_5 rfl rfl ?_
  refine z_lload_n (pc := 6) hZ 1 dM_plain_6 rfl rfl ?_
  refine z_put (pc := 7) (ci := 2) hZ 0 rfl rfl uc_M 10 (by decide) (zb fl_M_24) tyM tyM_ok nmM rfl rfl rfl (Nat.le_of_ble_eq_true rfl) dM_plain_7 ?_
  show Z 0 0 (TY cR c1 c2 c3) (7 + 3) [(0, .ref h0), (1, .long p1), (3, .int p2)] [] (MW h0 a1 a2 a3 c1 c2 c3 (ka, na, ea, kb, nb, eb, 2, p1, e, bits, scale, K, N, E) ++ Y)
  refine z_aload_n (pc := 10) hZ 0 dM_plain_10 rfl rfl ?_
  refine z_lload_n (pc := 11) hZ 1 dM_plain_11 rfl rfl ?_
  refine z_lconst (pc := 12) hZ 0 dM_plain_12 (by decide) ?_
  refine z_lif_ne (pc := 13) hZ 21 dM_plain_13 dM_plain_14 (by decide) (fun c14_1 => ?_) (fun c14_1 => ?_)
  · refine z_iload_n (pc := 21) hZ 2 dM_plain_21 rfl rfl ?_
    refine z_put (pc := 22) (ci := 2) hZ 0 rfl rfl uc_M 11 (by decide) (zb fl_M_28) tyM tyM_ok nmM rfl rfl rfl (Nat.le_of_ble_eq_true rfl) dM_plain_22 ?_
    show Z 0 0 (TY cR c1 c2 c3) (22 + 3) [(0, .ref h0), (1, .long p1), (3, .int p2)] [] (MW h0 a1 a2 a3 c1 c2 c3 (ka, na, ea, kb, nb, eb, 2, p1, p2, bits, scale, K, N, E) ++ Y)
    have L25 : ∀ (N25 : Nat) (e_25 : Int32) (n_25 : Int64), n_25.toInt.natAbs < N25 → (PQ n_25 e_25) → (p1 = 0 → n_25 = 0 ∧ e_25 = 0) → Z 0 0 (TY cR c1 c2 c3) 25 [(0, .ref h0)] [] (MW h0 a1 a2 a3 c1 c2 c3 (ka, na, ea, kb, nb, eb, 2, n_25, e_25, bits, scale, K, N, E) ++ Y) := by
      intro N25
      induction N25 with
      | zero => intro e_25 n_25 m25; exact absurd m25 (Nat.not_lt_zero _)
      | succ N25 ih25 =>
        intro e_25 n_25 m25 i25 z25
        refine z_aload_n (pc := 25) hZ 0 dM_plain_25 rfl rfl ?_
        refine z_get (pc := 26) (ci := 2) hZ 0 rfl rfl uc_M 10 (by decide) (zb fl_M_24) rfl dM_plain_26 ?_
        refine z_lconst (pc := 29) hZ 0 dM_plain_29 (by decide) ?_
        refine z_lif_eq (pc := 30) hZ 68 dM_plain_30 dM_plain_31 (by decide) (fun c31_2 => ?_) (fun c31_2 => ?_)
        · exact z_retv (pc := 68) hZ dM_plain_68 rfl ⟨rfl, _, _, _, rfl, rfl, (by first | exact ⟨⟨rfl, pl_x1 i25 c31_2⟩, z25⟩ | exact ⟨⟨rfl, pl_x2 i25 c31_2 (by assumption)⟩, z25⟩ | exact ⟨⟨rfl, pl_x2 (by assumption) (by assumption) (by assumption)⟩, z25⟩)⟩
        · refine z_aload_n (pc := 34) hZ 0 dM_plain_34 rfl rfl ?_
          refine z_get (pc := 35) (ci := 2) hZ 0 rfl rfl uc_M 10 (by decide) (zb fl_M_24) rfl dM_plain_35 ?_
          refine z_lconst (pc := 38) hZ 1 dM_plain_38 (by decide) ?_
          refine z_land (pc := 39) hZ dM_plain_39 (fun v39_3 ev39_3 => ?_)
          refine z_lconst (pc := 40) hZ 0 dM_plain_40 (by decide) ?_
          refine z_lif_ne (pc := 41) hZ 68 dM_plain_41 dM_plain_42 (by decide) (fun c42_4 => ?_) (fun c42_4 => ?_)
          · exact z_retv (pc := 68) hZ dM_plain_68 rfl ⟨rfl, _, _, _, rfl, rfl, (by first | exact ⟨⟨rfl, pl_x1 i25 c31_2⟩, z25⟩ | exact ⟨⟨rfl, pl_x2 i25 c31_2 (by assumption)⟩, z25⟩ | exact ⟨⟨rfl, pl_x2 (by assumption) (by assumption) (by assumption)⟩, z25⟩)⟩
          · refine z_aload_n (pc := 45) hZ 0 dM_plain_45 rfl rfl ?_
            refine z_aload_n (pc := 46) hZ 0 dM_plain_46 rfl rfl ?_
            refine z_get (pc := 47) (ci := 2) hZ 0 rfl rfl uc_M 10 (by decide) (zb fl_M_24) rfl dM_plain_47 ?_
            refine z_iconst (pc := 50) hZ 1 dM_plain_50 (by decide) ?_
            refine z_lshr (pc := 51) hZ dM_plain_51 (fun v51_5 ev51_5 => ?_)
            refine z_put (pc := 52) (ci := 2) hZ 0 rfl rfl uc_M 10 (by decide) (zb fl_M_24) tyM tyM_ok nmM rfl rfl rfl (Nat.le_of_ble_eq_true rfl) dM_plain_52 ?_
            show Z 0 0 (TY cR c1 c2 c3) (52 + 3) [(0, .ref h0)] [] (MW h0 a1 a2 a3 c1 c2 c3 (ka, na, ea, kb, nb, eb, 2, v51_5, e_25, bits, scale, K, N, E) ++ Y)
            refine z_aload_n (pc := 55) hZ 0 dM_plain_55 rfl rfl ?_
            refine z_dup (pc := 56) hZ dM_plain_56 rfl ?_
            refine z_get (pc := 57) (ci := 2) hZ 0 rfl rfl uc_M 11 (by decide) (zb fl_M_28) rfl dM_plain_57 ?_
            refine z_iconst (pc := 60) hZ 1 dM_plain_60 (by decide) ?_
            refine z_iadd (pc := 61) hZ dM_plain_61 (fun v61_6 ev61_6 => ?_)
            refine z_put (pc := 62) (ci := 2) hZ 0 rfl rfl uc_M 11 (by decide) (zb fl_M_28) tyM tyM_ok nmM rfl rfl rfl (Nat.le_of_ble_eq_true rfl) dM_plain_62 ?_
            show Z 0 0 (TY cR c1 c2 c3) (62 + 3) [(0, .ref h0)] [] (MW h0 a1 a2 a3 c1 c2 c3 (ka, na, ea, kb, nb, eb, 2, v51_5, v61_6, bits, scale, K, N, E) ++ Y)
            refine z_goto (pc := 65) hZ 25 dM_plain_65 (by decide) ?_
            exact z_sub (pc := 25) hZ [0] rfl (ih25 v61_6 v51_5 (by exact Nat.lt_of_lt_of_le (pl_s (n := n_25) (e := e_25) (by assumption) (by assumption) (by assumption) (by assumption) (by assumption) (by assumption)).2 (Nat.le_of_lt_succ m25)) (by exact (pl_s (n := n_25) (e := e_25) (by assumption) (by assumption) (by assumption) (by assumption) (by assumption) (by assumption)).1) (by exact fun h => absurd (z25 h).1 c31_2))
    exact z_sub (pc := 25) hZ [0] rfl (L25 _ p2 p1 (Nat.lt_succ_self _) (by first | exact pl_00 (by assumption) | exact pl_0 hpp (by assumption)) (by first | exact fun h => ⟨h, rfl⟩ | exact fun h => absurd h c14_1))
  · refine z_iconst (pc := 17) hZ 0 dM_plain_17 (by decide) ?_
    refine z_goto (pc := 18) hZ 22 dM_plain_18 (by decide) ?_
    refine z_put (pc := 22) (ci := 2) hZ 0 rfl rfl uc_M 11 (by decide) (zb fl_M_28) tyM tyM_ok nmM rfl rfl rfl (Nat.le_of_ble_eq_true rfl) dM_plain_22 ?_
    show Z 0 0 (TY cR c1 c2 c3) (22 + 3) [(0, .ref h0), (1, .long p1), (3, .int p2)] [] (MW h0 a1 a2 a3 c1 c2 c3 (ka, na, ea, kb, nb, eb, 2, p1, 0, bits, scale, K, N, E) ++ Y)
    have L25 : ∀ (N25 : Nat) (e_25 : Int32) (n_25 : Int64), n_25.toInt.natAbs < N25 → (PQ n_25 e_25) → (p1 = 0 → n_25 = 0 ∧ e_25 = 0) → Z 0 0 (TY cR c1 c2 c3) 25 [(0, .ref h0)] [] (MW h0 a1 a2 a3 c1 c2 c3 (ka, na, ea, kb, nb, eb, 2, n_25, e_25, bits, scale, K, N, E) ++ Y) := by
      intro N25
      induction N25 with
      | zero => intro e_25 n_25 m25; exact absurd m25 (Nat.not_lt_zero _)
      | succ N25 ih25 =>
        intro e_25 n_25 m25 i25 z25
        refine z_aload_n (pc := 25) hZ 0 dM_plain_25 rfl rfl ?_
        refine z_get (pc := 26) (ci := 2) hZ 0 rfl rfl uc_M 10 (by decide) (zb fl_M_24) rfl dM_plain_26 ?_
        refine z_lconst (pc := 29) hZ 0 dM_plain_29 (by decide) ?_
        refine z_lif_eq (pc := 30) hZ 68 dM_plain_30 dM_plain_31 (by decide) (fun c31_7 => ?_) (fun c31_7 => ?_)
        · exact z_retv (pc := 68) hZ dM_plain_68 rfl ⟨rfl, _, _, _, rfl, rfl, (by first | exact ⟨⟨rfl, pl_x1 i25 c31_7⟩, z25⟩ | exact ⟨⟨rfl, pl_x2 i25 c31_7 (by assumption)⟩, z25⟩ | exact ⟨⟨rfl, pl_x2 (by assumption) (by assumption) (by assumption)⟩, z25⟩)⟩
        · refine z_aload_n (pc := 34) hZ 0 dM_plain_34 rfl rfl ?_
          refine z_get (pc := 35) (ci := 2) hZ 0 rfl rfl uc_M 10 (by decide) (zb fl_M_24) rfl dM_plain_35 ?_
          refine z_lconst (pc := 38) hZ 1 dM_plain_38 (by decide) ?_
          refine z_land (pc := 39) hZ dM_plain_39 (fun v39_8 ev39_8 => ?_)
          refine z_lconst (pc := 40) hZ 0 dM_plain_40 (by decide) ?_
          refine z_lif_ne (pc := 41) hZ 68 dM_plain_41 dM_plain_42 (by decide) (fun c42_9 => ?_) (fun c42_9 => ?_)
          · exact z_retv (pc := 68) hZ dM_plain_68 rfl ⟨rfl, _, _, _, rfl, rfl, (by first | exact ⟨⟨rfl, pl_x1 i25 c31_7⟩, z25⟩ | exact ⟨⟨rfl, pl_x2 i25 c31_7 (by assumption)⟩, z25⟩ | exact ⟨⟨rfl, pl_x2 (by assumption) (by assumption) (by assumption)⟩, z25⟩)⟩
          · refine z_aload_n (pc := 45) hZ 0 dM_plain_45 rfl rfl ?_
            refine z_aload_n (pc := 46) hZ 0 dM_plain_46 rfl rfl ?_
            refine z_get (pc := 47) (ci := 2) hZ 0 rfl rfl uc_M 10 (by decide) (zb fl_M_24) rfl dM_plain_47 ?_
            refine z_iconst (pc := 50) hZ 1 dM_plain_50 (by decide) ?_
            refine z_lshr (pc := 51) hZ dM_plain_51 (fun v51_10 ev51_10 => ?_)
            refine z_put (pc := 52) (ci := 2) hZ 0 rfl rfl uc_M 10 (by decide) (zb fl_M_24) tyM tyM_ok nmM rfl rfl rfl (Nat.le_of_ble_eq_true rfl) dM_plain_52 ?_
            show Z 0 0 (TY cR c1 c2 c3) (52 + 3) [(0, .ref h0)] [] (MW h0 a1 a2 a3 c1 c2 c3 (ka, na, ea, kb, nb, eb, 2, v51_10, e_25, bits, scale, K, N, E) ++ Y)
            refine z_aload_n (pc := 55) hZ 0 dM_plain_55 rfl rfl ?_
            refine z_dup (pc := 56) hZ dM_plain_56 rfl ?_
            refine z_get (pc := 57) (ci := 2) hZ 0 rfl rfl uc_M 11 (by decide) (zb fl_M_28) rfl dM_plain_57 ?_
            refine z_iconst (pc := 60) hZ 1 dM_plain_60 (by decide) ?_
            refine z_iadd (pc := 61) hZ dM_plain_61 (fun v61_11 ev61_11 => ?_)
            refine z_put (pc := 62) (ci := 2) hZ 0 rfl rfl uc_M 11 (by decide) (zb fl_M_28) tyM tyM_ok nmM rfl rfl rfl (Nat.le_of_ble_eq_true rfl) dM_plain_62 ?_
            show Z 0 0 (TY cR c1 c2 c3) (62 + 3) [(0, .ref h0)] [] (MW h0 a1 a2 a3 c1 c2 c3 (ka, na, ea, kb, nb, eb, 2, v51_10, v61_11, bits, scale, K, N, E) ++ Y)
            refine z_goto (pc := 65) hZ 25 dM_plain_65 (by decide) ?_
            exact z_sub (pc := 25) hZ [0] rfl (ih25 v61_11 v51_10 (by exact Nat.lt_of_lt_of_le (pl_s (n := n_25) (e := e_25) (by assumption) (by assumption) (by assumption) (by assumption) (by assumption) (by assumption)).2 (Nat.le_of_lt_succ m25)) (by exact (pl_s (n := n_25) (e := e_25) (by assumption) (by assumption) (by assumption) (by assumption) (by assumption) (by assumption)).1) (by exact fun h => absurd (z25 h).1 c31_7))
    exact z_sub (pc := 25) hZ [0] rfl (L25 _ 0 p1 (Nat.lt_succ_self _) (by first | exact pl_00 (by assumption) | exact pl_0 hpp (by assumption)) (by first | exact fun h => ⟨h, rfl⟩ | exact fun h => absurd h c14_1))
set_option maxHeartbeats 4000000 in
set_option maxRecDepth 100000 in
theorem cM_bitwise (l : Launch) (D : va_G) (cR c1 c2 c3 : ClassId) (h0 a1 a2 a3 : Nat) (Y : va_W) (ka : Int32) (na : Int64) (ea : Int32) (kb : Int32) (nb : Int64) (eb : Int32) (k : Int32) (n : Int64) (e : Int32) (bits : Int64) (scale : Int32) (K : Nat → Int32) (N : Nat → Int64) (E : Nat → Int32) (p1 : Int32) : zM l D vwCl zNF zNM yM_bitwise wsM_bitwise { frames := 1, cells := 0, slots := 0, locals := 24 } [.ref h0, .int p1] (MW h0 a1 a2 a3 c1 c2 c3 (ka, na, ea, kb, nb, eb, k, n, e, bits, scale, K, N, E) ++ Y) (TY cR c1 c2 c3) (qI (fun r w' tys' => ∃ k' : Int32, ∃ n' : Int64, ∃ e' : Int32, MW h0 a1 a2 a3 c1 c2 c3 (ka, na, ea, kb, nb, eb, k', n', e', bits, scale, K, N, E) ++ Y = w' ∧ (TY cR c1 c2 c3) = tys' ∧ (((r = 0 → VK k' n' e') ∧ (VK k n e → VK k' n' e')) ∧ (ka = 1 → kb = 1 → r = 0)))) := by
  refine z_met (cc := bM_bitwise) (maxL := 8) (ret := (some .int)) (isI := false) (own := RM) (by decide +kernel) rfl rfl (fun h => by cases h) (Nat.le_of_ble_eq_true rfl) (fun Z hZ => ?_)
  show Z 0 0 (TY cR c1 c2 c3) 0 [(0, .ref h0), (1, .int p1)] [] (MW h0 a1 a2 a3 c1 c2 c3 (ka, na, ea, kb, nb, eb, k, n, e, bits, scale, K, N, E) ++ Y)
  refine z_aload_n (pc := 0) hZ 0 dM_bitwise_0 rfl rfl ?_
  refine z_aload_n (pc := 1) hZ 0 dM_bitwise_1 rfl rfl ?_
  refine z_get (pc := 2) (ci := 2) hZ 0 rfl rfl uc_M 3 (by decide) (zb fl_M_51) rfl dM_bitwise_2 ?_
  refine z_aload_n (pc := 5) hZ 0 dM_bitwise_5 rfl rfl ?_
  refine z_get (pc := 6) (ci := 2) hZ 0 rfl rfl uc_M 4 (by decide) (zb fl_M_54) rfl dM_bitwise_6 ?_
  refine z_aload_n (pc := 9) hZ 0 dM_bitwise_9 rfl rfl ?_
  refine z_get (pc := 10) (ci := 2) hZ 0 rfl rfl uc_M 5 (by decide) (zb fl_M_57) rfl dM_bitwise_10 ?_
  refine z_callV (pc := 13) (As := [.int ka, .long na, .int ea]) (rest := []) hZ (cM_isWhole l D cR c1 c2 c3 h0 a1 a2 a3 Y ka na ea kb nb eb k n e bits scale K N E ka na ea) zyM_isWhole (z_goodV ml_M_126 im_M_isWhole se_M_isWhole in_M co_M_isWhole) 0 rfl rfl rfl rfl (by decide) rfl rfl (Nat.le_of_ble_eq_true rfl) ⟨Nat.zero_le _, Nat.zero_le _⟩ dM_bitwise_13 (z_ki (fun r13_1 w1 tys1 hp => ?_))
  obtain ⟨rfl, rfl, p13_1⟩ := hp
  refine z_istore_n (pc := 16) hZ [(2, .int r13_1), (0, .ref h0), (1, .int p1)] dM_bitwise_16 rfl (by decide) rfl ?_
  refine z_iload_n (pc := 17) hZ 2 dM_bitwise_17 rfl rfl ?_
  refine z_bipush (pc := 18) hZ 13 dM_bitwise_18 (by decide) ?_
  refine z_icmp_eq (pc := 20) hZ 48 dM_bitwise_20 (by decide) (fun c20_2 => ?_) (fun c20_2 => ?_)
  · refine z_iconst (pc := 48) hZ 1 dM_bitwise_48 (by decide) ?_
    refine z_goto (pc := 49) hZ 53 dM_bitwise_49 (by decide) ?_
    refine z_istore_n (pc := 53) hZ [(3, .int 1), (2, .int r13_1), (0, .ref h0), (1, .int p1)] dM_bitwise_53 rfl (by decide) rfl ?_
    refine z_iload_n (pc := 54) hZ 1 dM_bitwise_54 rfl rfl ?_
    refine z_if_eq (pc := 55) hZ 62 dM_bitwise_55 (by decide) (fun c55_3 => ?_) (fun c55_3 => ?_)
    · refine z_iconst (pc := 62) hZ 2 dM_bitwise_62 (by decide) ?_
      exact z_reti (pc := 63) hZ dM_bitwise_63 .int rfl rfl ⟨_, rfl, _, _, _, rfl, rfl, (by first | exact ⟨⟨fun q => absurd q (by decide), fun h => h⟩, fun h _ => (cw_n (p13_1).1 h c55_3).elim⟩ | exact ⟨⟨fun q => absurd q (by decide), fun h => h⟩, fun _ h => (cw_n (nokey_).1 h nokey_).elim⟩ | exact ⟨⟨fun _ => Or.inl (And.left (by assumption)), fun _ => Or.inl (And.left (by assumption))⟩, fun _ _ => rfl⟩)⟩
    · refine z_iload_n (pc := 58) hZ 0 dM_bitwise_58 rfl rfl ?_
      refine z_if_ne (pc := 59) hZ 64 dM_bitwise_59 (by decide) (fun c59 => ?_) (fun c9 => False.elim (absurd c9 (by decide)))
      refine z_aload_n (pc := 64) hZ 2 dM_bitwise_64 rfl rfl ?_
      refine z_aload_n (pc := 65) hZ 2 dM_bitwise_65 rfl rfl ?_
      refine z_get (pc := 66) (ci := 2) hZ 0 rfl rfl uc_M 3 (by decide) (zb fl_M_51) rfl dM_bitwise_66 ?_
      refine z_aload_n (pc := 69) hZ 2 dM_bitwise_69 rfl rfl ?_
      refine z_get (pc := 70) (ci := 2) hZ 0 rfl rfl uc_M 4 (by decide) (zb fl_M_54) rfl dM_bitwise_70 ?_
      refine z_aload_n (pc := 73) hZ 2 dM_bitwise_73 rfl rfl ?_
      refine z_get (pc := 74) (ci := 2) hZ 0 rfl rfl uc_M 5 (by decide) (zb fl_M_57) rfl dM_bitwise_74 ?_
      refine z_callV (pc := 77) (As := [.int ka, .long na, .int ea]) (rest := []) hZ (cM_wholeOf l D cR c1 c2 c3 h0 a1 a2 a3 Y ka na ea kb nb eb k n e bits scale K N E ka na ea) zyM_wholeOf (z_goodV ml_M_130 im_M_wholeOf se_M_wholeOf in_M co_M_wholeOf) 0 rfl rfl rfl rfl (by decide) rfl rfl (Nat.le_of_ble_eq_true rfl) ⟨Nat.zero_le _, Nat.zero_le _⟩ dM_bitwise_77 (z_kl (fun r77_4 w1 tys1 hp => ?_))
      obtain ⟨rfl, rfl, p77_4⟩ := hp
      refine z_lstore (pc := 80) hZ [(4, .long r77_4), (3, .int 1), (2, .int r13_1), (0, .ref h0), (1, .int p1)] dM_bitwise_80 (by decide) rfl ?_
      refine z_iload_n (pc := 82) hZ 4 dM_bitwise_82 rfl rfl ?_
      refine z_bipush (pc := 83) hZ 13 dM_bitwise_83 (by decide) ?_
      refine z_icmp_eq (pc := 85) hZ 94 dM_bitwise_85 (by decide) (fun c85 => ?_) (fun c9 => False.elim (by first | exact absurd c9 c20_2 | exact absurd c20_2 c9 | exact absurd c9 (Int32.not_lt.mpr c20_2) | exact absurd c9 (Int32.not_le.mpr c20_2) | exact c9 ((Int32.not_lt).mp c20_2) | exact c9 ((Int32.not_le).mp c20_2)))
      refine z_lconst (pc := 94) hZ 0 dM_bitwise_94 (by decide) ?_
      refine z_goto (pc := 95) hZ 114 dM_bitwise_95 (by decide) ?_
      refine z_lstore (pc := 114) hZ [(6, .long 0), (4, .long r77_4), (3, .int 1), (2, .int r13_1), (0, .ref h0), (1, .int p1)] dM_bitwise_114 (by decide) rfl ?_
      refine z_iload_n (pc := 116) hZ 5 dM_bitwise_116 rfl rfl ?_
      by_cases w117_7 : p1 = 7
      · refine z_tabAt (pc := 117) hZ 7 160 w117_7 dM_bitwise_117 (by decide) (by decide) rfl (by decide) ?_
        refine z_aload_n (pc := 160) hZ 4 dM_bitwise_160 rfl rfl ?_
        refine z_lload (pc := 161) hZ 1 dM_bitwise_161 rfl ?_
        refine z_lload (pc := 163) hZ 0 dM_bitwise_163 rfl ?_
        refine z_land (pc := 165) hZ dM_bitwise_165 (fun v165_5 ev165_5 => ?_)
        refine z_callV (pc := 166) (As := [.long v165_5]) (rest := []) hZ (cM_setWhole l D cR c1 c2 c3 h0 a1 a2 a3 Y ka na ea kb nb eb k n e bits scale K N E v165_5) zyM_setWhole (z_goodV ml_M_134 im_M_setWhole se_M_setWhole in_M co_M_setWhole) 0 rfl rfl rfl rfl (by decide) rfl rfl (Nat.le_of_ble_eq_true rfl) ⟨Nat.zero_le _, Nat.zero_le _⟩ dM_bitwise_166 (z_kv (fun w1 tys1 hp => ?_))
        obtain ⟨k166_6, n166_6, e166_6, rfl, rfl, p166_6⟩ := hp
        refine z_iconst (pc := 169) hZ 0 dM_bitwise_169 (by decide) ?_
        exact z_reti (pc := 170) hZ dM_bitwise_170 .int rfl rfl ⟨_, rfl, _, _, _, rfl, rfl, (by first | exact ⟨⟨fun q => absurd q (by decide), fun h => h⟩, fun h _ => (cw_n (p13_1).1 h c55_3).elim⟩ | exact ⟨⟨fun q => absurd q (by decide), fun h => h⟩, fun _ h => (cw_n (nokey_).1 h nokey_).elim⟩ | exact ⟨⟨fun _ => Or.inl (And.left (by assumption)), fun _ => Or.inl (And.left (by assumption))⟩, fun _ _ => rfl⟩)⟩
      by_cases w117_8 : p1 = 8
      · refine z_tabAt (pc := 117) hZ 8 171 w117_8 dM_bitwise_117 (by decide) (by decide) rfl (by decide) ?_
        refine z_aload_n (pc := 171) hZ 4 dM_bitwise_171 rfl rfl ?_
        refine z_lload (pc := 172) hZ 1 dM_bitwise_172 rfl ?_
        refine z_lload (pc := 174) hZ 0 dM_bitwise_174 rfl ?_
        refine z_lor (pc := 176) hZ dM_bitwise_176 (fun v176_7 ev176_7 => ?_)
        refine z_callV (pc := 177) (As := [.long v176_7]) (rest := []) hZ (cM_setWhole l D cR c1 c2 c3 h0 a1 a2 a3 Y ka na ea kb nb eb k n e bits scale K N E v176_7) zyM_setWhole (z_goodV ml_M_134 im_M_setWhole se_M_setWhole in_M co_M_setWhole) 0 rfl rfl rfl rfl (by decide) rfl rfl (Nat.le_of_ble_eq_true rfl) ⟨Nat.zero_le _, Nat.zero_le _⟩ dM_bitwise_177 (z_kv (fun w1 tys1 hp => ?_))
        obtain ⟨k177_8, n177_8, e177_8, rfl, rfl, p177_8⟩ := hp
        refine z_iconst (pc := 180) hZ 0 dM_bitwise_180 (by decide) ?_
        exact z_reti (pc := 181) hZ dM_bitwise_181 .int rfl rfl ⟨_, rfl, _, _, _, rfl, rfl, (by first | exact ⟨⟨fun q => absurd q (by decide), fun h => h⟩, fun h _ => (cw_n (p13_1).1 h c55_3).elim⟩ | exact ⟨⟨fun q => absurd q (by decide), fun h => h⟩, fun _ h => (cw_n (nokey_).1 h nokey_).elim⟩ | exact ⟨⟨fun _ => Or.inl (And.left (by assumption)), fun _ => Or.inl (And.left (by assumption))⟩, fun _ _ => rfl⟩)⟩
      by_cases w117_9 : p1 = 9
      · refine z_tabAt (pc := 117) hZ 9 182 w117_9 dM_bitwise_117 (by decide) (by decide) rfl (by decide) ?_
        refine z_aload_n (pc := 182) hZ 4 dM_bitwise_182 rfl rfl ?_
        refine z_lload (pc := 183) hZ 1 dM_bitwise_183 rfl ?_
        refine z_lload (pc := 185) hZ 0 dM_bitwise_185 rfl ?_
        refine z_lxor (pc := 187) hZ dM_bitwise_187 (fun v187_9 ev187_9 => ?_)
        refine z_callV (pc := 188) (As := [.long v187_9]) (rest := []) hZ (cM_setWhole l D cR c1 c2 c3 h0 a1 a2 a3 Y ka na ea kb nb eb k n e bits scale K N E v187_9) zyM_setWhole (z_goodV ml_M_134 im_M_setWhole se_M_setWhole in_M co_M_setWhole) 0 rfl rfl rfl rfl (by decide) rfl rfl (Nat.le_of_ble_eq_true rfl) ⟨Nat.zero_le _, Nat.zero_le _⟩ dM_bitwise_188 (z_kv (fun w1 tys1 hp => ?_))
        obtain ⟨k188_10, n188_10, e188_10, rfl, rfl, p188_10⟩ := hp
        refine z_iconst (pc := 191) hZ 0 dM_bitwise_191 (by decide) ?_
        exact z_reti (pc := 192) hZ dM_bitwise_192 .int rfl rfl ⟨_, rfl, _, _, _, rfl, rfl, (by first | exact ⟨⟨fun q => absurd q (by decide), fun h => h⟩, fun h _ => (cw_n (p13_1).1 h c55_3).elim⟩ | exact ⟨⟨fun q => absurd q (by decide), fun h => h⟩, fun _ h => (cw_n (nokey_).1 h nokey_).elim⟩ | exact ⟨⟨fun _ => Or.inl (And.left (by assumption)), fun _ => Or.inl (And.left (by assumption))⟩, fun _ _ => rfl⟩)⟩
      by_cases w117_10 : p1 = 10
      · refine z_tabAt (pc := 117) hZ 10 193 w117_10 dM_bitwise_117 (by decide) (by decide) rfl (by decide) ?_
        refine z_aload_n (pc := 193) hZ 4 dM_bitwise_193 rfl rfl ?_
        refine z_lload (pc := 194) hZ 1 dM_bitwise_194 rfl ?_
        refine z_lload (pc := 196) hZ 0 dM_bitwise_196 rfl ?_
        refine z_callS (pc := 198) (As := [.long r77_4, .long 0]) (rest := [.ref h0]) hZ (cM_shifted l D (TY cR c1 c2 c3) (MW h0 a1 a2 a3 c1 c2 c3 (ka, na, ea, kb, nb, eb, k, n, e, bits, scale, K, N, E) ++ Y) r77_4 0) zyM_shifted (z_goodS ml_M_138 st_M_shifted in_M co_M_shifted) rfl rfl (by decide) rfl rfl (Nat.le_of_ble_eq_true rfl) ⟨Nat.zero_le _, Nat.zero_le _⟩ dM_bitwise_198 (z_kl (fun r198_11 w1 tys1 hp => ?_))
        obtain ⟨rfl, rfl, p198_11⟩ := hp
        refine z_callV (pc := 201) (As := [.long r198_11]) (rest := []) hZ (cM_setWhole l D cR c1 c2 c3 h0 a1 a2 a3 Y ka na ea kb nb eb k n e bits scale K N E r198_11) zyM_setWhole (z_goodV ml_M_134 im_M_setWhole se_M_setWhole in_M co_M_setWhole) 0 rfl rfl rfl rfl (by decide) rfl rfl (Nat.le_of_ble_eq_true rfl) ⟨Nat.zero_le _, Nat.zero_le _⟩ dM_bitwise_201 (z_kv (fun w1 tys1 hp => ?_))
        obtain ⟨k201_12, n201_12, e201_12, rfl, rfl, p201_12⟩ := hp
        refine z_iconst (pc := 204) hZ 0 dM_bitwise_204 (by decide) ?_
        exact z_reti (pc := 205) hZ dM_bitwise_205 .int rfl rfl ⟨_, rfl, _, _, _, rfl, rfl, (by first | exact ⟨⟨fun q => absurd q (by decide), fun h => h⟩, fun h _ => (cw_n (p13_1).1 h c55_3).elim⟩ | exact ⟨⟨fun q => absurd q (by decide), fun h => h⟩, fun _ h => (cw_n (nokey_).1 h nokey_).elim⟩ | exact ⟨⟨fun _ => Or.inl (And.left (by assumption)), fun _ => Or.inl (And.left (by assumption))⟩, fun _ _ => rfl⟩)⟩
      by_cases w117_11 : p1 = 11
      · refine z_tabAt (pc := 117) hZ 11 206 w117_11 dM_bitwise_117 (by decide) (by decide) rfl (by decide) ?_
        refine z_aload_n (pc := 206) hZ 4 dM_bitwise_206 rfl rfl ?_
        refine z_lload (pc := 207) hZ 0 dM_bitwise_207 rfl ?_
        refine z_ldc2 (pc := 209) hZ (-9223372036854775808) (zb kc_M_41) dM_bitwise_209 ?_
        refine z_lif_ne (pc := 212) hZ 220 dM_bitwise_212 dM_bitwise_213 (by decide) (fun c213 => ?_) (fun c9 => False.elim (absurd c9 (by decide)))
        refine z_lload (pc := 220) hZ 1 dM_bitwise_220 rfl ?_
        refine z_lload (pc := 222) hZ 0 dM_bitwise_222 rfl ?_
        refine z_lneg (pc := 224) hZ dM_bitwise_224 (fun v224_13 ev224_13 => ?_)
        refine z_callS (pc := 225) (As := [.long r77_4, .long v224_13]) (rest := [.ref h0]) hZ (cM_shifted l D (TY cR c1 c2 c3) (MW h0 a1 a2 a3 c1 c2 c3 (ka, na, ea, kb, nb, eb, k, n, e, bits, scale, K, N, E) ++ Y) r77_4 v224_13) zyM_shifted (z_goodS ml_M_138 st_M_shifted in_M co_M_shifted) rfl rfl (by decide) rfl rfl (Nat.le_of_ble_eq_true rfl) ⟨Nat.zero_le _, Nat.zero_le _⟩ dM_bitwise_225 (z_kl (fun r225_14 w1 tys1 hp => ?_))
        obtain ⟨rfl, rfl, p225_14⟩ := hp
        refine z_callV (pc := 228) (As := [.long r225_14]) (rest := []) hZ (cM_setWhole l D cR c1 c2 c3 h0 a1 a2 a3 Y ka na ea kb nb eb k n e bits scale K N E r225_14) zyM_setWhole (z_goodV ml_M_134 im_M_setWhole se_M_setWhole in_M co_M_setWhole) 0 rfl rfl rfl rfl (by decide) rfl rfl (Nat.le_of_ble_eq_true rfl) ⟨Nat.zero_le _, Nat.zero_le _⟩ dM_bitwise_228 (z_kv (fun w1 tys1 hp => ?_))
        obtain ⟨k228_15, n228_15, e228_15, rfl, rfl, p228_15⟩ := hp
        refine z_iconst (pc := 231) hZ 0 dM_bitwise_231 (by decide) ?_
        exact z_reti (pc := 232) hZ dM_bitwise_232 .int rfl rfl ⟨_, rfl, _, _, _, rfl, rfl, (by first | exact ⟨⟨fun q => absurd q (by decide), fun h => h⟩, fun h _ => (cw_n (p13_1).1 h c55_3).elim⟩ | exact ⟨⟨fun q => absurd q (by decide), fun h => h⟩, fun _ h => (cw_n (nokey_).1 h nokey_).elim⟩ | exact ⟨⟨fun _ => Or.inl (And.left (by assumption)), fun _ => Or.inl (And.left (by assumption))⟩, fun _ _ => rfl⟩)⟩
      by_cases w117_12 : p1 = 12
      · refine z_tabAt (pc := 117) hZ 12 245 w117_12 dM_bitwise_117 (by decide) (by decide) rfl (by decide) ?_
        refine z_aload_n (pc := 245) hZ 4 dM_bitwise_245 rfl rfl ?_
        refine z_lload (pc := 246) hZ 1 dM_bitwise_246 rfl ?_
        refine z_callV (pc := 248) (As := [.long r77_4]) (rest := []) hZ (cM_setWhole l D cR c1 c2 c3 h0 a1 a2 a3 Y ka na ea kb nb eb k n e bits scale K N E r77_4) zyM_setWhole (z_goodV ml_M_134 im_M_setWhole se_M_setWhole in_M co_M_setWhole) 0 rfl rfl rfl rfl (by decide) rfl rfl (Nat.le_of_ble_eq_true rfl) ⟨Nat.zero_le _, Nat.zero_le _⟩ dM_bitwise_248 (z_kv (fun w1 tys1 hp => ?_))
        obtain ⟨k248_16, n248_16, e248_16, rfl, rfl, p248_16⟩ := hp
        refine z_iconst (pc := 251) hZ 0 dM_bitwise_251 (by decide) ?_
        exact z_reti (pc := 252) hZ dM_bitwise_252 .int rfl rfl ⟨_, rfl, _, _, _, rfl, rfl, (by first | exact ⟨⟨fun q => absurd q (by decide), fun h => h⟩, fun h _ => (cw_n (p13_1).1 h c55_3).elim⟩ | exact ⟨⟨fun q => absurd q (by decide), fun h => h⟩, fun _ h => (cw_n (nokey_).1 h nokey_).elim⟩ | exact ⟨⟨fun _ => Or.inl (And.left (by assumption)), fun _ => Or.inl (And.left (by assumption))⟩, fun _ _ => rfl⟩)⟩
      by_cases w117_13 : p1 = 13
      · refine z_tabAt (pc := 117) hZ 13 233 w117_13 dM_bitwise_117 (by decide) (by decide) rfl (by decide) ?_
        refine z_aload_n (pc := 233) hZ 4 dM_bitwise_233 rfl rfl ?_
        refine z_lload (pc := 234) hZ 1 dM_bitwise_234 rfl ?_
        refine z_ldc2 (pc := 236) hZ (-1) (zb kc_M_112) dM_bitwise_236 ?_
        refine z_lxor (pc := 239) hZ dM_bitwise_239 (fun v239_17 ev239_17 => ?_)
        refine z_callV (pc := 240) (As := [.long v239_17]) (rest := []) hZ (cM_setWhole l D cR c1 c2 c3 h0 a1 a2 a3 Y ka na ea kb nb eb k n e bits scale K N E v239_17) zyM_setWhole (z_goodV ml_M_134 im_M_setWhole se_M_setWhole in_M co_M_setWhole) 0 rfl rfl rfl rfl (by decide) rfl rfl (Nat.le_of_ble_eq_true rfl) ⟨Nat.zero_le _, Nat.zero_le _⟩ dM_bitwise_240 (z_kv (fun w1 tys1 hp => ?_))
        obtain ⟨k240_18, n240_18, e240_18, rfl, rfl, p240_18⟩ := hp
        refine z_iconst (pc := 243) hZ 0 dM_bitwise_243 (by decide) ?_
        exact z_reti (pc := 244) hZ dM_bitwise_244 .int rfl rfl ⟨_, rfl, _, _, _, rfl, rfl, (by first | exact ⟨⟨fun q => absurd q (by decide), fun h => h⟩, fun h _ => (cw_n (p13_1).1 h c55_3).elim⟩ | exact ⟨⟨fun q => absurd q (by decide), fun h => h⟩, fun _ h => (cw_n (nokey_).1 h nokey_).elim⟩ | exact ⟨⟨fun _ => Or.inl (And.left (by assumption)), fun _ => Or.inl (And.left (by assumption))⟩, fun _ _ => rfl⟩)⟩
      refine z_tabOut (pc := 117) hZ 245 dM_bitwise_117 (by have n7 := lv_neT w117_7 (a := 7) (by decide); have n8 := lv_neT w117_8 (a := 8) (by decide); have n9 := lv_neT w117_9 (a := 9) (by decide); have n10 := lv_neT w117_10 (a := 10) (by decide); have n11 := lv_neT w117_11 (a := 11) (by decide); have n12 := lv_neT w117_12 (a := 12) (by decide); have n13 := lv_neT w117_13 (a := 13) (by decide); omega) (by decide) ?_
      refine z_aload_n (pc := 245) hZ 4 dM_bitwise_245 rfl rfl ?_
      refine z_lload (pc := 246) hZ 1 dM_bitwise_246 rfl ?_
      refine z_callV (pc := 248) (As := [.long r77_4]) (rest := []) hZ (cM_setWhole l D cR c1 c2 c3 h0 a1 a2 a3 Y ka na ea kb nb eb k n e bits scale K N E r77_4) zyM_setWhole (z_goodV ml_M_134 im_M_setWhole se_M_setWhole in_M co_M_setWhole) 0 rfl rfl rfl rfl (by decide) rfl rfl (Nat.le_of_ble_eq_true rfl) ⟨Nat.zero_le _, Nat.zero_le _⟩ dM_bitwise_248 (z_kv (fun w1 tys1 hp => ?_))
      obtain ⟨k248_19, n248_19, e248_19, rfl, rfl, p248_19⟩ := hp
      refine z_iconst (pc := 251) hZ 0 dM_bitwise_251 (by decide) ?_
      exact z_reti (pc := 252) hZ dM_bitwise_252 .int rfl rfl ⟨_, rfl, _, _, _, rfl, rfl, (by first | exact ⟨⟨fun q => absurd q (by decide), fun h => h⟩, fun h _ => (cw_n (p13_1).1 h c55_3).elim⟩ | exact ⟨⟨fun q => absurd q (by decide), fun h => h⟩, fun _ h => (cw_n (nokey_).1 h nokey_).elim⟩ | exact ⟨⟨fun _ => Or.inl (And.left (by assumption)), fun _ => Or.inl (And.left (by assumption))⟩, fun _ _ => rfl⟩)⟩
  · refine z_iload_n (pc := 23) hZ 2 dM_bitwise_23 rfl rfl ?_
    refine z_bipush (pc := 24) hZ 16 dM_bitwise_24 (by decide) ?_
    refine z_icmp_eq (pc := 26) hZ 48 dM_bitwise_26 (by decide) (fun c26_20 => ?_) (fun c26_20 => ?_)
    · refine z_iconst (pc := 48) hZ 1 dM_bitwise_48 (by decide) ?_
      refine z_goto (pc := 49) hZ 53 dM_bitwise_49 (by decide) ?_
      refine z_istore_n (pc := 53) hZ [(3, .int 1), (2, .int r13_1), (0, .ref h0), (1, .int p1)] dM_bitwise_53 rfl (by decide) rfl ?_
      refine z_iload_n (pc := 54) hZ 1 dM_bitwise_54 rfl rfl ?_
      refine z_if_eq (pc := 55) hZ 62 dM_bitwise_55 (by decide) (fun c55_21 => ?_) (fun c55_21 => ?_)
      · refine z_iconst (pc := 62) hZ 2 dM_bitwise_62 (by decide) ?_
        exact z_reti (pc := 63) hZ dM_bitwise_63 .int rfl rfl ⟨_, rfl, _, _, _, rfl, rfl, (by first | exact ⟨⟨fun q => absurd q (by decide), fun h => h⟩, fun h _ => (cw_n (p13_1).1 h c55_21).elim⟩ | exact ⟨⟨fun q => absurd q (by decide), fun h => h⟩, fun _ h => (cw_n (nokey_).1 h nokey_).elim⟩ | exact ⟨⟨fun _ => Or.inl (And.left (by assumption)), fun _ => Or.inl (And.left (by assumption))⟩, fun _ _ => rfl⟩)⟩
      · refine z_iload_n (pc := 58) hZ 0 dM_bitwise_58 rfl rfl ?_
        refine z_if_ne (pc := 59) hZ 64 dM_bitwise_59 (by decide) (fun c59 => ?_) (fun c9 => False.elim (absurd c9 (by decide)))
        refine z_aload_n (pc := 64) hZ 2 dM_bitwise_64 rfl rfl ?_
        refine z_aload_n (pc := 65) hZ 2 dM_bitwise_65 rfl rfl ?_
        refine z_get (pc := 66) (ci := 2) hZ 0 rfl rfl uc_M 3 (by decide) (zb fl_M_51) rfl dM_bitwise_66 ?_
        refine z_aload_n (pc := 69) hZ 2 dM_bitwise_69 rfl rfl ?_
        refine z_get (pc := 70) (ci := 2) hZ 0 rfl rfl uc_M 4 (by decide) (zb fl_M_54) rfl dM_bitwise_70 ?_
        refine z_aload_n (pc := 73) hZ 2 dM_bitwise_73 rfl rfl ?_
        refine z_get (pc := 74) (ci := 2) hZ 0 rfl rfl uc_M 5 (by decide) (zb fl_M_57) rfl dM_bitwise_74 ?_
        refine z_callV (pc := 77) (As := [.int ka, .long na, .int ea]) (rest := []) hZ (cM_wholeOf l D cR c1 c2 c3 h0 a1 a2 a3 Y ka na ea kb nb eb k n e bits scale K N E ka na ea) zyM_wholeOf (z_goodV ml_M_130 im_M_wholeOf se_M_wholeOf in_M co_M_wholeOf) 0 rfl rfl rfl rfl (by decide) rfl rfl (Nat.le_of_ble_eq_true rfl) ⟨Nat.zero_le _, Nat.zero_le _⟩ dM_bitwise_77 (z_kl (fun r77_22 w1 tys1 hp => ?_))
        obtain ⟨rfl, rfl, p77_22⟩ := hp
        refine z_lstore (pc := 80) hZ [(4, .long r77_22), (3, .int 1), (2, .int r13_1), (0, .ref h0), (1, .int p1)] dM_bitwise_80 (by decide) rfl ?_
        refine z_iload_n (pc := 82) hZ 4 dM_bitwise_82 rfl rfl ?_
        refine z_bipush (pc := 83) hZ 13 dM_bitwise_83 (by decide) ?_
        refine z_icmp_eq (pc := 85) hZ 94 dM_bitwise_85 (by decide) (fun c9 => False.elim (by first | exact absurd c9 c20_2 | exact absurd c20_2 c9 | exact absurd c9 (Int32.not_lt.mpr c20_2) | exact absurd c9 (Int32.not_le.mpr c20_2) | exact c9 ((Int32.not_lt).mp c20_2) | exact c9 ((Int32.not_le).mp c20_2))) (fun c85 => ?_)
        refine z_iload_n (pc := 88) hZ 4 dM_bitwise_88 rfl rfl ?_
        refine z_bipush (pc := 89) hZ 16 dM_bitwise_89 (by decide) ?_
        refine z_icmp_ne (pc := 91) hZ 98 dM_bitwise_91 (by decide) (fun c9 => False.elim (by first | exact absurd c9 c26_20 | exact absurd c26_20 c9 | exact absurd c9 (Int32.not_lt.mpr c26_20) | exact absurd c9 (Int32.not_le.mpr c26_20) | exact c9 ((Int32.not_lt).mp c26_20) | exact c9 ((Int32.not_le).mp c26_20))) (fun c91 => ?_)
        refine z_lconst (pc := 94) hZ 0 dM_bitwise_94 (by decide) ?_
        refine z_goto (pc := 95) hZ 114 dM_bitwise_95 (by decide) ?_
        refine z_lstore (pc := 114) hZ [(6, .long 0), (4, .long r77_22), (3, .int 1), (2, .int r13_1), (0, .ref h0), (1, .int p1)] dM_bitwise_114 (by decide) rfl ?_
        refine z_iload_n (pc := 116) hZ 5 dM_bitwise_116 rfl rfl ?_
        by_cases w117_7 : p1 = 7
        · refine z_tabAt (pc := 117) hZ 7 160 w117_7 dM_bitwise_117 (by decide) (by decide) rfl (by decide) ?_
          refine z_aload_n (pc := 160) hZ 4 dM_bitwise_160 rfl rfl ?_
          refine z_lload (pc := 161) hZ 1 dM_bitwise_161 rfl ?_
          refine z_lload (pc := 163) hZ 0 dM_bitwise_163 rfl ?_
          refine z_land (pc := 165) hZ dM_bitwise_165 (fun v165_23 ev165_23 => ?_)
          refine z_callV (pc := 166) (As := [.long v165_23]) (rest := []) hZ (cM_setWhole l D cR c1 c2 c3 h0 a1 a2 a3 Y ka na ea kb nb eb k n e bits scale K N E v165_23) zyM_setWhole (z_goodV ml_M_134 im_M_setWhole se_M_setWhole in_M co_M_setWhole) 0 rfl rfl rfl rfl (by decide) rfl rfl (Nat.le_of_ble_eq_true rfl) ⟨Nat.zero_le _, Nat.zero_le _⟩ dM_bitwise_166 (z_kv (fun w1 tys1 hp => ?_))
          obtain ⟨k166_24, n166_24, e166_24, rfl, rfl, p166_24⟩ := hp
          refine z_iconst (pc := 169) hZ 0 dM_bitwise_169 (by decide) ?_
          exact z_reti (pc := 170) hZ dM_bitwise_170 .int rfl rfl ⟨_, rfl, _, _, _, rfl, rfl, (by first | exact ⟨⟨fun q => absurd q (by decide), fun h => h⟩, fun h _ => (cw_n (p13_1).1 h c55_21).elim⟩ | exact ⟨⟨fun q => absurd q (by decide), fun h => h⟩, fun _ h => (cw_n (nokey_).1 h nokey_).elim⟩ | exact ⟨⟨fun _ => Or.inl (And.left (by assumption)), fun _ => Or.inl (And.left (by assumption))⟩, fun _ _ => rfl⟩)⟩
        by_cases w117_8 : p1 = 8
        · refine z_tabAt (pc := 117) hZ 8 171 w117_8 dM_bitwise_117 (by decide) (by decide) rfl (by decide) ?_
          refine z_aload_n (pc := 171) hZ 4 dM_bitwise_171 rfl rfl ?_
          refine z_lload (pc := 172) hZ 1 dM_bitwise_172 rfl ?_
          refine z_lload (pc := 174) hZ 0 dM_bitwise_174 rfl ?_
          refine z_lor (pc := 176) hZ dM_bitwise_176 (fun v176_25 ev176_25 => ?_)
          refine z_callV (pc := 177) (As := [.long v176_25]) (rest := []) hZ (cM_setWhole l D cR c1 c2 c3 h0 a1 a2 a3 Y ka na ea kb nb eb k n e bits scale K N E v176_25) zyM_setWhole (z_goodV ml_M_134 im_M_setWhole se_M_setWhole in_M co_M_setWhole) 0 rfl rfl rfl rfl (by decide) rfl rfl (Nat.le_of_ble_eq_true rfl) ⟨Nat.zero_le _, Nat.zero_le _⟩ dM_bitwise_177 (z_kv (fun w1 tys1 hp => ?_))
          obtain ⟨k177_26, n177_26, e177_26, rfl, rfl, p177_26⟩ := hp
          refine z_iconst (pc := 180) hZ 0 dM_bitwise_180 (by decide) ?_
          exact z_reti (pc := 181) hZ dM_bitwise_181 .int rfl rfl ⟨_, rfl, _, _, _, rfl, rfl, (by first | exact ⟨⟨fun q => absurd q (by decide), fun h => h⟩, fun h _ => (cw_n (p13_1).1 h c55_21).elim⟩ | exact ⟨⟨fun q => absurd q (by decide), fun h => h⟩, fun _ h => (cw_n (nokey_).1 h nokey_).elim⟩ | exact ⟨⟨fun _ => Or.inl (And.left (by assumption)), fun _ => Or.inl (And.left (by assumption))⟩, fun _ _ => rfl⟩)⟩
        by_cases w117_9 : p1 = 9
        · refine z_tabAt (pc := 117) hZ 9 182 w117_9 dM_bitwise_117 (by decide) (by decide) rfl (by decide) ?_
          refine z_aload_n (pc := 182) hZ 4 dM_bitwise_182 rfl rfl ?_
          refine z_lload (pc := 183) hZ 1 dM_bitwise_183 rfl ?_
          refine z_lload (pc := 185) hZ 0 dM_bitwise_185 rfl ?_
          refine z_lxor (pc := 187) hZ dM_bitwise_187 (fun v187_27 ev187_27 => ?_)
          refine z_callV (pc := 188) (As := [.long v187_27]) (rest := []) hZ (cM_setWhole l D cR c1 c2 c3 h0 a1 a2 a3 Y ka na ea kb nb eb k n e bits scale K N E v187_27) zyM_setWhole (z_goodV ml_M_134 im_M_setWhole se_M_setWhole in_M co_M_setWhole) 0 rfl rfl rfl rfl (by decide) rfl rfl (Nat.le_of_ble_eq_true rfl) ⟨Nat.zero_le _, Nat.zero_le _⟩ dM_bitwise_188 (z_kv (fun w1 tys1 hp => ?_))
          obtain ⟨k188_28, n188_28, e188_28, rfl, rfl, p188_28⟩ := hp
          refine z_iconst (pc := 191) hZ 0 dM_bitwise_191 (by decide) ?_
          exact z_reti (pc := 192) hZ dM_bitwise_192 .int rfl rfl ⟨_, rfl, _, _, _, rfl, rfl, (by first | exact ⟨⟨fun q => absurd q (by decide), fun h => h⟩, fun h _ => (cw_n (p13_1).1 h c55_21).elim⟩ | exact ⟨⟨fun q => absurd q (by decide), fun h => h⟩, fun _ h => (cw_n (nokey_).1 h nokey_).elim⟩ | exact ⟨⟨fun _ => Or.inl (And.left (by assumption)), fun _ => Or.inl (And.left (by assumption))⟩, fun _ _ => rfl⟩)⟩
        by_cases w117_10 : p1 = 10
        · refine z_tabAt (pc := 117) hZ 10 193 w117_10 dM_bitwise_117 (by decide) (by decide) rfl (by decide) ?_
          refine z_aload_n (pc := 193) hZ 4 dM_bitwise_193 rfl rfl ?_
          refine z_lload (pc := 194) hZ 1 dM_bitwise_194 rfl ?_
          refine z_lload (pc := 196) hZ 0 dM_bitwise_196 rfl ?_
          refine z_callS (pc := 198) (As := [.long r77_22, .long 0]) (rest := [.ref h0]) hZ (cM_shifted l D (TY cR c1 c2 c3) (MW h0 a1 a2 a3 c1 c2 c3 (ka, na, ea, kb, nb, eb, k, n, e, bits, scale, K, N, E) ++ Y) r77_22 0) zyM_shifted (z_goodS ml_M_138 st_M_shifted in_M co_M_shifted) rfl rfl (by decide) rfl rfl (Nat.le_of_ble_eq_true rfl) ⟨Nat.zero_le _, Nat.zero_le _⟩ dM_bitwise_198 (z_kl (fun r198_29 w1 tys1 hp => ?_))
          obtain ⟨rfl, rfl, p198_29⟩ := hp
          refine z_callV (pc := 201) (As := [.long r198_29]) (rest := []) hZ (cM_setWhole l D cR c1 c2 c3 h0 a1 a2 a3 Y ka na ea kb nb eb k n e bits scale K N E r198_29) zyM_setWhole (z_goodV ml_M_134 im_M_setWhole se_M_setWhole in_M co_M_setWhole) 0 rfl rfl rfl rfl (by decide) rfl rfl (Nat.le_of_ble_eq_true rfl) ⟨Nat.zero_le _, Nat.zero_le _⟩ dM_bitwise_201 (z_kv (fun w1 tys1 hp => ?_))
          obtain ⟨k201_30, n201_30, e201_30, rfl, rfl, p201_30⟩ := hp
          refine z_iconst (pc := 204) hZ 0 dM_bitwise_204 (by decide) ?_
          exact z_reti (pc := 205) hZ dM_bitwise_205 .int rfl rfl ⟨_, rfl, _, _, _, rfl, rfl, (by first | exact ⟨⟨fun q => absurd q (by decide), fun h => h⟩, fun h _ => (cw_n (p13_1).1 h c55_21).elim⟩ | exact ⟨⟨fun q => absurd q (by decide), fun h => h⟩, fun _ h => (cw_n (nokey_).1 h nokey_).elim⟩ | exact ⟨⟨fun _ => Or.inl (And.left (by assumption)), fun _ => Or.inl (And.left (by assumption))⟩, fun _ _ => rfl⟩)⟩
        by_cases w117_11 : p1 = 11
        · refine z_tabAt (pc := 117) hZ 11 206 w117_11 dM_bitwise_117 (by decide) (by decide) rfl (by decide) ?_
          refine z_aload_n (pc := 206) hZ 4 dM_bitwise_206 rfl rfl ?_
          refine z_lload (pc := 207) hZ 0 dM_bitwise_207 rfl ?_
          refine z_ldc2 (pc := 209) hZ (-9223372036854775808) (zb kc_M_41) dM_bitwise_209 ?_
          refine z_lif_ne (pc := 212) hZ 220 dM_bitwise_212 dM_bitwise_213 (by decide) (fun c213 => ?_) (fun c9 => False.elim (absurd c9 (by decide)))
          refine z_lload (pc := 220) hZ 1 dM_bitwise_220 rfl ?_
          refine z_lload (pc := 222) hZ 0 dM_bitwise_222 rfl ?_
          refine z_lneg (pc := 224) hZ dM_bitwise_224 (fun v224_31 ev224_31 => ?_)
          refine z_callS (pc := 225) (As := [.long r77_22, .long v224_31]) (rest := [.ref h0]) hZ (cM_shifted l D (TY cR c1 c2 c3) (MW h0 a1 a2 a3 c1 c2 c3 (ka, na, ea, kb, nb, eb, k, n, e, bits, scale, K, N, E) ++ Y) r77_22 v224_31) zyM_shifted (z_goodS ml_M_138 st_M_shifted in_M co_M_shifted) rfl rfl (by decide) rfl rfl (Nat.le_of_ble_eq_true rfl) ⟨Nat.zero_le _, Nat.zero_le _⟩ dM_bitwise_225 (z_kl (fun r225_32 w1 tys1 hp => ?_))
          obtain ⟨rfl, rfl, p225_32⟩ := hp
          refine z_callV (pc := 228) (As := [.long r225_32]) (rest := []) hZ (cM_setWhole l D cR c1 c2 c3 h0 a1 a2 a3 Y ka na ea kb nb eb k n e bits scale K N E r225_32) zyM_setWhole (z_goodV ml_M_134 im_M_setWhole se_M_setWhole in_M co_M_setWhole) 0 rfl rfl rfl rfl (by decide) rfl rfl (Nat.le_of_ble_eq_true rfl) ⟨Nat.zero_le _, Nat.zero_le _⟩ dM_bitwise_228 (z_kv (fun w1 tys1 hp => ?_))
          obtain ⟨k228_33, n228_33, e228_33, rfl, rfl, p228_33⟩ := hp
          refine z_iconst (pc := 231) hZ 0 dM_bitwise_231 (by decide) ?_
          exact z_reti (pc := 232) hZ dM_bitwise_232 .int rfl rfl ⟨_, rfl, _, _, _, rfl, rfl, (by first | exact ⟨⟨fun q => absurd q (by decide), fun h => h⟩, fun h _ => (cw_n (p13_1).1 h c55_21).elim⟩ | exact ⟨⟨fun q => absurd q (by decide), fun h => h⟩, fun _ h => (cw_n (nokey_).1 h nokey_).elim⟩ | exact ⟨⟨fun _ => Or.inl (And.left (by assumption)), fun _ => Or.inl (And.left (by assumption))⟩, fun _ _ => rfl⟩)⟩
        by_cases w117_12 : p1 = 12
        · refine z_tabAt (pc := 117) hZ 12 245 w117_12 dM_bitwise_117 (by decide) (by decide) rfl (by decide) ?_
          refine z_aload_n (pc := 245) hZ 4 dM_bitwise_245 rfl rfl ?_
          refine z_lload (pc := 246) hZ 1 dM_bitwise_246 rfl ?_
          refine z_callV (pc := 248) (As := [.long r77_22]) (rest := []) hZ (cM_setWhole l D cR c1 c2 c3 h0 a1 a2 a3 Y ka na ea kb nb eb k n e bits scale K N E r77_22) zyM_setWhole (z_goodV ml_M_134 im_M_setWhole se_M_setWhole in_M co_M_setWhole) 0 rfl rfl rfl rfl (by decide) rfl rfl (Nat.le_of_ble_eq_true rfl) ⟨Nat.zero_le _, Nat.zero_le _⟩ dM_bitwise_248 (z_kv (fun w1 tys1 hp => ?_))
          obtain ⟨k248_34, n248_34, e248_34, rfl, rfl, p248_34⟩ := hp
          refine z_iconst (pc := 251) hZ 0 dM_bitwise_251 (by decide) ?_
          exact z_reti (pc := 252) hZ dM_bitwise_252 .int rfl rfl ⟨_, rfl, _, _, _, rfl, rfl, (by first | exact ⟨⟨fun q => absurd q (by decide), fun h => h⟩, fun h _ => (cw_n (p13_1).1 h c55_21).elim⟩ | exact ⟨⟨fun q => absurd q (by decide), fun h => h⟩, fun _ h => (cw_n (nokey_).1 h nokey_).elim⟩ | exact ⟨⟨fun _ => Or.inl (And.left (by assumption)), fun _ => Or.inl (And.left (by assumption))⟩, fun _ _ => rfl⟩)⟩
        by_cases w117_13 : p1 = 13
        · refine z_tabAt (pc := 117) hZ 13 233 w117_13 dM_bitwise_117 (by decide) (by decide) rfl (by decide) ?_
          refine z_aload_n (pc := 233) hZ 4 dM_bitwise_233 rfl rfl ?_
          refine z_lload (pc := 234) hZ 1 dM_bitwise_234 rfl ?_
          refine z_ldc2 (pc := 236) hZ (-1) (zb kc_M_112) dM_bitwise_236 ?_
          refine z_lxor (pc := 239) hZ dM_bitwise_239 (fun v239_35 ev239_35 => ?_)
          refine z_callV (pc := 240) (As := [.long v239_35]) (rest := []) hZ (cM_setWhole l D cR c1 c2 c3 h0 a1 a2 a3 Y ka na ea kb nb eb k n e bits scale K N E v239_35) zyM_setWhole (z_goodV ml_M_134 im_M_setWhole se_M_setWhole in_M co_M_setWhole) 0 rfl rfl rfl rfl (by decide) rfl rfl (Nat.le_of_ble_eq_true rfl) ⟨Nat.zero_le _, Nat.zero_le _⟩ dM_bitwise_240 (z_kv (fun w1 tys1 hp => ?_))
          obtain ⟨k240_36, n240_36, e240_36, rfl, rfl, p240_36⟩ := hp
          refine z_iconst (pc := 243) hZ 0 dM_bitwise_243 (by decide) ?_
          exact z_reti (pc := 244) hZ dM_bitwise_244 .int rfl rfl ⟨_, rfl, _, _, _, rfl, rfl, (by first | exact ⟨⟨fun q => absurd q (by decide), fun h => h⟩, fun h _ => (cw_n (p13_1).1 h c55_21).elim⟩ | exact ⟨⟨fun q => absurd q (by decide), fun h => h⟩, fun _ h => (cw_n (nokey_).1 h nokey_).elim⟩ | exact ⟨⟨fun _ => Or.inl (And.left (by assumption)), fun _ => Or.inl (And.left (by assumption))⟩, fun _ _ => rfl⟩)⟩
        refine z_tabOut (pc := 117) hZ 245 dM_bitwise_117 (by have n7 := lv_neT w117_7 (a := 7) (by decide); have n8 := lv_neT w117_8 (a := 8) (by decide); have n9 := lv_neT w117_9 (a := 9) (by decide); have n10 := lv_neT w117_10 (a := 10) (by decide); have n11 := lv_neT w117_11 (a := 11) (by decide); have n12 := lv_neT w117_12 (a := 12) (by decide); have n13 := lv_neT w117_13 (a := 13) (by decide); omega) (by decide) ?_
        refine z_aload_n (pc := 245) hZ 4 dM_bitwise_245 rfl rfl ?_
        refine z_lload (pc := 246) hZ 1 dM_bitwise_246 rfl ?_
        refine z_callV (pc := 248) (As := [.long r77_22]) (rest := []) hZ (cM_setWhole l D cR c1 c2 c3 h0 a1 a2 a3 Y ka na ea kb nb eb k n e bits scale K N E r77_22) zyM_setWhole (z_goodV ml_M_134 im_M_setWhole se_M_setWhole in_M co_M_setWhole) 0 rfl rfl rfl rfl (by decide) rfl rfl (Nat.le_of_ble_eq_true rfl) ⟨Nat.zero_le _, Nat.zero_le _⟩ dM_bitwise_248 (z_kv (fun w1 tys1 hp => ?_))
        obtain ⟨k248_37, n248_37, e248_37, rfl, rfl, p248_37⟩ := hp
        refine z_iconst (pc := 251) hZ 0 dM_bitwise_251 (by decide) ?_
        exact z_reti (pc := 252) hZ dM_bitwise_252 .int rfl rfl ⟨_, rfl, _, _, _, rfl, rfl, (by first | exact ⟨⟨fun q => absurd q (by decide), fun h => h⟩, fun h _ => (cw_n (p13_1).1 h c55_21).elim⟩ | exact ⟨⟨fun q => absurd q (by decide), fun h => h⟩, fun _ h => (cw_n (nokey_).1 h nokey_).elim⟩ | exact ⟨⟨fun _ => Or.inl (And.left (by assumption)), fun _ => Or.inl (And.left (by assumption))⟩, fun _ _ => rfl⟩)⟩
    · refine z_aload_n (pc := 29) hZ 1 dM_bitwise_29 rfl rfl ?_
      refine z_aload_n (pc := 30) hZ 1 dM_bitwise_30 rfl rfl ?_
      refine z_get (pc := 31) (ci := 2) hZ 0 rfl rfl uc_M 6 (by decide) (zb fl_M_60) rfl dM_bitwise_31 ?_
      refine z_aload_n (pc := 34) hZ 1 dM_bitwise_34 rfl rfl ?_
      refine z_get (pc := 35) (ci := 2) hZ 0 rfl rfl uc_M 7 (by decide) (zb fl_M_63) rfl dM_bitwise_35 ?_
      refine z_aload_n (pc := 38) hZ 1 dM_bitwise_38 rfl rfl ?_
      refine z_get (pc := 39) (ci := 2) hZ 0 rfl rfl uc_M 8 (by decide) (zb fl_M_66) rfl dM_bitwise_39 ?_
      refine z_callV (pc := 42) (As := [.int kb, .long nb, .int eb]) (rest := []) hZ (cM_isWhole l D cR c1 c2 c3 h0 a1 a2 a3 Y ka na ea kb nb eb k n e bits scale K N E kb nb eb) zyM_isWhole (z_goodV ml_M_126 im_M_isWhole se_M_isWhole in_M co_M_isWhole) 0 rfl rfl rfl rfl (by decide) rfl rfl (Nat.le_of_ble_eq_true rfl) ⟨Nat.zero_le _, Nat.zero_le _⟩ dM_bitwise_42 (z_ki (fun r42_38 w1 tys1 hp => ?_))
      obtain ⟨rfl, rfl, p42_38⟩ := hp
      refine z_if_eq (pc := 45) hZ 52 dM_bitwise_45 (by decide) (fun c45_39 => ?_) (fun c45_39 => ?_)
      · refine z_iconst (pc := 52) hZ 0 dM_bitwise_52 (by decide) ?_
        refine z_istore_n (pc := 53) hZ [(3, .int 0), (2, .int r13_1), (0, .ref h0), (1, .int p1)] dM_bitwise_53 rfl (by decide) rfl ?_
        refine z_iload_n (pc := 54) hZ 1 dM_bitwise_54 rfl rfl ?_
        refine z_if_eq (pc := 55) hZ 62 dM_bitwise_55 (by decide) (fun c55_40 => ?_) (fun c55_40 => ?_)
        · refine z_iconst (pc := 62) hZ 2 dM_bitwise_62 (by decide) ?_
          exact z_reti (pc := 63) hZ dM_bitwise_63 .int rfl rfl ⟨_, rfl, _, _, _, rfl, rfl, (by first | exact ⟨⟨fun q => absurd q (by decide), fun h => h⟩, fun h _ => (cw_n (p13_1).1 h c55_40).elim⟩ | exact ⟨⟨fun q => absurd q (by decide), fun h => h⟩, fun _ h => (cw_n (p42_38).1 h c45_39).elim⟩ | exact ⟨⟨fun _ => Or.inl (And.left (by assumption)), fun _ => Or.inl (And.left (by assumption))⟩, fun _ _ => rfl⟩)⟩
        · refine z_iload_n (pc := 58) hZ 0 dM_bitwise_58 rfl rfl ?_
          refine z_if_ne (pc := 59) hZ 64 dM_bitwise_59 (by decide) (fun c9 => False.elim (absurd c9 (by decide))) (fun c59 => ?_)
          refine z_iconst (pc := 62) hZ 2 dM_bitwise_62 (by decide) ?_
          exact z_reti (pc := 63) hZ dM_bitwise_63 .int rfl rfl ⟨_, rfl, _, _, _, rfl, rfl, (by first | exact ⟨⟨fun q => absurd q (by decide), fun h => h⟩, fun h _ => (cw_n (p13_1).1 h c55_40).elim⟩ | exact ⟨⟨fun q => absurd q (by decide), fun h => h⟩, fun _ h => (cw_n (p42_38).1 h c45_39).elim⟩ | exact ⟨⟨fun _ => Or.inl (And.left (by assumption)), fun _ => Or.inl (And.left (by assumption))⟩, fun _ _ => rfl⟩)⟩
      · refine z_iconst (pc := 48) hZ 1 dM_bitwise_48 (by decide) ?_
        refine z_goto (pc := 49) hZ 53 dM_bitwise_49 (by decide) ?_
        refine z_istore_n (pc := 53) hZ [(3, .int 1), (2, .int r13_1), (0, .ref h0), (1, .int p1)] dM_bitwise_53 rfl (by decide) rfl ?_
        refine z_iload_n (pc := 54) hZ 1 dM_bitwise_54 rfl rfl ?_
        refine z_if_eq (pc := 55) hZ 62 dM_bitwise_55 (by decide) (fun c55_41 => ?_) (fun c55_41 => ?_)
        · refine z_iconst (pc := 62) hZ 2 dM_bitwise_62 (by decide) ?_
          exact z_reti (pc := 63) hZ dM_bitwise_63 .int rfl rfl ⟨_, rfl, _, _, _, rfl, rfl, (by first | exact ⟨⟨fun q => absurd q (by decide), fun h => h⟩, fun h _ => (cw_n (p13_1).1 h c55_41).elim⟩ | exact ⟨⟨fun q => absurd q (by decide), fun h => h⟩, fun _ h => (cw_n (p42_38).1 h c45_39).elim⟩ | exact ⟨⟨fun _ => Or.inl (And.left (by assumption)), fun _ => Or.inl (And.left (by assumption))⟩, fun _ _ => rfl⟩)⟩
        · refine z_iload_n (pc := 58) hZ 0 dM_bitwise_58 rfl rfl ?_
          refine z_if_ne (pc := 59) hZ 64 dM_bitwise_59 (by decide) (fun c59 => ?_) (fun c9 => False.elim (absurd c9 (by decide)))
          refine z_aload_n (pc := 64) hZ 2 dM_bitwise_64 rfl rfl ?_
          refine z_aload_n (pc := 65) hZ 2 dM_bitwise_65 rfl rfl ?_
          refine z_get (pc := 66) (ci := 2) hZ 0 rfl rfl uc_M 3 (by decide) (zb fl_M_51) rfl dM_bitwise_66 ?_
          refine z_aload_n (pc := 69) hZ 2 dM_bitwise_69 rfl rfl ?_
          refine z_get (pc := 70) (ci := 2) hZ 0 rfl rfl uc_M 4 (by decide) (zb fl_M_54) rfl dM_bitwise_70 ?_
          refine z_aload_n (pc := 73) hZ 2 dM_bitwise_73 rfl rfl ?_
          refine z_get (pc := 74) (ci := 2) hZ 0 rfl rfl uc_M 5 (by decide) (zb fl_M_57) rfl dM_bitwise_74 ?_
          refine z_callV (pc := 77) (As := [.int ka, .long na, .int ea]) (rest := []) hZ (cM_wholeOf l D cR c1 c2 c3 h0 a1 a2 a3 Y ka na ea kb nb eb k n e bits scale K N E ka na ea) zyM_wholeOf (z_goodV ml_M_130 im_M_wholeOf se_M_wholeOf in_M co_M_wholeOf) 0 rfl rfl rfl rfl (by decide) rfl rfl (Nat.le_of_ble_eq_true rfl) ⟨Nat.zero_le _, Nat.zero_le _⟩ dM_bitwise_77 (z_kl (fun r77_42 w1 tys1 hp => ?_))
          obtain ⟨rfl, rfl, p77_42⟩ := hp
          refine z_lstore (pc := 80) hZ [(4, .long r77_42), (3, .int 1), (2, .int r13_1), (0, .ref h0), (1, .int p1)] dM_bitwise_80 (by decide) rfl ?_
          refine z_iload_n (pc := 82) hZ 4 dM_bitwise_82 rfl rfl ?_
          refine z_bipush (pc := 83) hZ 13 dM_bitwise_83 (by decide) ?_
          refine z_icmp_eq (pc := 85) hZ 94 dM_bitwise_85 (by decide) (fun c9 => False.elim (by first | exact absurd c9 c20_2 | exact absurd c20_2 c9 | exact absurd c9 (Int32.not_lt.mpr c20_2) | exact absurd c9 (Int32.not_le.mpr c20_2) | exact c9 ((Int32.not_lt).mp c20_2) | exact c9 ((Int32.not_le).mp c20_2))) (fun c85 => ?_)
          refine z_iload_n (pc := 88) hZ 4 dM_bitwise_88 rfl rfl ?_
          refine z_bipush (pc := 89) hZ 16 dM_bitwise_89 (by decide) ?_
          refine z_icmp_ne (pc := 91) hZ 98 dM_bitwise_91 (by decide) (fun c91 => ?_) (fun c9 => False.elim (by first | exact absurd c9 c26_20 | exact absurd c26_20 c9 | exact absurd c9 (Int32.not_lt.mpr c26_20) | exact absurd c9 (Int32.not_le.mpr c26_20) | exact c9 ((Int32.not_lt).mp c26_20) | exact c9 ((Int32.not_le).mp c26_20)))
          refine z_aload_n (pc := 98) hZ 3 dM_bitwise_98 rfl rfl ?_
          refine z_aload_n (pc := 99) hZ 3 dM_bitwise_99 rfl rfl ?_
          refine z_get (pc := 100) (ci := 2) hZ 0 rfl rfl uc_M 6 (by decide) (zb fl_M_60) rfl dM_bitwise_100 ?_
          refine z_aload_n (pc := 103) hZ 3 dM_bitwise_103 rfl rfl ?_
          refine z_get (pc := 104) (ci := 2) hZ 0 rfl rfl uc_M 7 (by decide) (zb fl_M_63) rfl dM_bitwise_104 ?_
          refine z_aload_n (pc := 107) hZ 3 dM_bitwise_107 rfl rfl ?_
          refine z_get (pc := 108) (ci := 2) hZ 0 rfl rfl uc_M 8 (by decide) (zb fl_M_66) rfl dM_bitwise_108 ?_
          refine z_callV (pc := 111) (As := [.int kb, .long nb, .int eb]) (rest := []) hZ (cM_wholeOf l D cR c1 c2 c3 h0 a1 a2 a3 Y ka na ea kb nb eb k n e bits scale K N E kb nb eb) zyM_wholeOf (z_goodV ml_M_130 im_M_wholeOf se_M_wholeOf in_M co_M_wholeOf) 0 rfl rfl rfl rfl (by decide) rfl rfl (Nat.le_of_ble_eq_true rfl) ⟨Nat.zero_le _, Nat.zero_le _⟩ dM_bitwise_111 (z_kl (fun r111_43 w1 tys1 hp => ?_))
          obtain ⟨rfl, rfl, p111_43⟩ := hp
          refine z_lstore (pc := 114) hZ [(6, .long r111_43), (4, .long r77_42), (3, .int 1), (2, .int r13_1), (0, .ref h0), (1, .int p1)] dM_bitwise_114 (by decide) rfl ?_
          refine z_iload_n (pc := 116) hZ 5 dM_bitwise_116 rfl rfl ?_
          by_cases w117_7 : p1 = 7
          · refine z_tabAt (pc := 117) hZ 7 160 w117_7 dM_bitwise_117 (by decide) (by decide) rfl (by decide) ?_
            refine z_aload_n (pc := 160) hZ 4 dM_bitwise_160 rfl rfl ?_
            refine z_lload (pc := 161) hZ 1 dM_bitwise_161 rfl ?_
            refine z_lload (pc := 163) hZ 0 dM_bitwise_163 rfl ?_
            refine z_land (pc := 165) hZ dM_bitwise_165 (fun v165_44 ev165_44 => ?_)
            refine z_callV (pc := 166) (As := [.long v165_44]) (rest := []) hZ (cM_setWhole l D cR c1 c2 c3 h0 a1 a2 a3 Y ka na ea kb nb eb k n e bits scale K N E v165_44) zyM_setWhole (z_goodV ml_M_134 im_M_setWhole se_M_setWhole in_M co_M_setWhole) 0 rfl rfl rfl rfl (by decide) rfl rfl (Nat.le_of_ble_eq_true rfl) ⟨Nat.zero_le _, Nat.zero_le _⟩ dM_bitwise_166 (z_kv (fun w1 tys1 hp => ?_))
            obtain ⟨k166_45, n166_45, e166_45, rfl, rfl, p166_45⟩ := hp
            refine z_iconst (pc := 169) hZ 0 dM_bitwise_169 (by decide) ?_
            exact z_reti (pc := 170) hZ dM_bitwise_170 .int rfl rfl ⟨_, rfl, _, _, _, rfl, rfl, (by first | exact ⟨⟨fun q => absurd q (by decide), fun h => h⟩, fun h _ => (cw_n (p13_1).1 h c55_41).elim⟩ | exact ⟨⟨fun q => absurd q (by decide), fun h => h⟩, fun _ h => (cw_n (p42_38).1 h c45_39).elim⟩ | exact ⟨⟨fun _ => Or.inl (And.left (by assumption)), fun _ => Or.inl (And.left (by assumption))⟩, fun _ _ => rfl⟩)⟩
          by_cases w117_8 : p1 = 8
          · refine z_tabAt (pc := 117) hZ 8 171 w117_8 dM_bitwise_117 (by decide) (by decide) rfl (by decide) ?_
            refine z_aload_n (pc := 171) hZ 4 dM_bitwise_171 rfl rfl ?_
            refine z_lload (pc := 172) hZ 1 dM_bitwise_172 rfl ?_
            refine z_lload (pc := 174) hZ 0 dM_bitwise_174 rfl ?_
            refine z_lor (pc := 176) hZ dM_bitwise_176 (fun v176_46 ev176_46 => ?_)
            refine z_callV (pc := 177) (As := [.long v176_46]) (rest := []) hZ (cM_setWhole l D cR c1 c2 c3 h0 a1 a2 a3 Y ka na ea kb nb eb k n e bits scale K N E v176_46) zyM_setWhole (z_goodV ml_M_134 im_M_setWhole se_M_setWhole in_M co_M_setWhole) 0 rfl rfl rfl rfl (by decide) rfl rfl (Nat.le_of_ble_eq_true rfl) ⟨Nat.zero_le _, Nat.zero_le _⟩ dM_bitwise_177 (z_kv (fun w1 tys1 hp => ?_))
            obtain ⟨k177_47, n177_47, e177_47, rfl, rfl, p177_47⟩ := hp
            refine z_iconst (pc := 180) hZ 0 dM_bitwise_180 (by decide) ?_
            exact z_reti (pc := 181) hZ dM_bitwise_181 .int rfl rfl ⟨_, rfl, _, _, _, rfl, rfl, (by first | exact ⟨⟨fun q => absurd q (by decide), fun h => h⟩, fun h _ => (cw_n (p13_1).1 h c55_41).elim⟩ | exact ⟨⟨fun q => absurd q (by decide), fun h => h⟩, fun _ h => (cw_n (p42_38).1 h c45_39).elim⟩ | exact ⟨⟨fun _ => Or.inl (And.left (by assumption)), fun _ => Or.inl (And.left (by assumption))⟩, fun _ _ => rfl⟩)⟩
          by_cases w117_9 : p1 = 9
          · refine z_tabAt (pc := 117) hZ 9 182 w117_9 dM_bitwise_117 (by decide) (by decide) rfl (by decide) ?_
            refine z_aload_n (pc := 182) hZ 4 dM_bitwise_182 rfl rfl ?_
            refine z_lload (pc := 183) hZ 1 dM_bitwise_183 rfl ?_
            refine z_lload (pc := 185) hZ 0 dM_bitwise_185 rfl ?_
            refine z_lxor (pc := 187) hZ dM_bitwise_187 (fun v187_48 ev187_48 => ?_)
            refine z_callV (pc := 188) (As := [.long v187_48]) (rest := []) hZ (cM_setWhole l D cR c1 c2 c3 h0 a1 a2 a3 Y ka na ea kb nb eb k n e bits scale K N E v187_48) zyM_setWhole (z_goodV ml_M_134 im_M_setWhole se_M_setWhole in_M co_M_setWhole) 0 rfl rfl rfl rfl (by decide) rfl rfl (Nat.le_of_ble_eq_true rfl) ⟨Nat.zero_le _, Nat.zero_le _⟩ dM_bitwise_188 (z_kv (fun w1 tys1 hp => ?_))
            obtain ⟨k188_49, n188_49, e188_49, rfl, rfl, p188_49⟩ := hp
            refine z_iconst (pc := 191) hZ 0 dM_bitwise_191 (by decide) ?_
            exact z_reti (pc := 192) hZ dM_bitwise_192 .int rfl rfl ⟨_, rfl, _, _, _, rfl, rfl, (by first | exact ⟨⟨fun q => absurd q (by decide), fun h => h⟩, fun h _ => (cw_n (p13_1).1 h c55_41).elim⟩ | exact ⟨⟨fun q => absurd q (by decide), fun h => h⟩, fun _ h => (cw_n (p42_38).1 h c45_39).elim⟩ | exact ⟨⟨fun _ => Or.inl (And.left (by assumption)), fun _ => Or.inl (And.left (by assumption))⟩, fun _ _ => rfl⟩)⟩
          by_cases w117_10 : p1 = 10
          · refine z_tabAt (pc := 117) hZ 10 193 w117_10 dM_bitwise_117 (by decide) (by decide) rfl (by decide) ?_
            refine z_aload_n (pc := 193) hZ 4 dM_bitwise_193 rfl rfl ?_
            refine z_lload (pc := 194) hZ 1 dM_bitwise_194 rfl ?_
            refine z_lload (pc := 196) hZ 0 dM_bitwise_196 rfl ?_
            refine z_callS (pc := 198) (As := [.long r77_42, .long r111_43]) (rest := [.ref h0]) hZ (cM_shifted l D (TY cR c1 c2 c3) (MW h0 a1 a2 a3 c1 c2 c3 (ka, na, ea, kb, nb, eb, k, n, e, bits, scale, K, N, E) ++ Y) r77_42 r111_43) zyM_shifted (z_goodS ml_M_138 st_M_shifted in_M co_M_shifted) rfl rfl (by decide) rfl rfl (Nat.le_of_ble_eq_true rfl) ⟨Nat.zero_le _, Nat.zero_le _⟩ dM_bitwise_198 (z_kl (fun r198_50 w1 tys1 hp => ?_))
            obtain ⟨rfl, rfl, p198_50⟩ := hp
            refine z_callV (pc := 201) (As := [.long r198_50]) (rest := []) hZ (cM_setWhole l D cR c1 c2 c3 h0 a1 a2 a3 Y ka na ea kb nb eb k n e bits scale K N E r198_50) zyM_setWhole (z_goodV ml_M_134 im_M_setWhole se_M_setWhole in_M co_M_setWhole) 0 rfl rfl rfl rfl (by decide) rfl rfl (Nat.le_of_ble_eq_true rfl) ⟨Nat.zero_le _, Nat.zero_le _⟩ dM_bitwise_201 (z_kv (fun w1 tys1 hp => ?_))
            obtain ⟨k201_51, n201_51, e201_51, rfl, rfl, p201_51⟩ := hp
            refine z_iconst (pc := 204) hZ 0 dM_bitwise_204 (by decide) ?_
            exact z_reti (pc := 205) hZ dM_bitwise_205 .int rfl rfl ⟨_, rfl, _, _, _, rfl, rfl, (by first | exact ⟨⟨fun q => absurd q (by decide), fun h => h⟩, fun h _ => (cw_n (p13_1).1 h c55_41).elim⟩ | exact ⟨⟨fun q => absurd q (by decide), fun h => h⟩, fun _ h => (cw_n (p42_38).1 h c45_39).elim⟩ | exact ⟨⟨fun _ => Or.inl (And.left (by assumption)), fun _ => Or.inl (And.left (by assumption))⟩, fun _ _ => rfl⟩)⟩
          by_cases w117_11 : p1 = 11
          · refine z_tabAt (pc := 117) hZ 11 206 w117_11 dM_bitwise_117 (by decide) (by decide) rfl (by decide) ?_
            refine z_aload_n (pc := 206) hZ 4 dM_bitwise_206 rfl rfl ?_
            refine z_lload (pc := 207) hZ 0 dM_bitwise_207 rfl ?_
            refine z_ldc2 (pc := 209) hZ (-9223372036854775808) (zb kc_M_41) dM_bitwise_209 ?_
            refine z_lif_ne (pc := 212) hZ 220 dM_bitwise_212 dM_bitwise_213 (by decide) (fun c213_52 => ?_) (fun c213_52 => ?_)
            · refine z_lload (pc := 220) hZ 1 dM_bitwise_220 rfl ?_
              refine z_lload (pc := 222) hZ 0 dM_bitwise_222 rfl ?_
              refine z_lneg (pc := 224) hZ dM_bitwise_224 (fun v224_53 ev224_53 => ?_)
              refine z_callS (pc := 225) (As := [.long r77_42, .long v224_53]) (rest := [.ref h0]) hZ (cM_shifted l D (TY cR c1 c2 c3) (MW h0 a1 a2 a3 c1 c2 c3 (ka, na, ea, kb, nb, eb, k, n, e, bits, scale, K, N, E) ++ Y) r77_42 v224_53) zyM_shifted (z_goodS ml_M_138 st_M_shifted in_M co_M_shifted) rfl rfl (by decide) rfl rfl (Nat.le_of_ble_eq_true rfl) ⟨Nat.zero_le _, Nat.zero_le _⟩ dM_bitwise_225 (z_kl (fun r225_54 w1 tys1 hp => ?_))
              obtain ⟨rfl, rfl, p225_54⟩ := hp
              refine z_callV (pc := 228) (As := [.long r225_54]) (rest := []) hZ (cM_setWhole l D cR c1 c2 c3 h0 a1 a2 a3 Y ka na ea kb nb eb k n e bits scale K N E r225_54) zyM_setWhole (z_goodV ml_M_134 im_M_setWhole se_M_setWhole in_M co_M_setWhole) 0 rfl rfl rfl rfl (by decide) rfl rfl (Nat.le_of_ble_eq_true rfl) ⟨Nat.zero_le _, Nat.zero_le _⟩ dM_bitwise_228 (z_kv (fun w1 tys1 hp => ?_))
              obtain ⟨k228_55, n228_55, e228_55, rfl, rfl, p228_55⟩ := hp
              refine z_iconst (pc := 231) hZ 0 dM_bitwise_231 (by decide) ?_
              exact z_reti (pc := 232) hZ dM_bitwise_232 .int rfl rfl ⟨_, rfl, _, _, _, rfl, rfl, (by first | exact ⟨⟨fun q => absurd q (by decide), fun h => h⟩, fun h _ => (cw_n (p13_1).1 h c55_41).elim⟩ | exact ⟨⟨fun q => absurd q (by decide), fun h => h⟩, fun _ h => (cw_n (p42_38).1 h c45_39).elim⟩ | exact ⟨⟨fun _ => Or.inl (And.left (by assumption)), fun _ => Or.inl (And.left (by assumption))⟩, fun _ _ => rfl⟩)⟩
            · refine z_lconst (pc := 216) hZ 0 dM_bitwise_216 (by decide) ?_
              refine z_goto (pc := 217) hZ 228 dM_bitwise_217 (by decide) ?_
              refine z_callV (pc := 228) (As := [.long 0]) (rest := []) hZ (cM_setWhole l D cR c1 c2 c3 h0 a1 a2 a3 Y ka na ea kb nb eb k n e bits scale K N E 0) zyM_setWhole (z_goodV ml_M_134 im_M_setWhole se_M_setWhole in_M co_M_setWhole) 0 rfl rfl rfl rfl (by decide) rfl rfl (Nat.le_of_ble_eq_true rfl) ⟨Nat.zero_le _, Nat.zero_le _⟩ dM_bitwise_228 (z_kv (fun w1 tys1 hp => ?_))
              obtain ⟨k228_56, n228_56, e228_56, rfl, rfl, p228_56⟩ := hp
              refine z_iconst (pc := 231) hZ 0 dM_bitwise_231 (by decide) ?_
              exact z_reti (pc := 232) hZ dM_bitwise_232 .int rfl rfl ⟨_, rfl, _, _, _, rfl, rfl, (by first | exact ⟨⟨fun q => absurd q (by decide), fun h => h⟩, fun h _ => (cw_n (p13_1).1 h c55_41).elim⟩ | exact ⟨⟨fun q => absurd q (by decide), fun h => h⟩, fun _ h => (cw_n (p42_38).1 h c45_39).elim⟩ | exact ⟨⟨fun _ => Or.inl (And.left (by assumption)), fun _ => Or.inl (And.left (by assumption))⟩, fun _ _ => rfl⟩)⟩
          by_cases w117_12 : p1 = 12
          · refine z_tabAt (pc := 117) hZ 12 245 w117_12 dM_bitwise_117 (by decide) (by decide) rfl (by decide) ?_
            refine z_aload_n (pc := 245) hZ 4 dM_bitwise_245 rfl rfl ?_
            refine z_lload (pc := 246) hZ 1 dM_bitwise_246 rfl ?_
            refine z_callV (pc := 248) (As := [.long r77_42]) (rest := []) hZ (cM_setWhole l D cR c1 c2 c3 h0 a1 a2 a3 Y ka na ea kb nb eb k n e bits scale K N E r77_42) zyM_setWhole (z_goodV ml_M_134 im_M_setWhole se_M_setWhole in_M co_M_setWhole) 0 rfl rfl rfl rfl (by decide) rfl rfl (Nat.le_of_ble_eq_true rfl) ⟨Nat.zero_le _, Nat.zero_le _⟩ dM_bitwise_248 (z_kv (fun w1 tys1 hp => ?_))
            obtain ⟨k248_57, n248_57, e248_57, rfl, rfl, p248_57⟩ := hp
            refine z_iconst (pc := 251) hZ 0 dM_bitwise_251 (by decide) ?_
            exact z_reti (pc := 252) hZ dM_bitwise_252 .int rfl rfl ⟨_, rfl, _, _, _, rfl, rfl, (by first | exact ⟨⟨fun q => absurd q (by decide), fun h => h⟩, fun h _ => (cw_n (p13_1).1 h c55_41).elim⟩ | exact ⟨⟨fun q => absurd q (by decide), fun h => h⟩, fun _ h => (cw_n (p42_38).1 h c45_39).elim⟩ | exact ⟨⟨fun _ => Or.inl (And.left (by assumption)), fun _ => Or.inl (And.left (by assumption))⟩, fun _ _ => rfl⟩)⟩
          by_cases w117_13 : p1 = 13
          · refine z_tabAt (pc := 117) hZ 13 233 w117_13 dM_bitwise_117 (by decide) (by decide) rfl (by decide) ?_
            refine z_aload_n (pc := 233) hZ 4 dM_bitwise_233 rfl rfl ?_
            refine z_lload (pc := 234) hZ 1 dM_bitwise_234 rfl ?_
            refine z_ldc2 (pc := 236) hZ (-1) (zb kc_M_112) dM_bitwise_236 ?_
            refine z_lxor (pc := 239) hZ dM_bitwise_239 (fun v239_58 ev239_58 => ?_)
            refine z_callV (pc := 240) (As := [.long v239_58]) (rest := []) hZ (cM_setWhole l D cR c1 c2 c3 h0 a1 a2 a3 Y ka na ea kb nb eb k n e bits scale K N E v239_58) zyM_setWhole (z_goodV ml_M_134 im_M_setWhole se_M_setWhole in_M co_M_setWhole) 0 rfl rfl rfl rfl (by decide) rfl rfl (Nat.le_of_ble_eq_true rfl) ⟨Nat.zero_le _, Nat.zero_le _⟩ dM_bitwise_240 (z_kv (fun w1 tys1 hp => ?_))
            obtain ⟨k240_59, n240_59, e240_59, rfl, rfl, p240_59⟩ := hp
            refine z_iconst (pc := 243) hZ 0 dM_bitwise_243 (by decide) ?_
            exact z_reti (pc := 244) hZ dM_bitwise_244 .int rfl rfl ⟨_, rfl, _, _, _, rfl, rfl, (by first | exact ⟨⟨fun q => absurd q (by decide), fun h => h⟩, fun h _ => (cw_n (p13_1).1 h c55_41).elim⟩ | exact ⟨⟨fun q => absurd q (by decide), fun h => h⟩, fun _ h => (cw_n (p42_38).1 h c45_39).elim⟩ | exact ⟨⟨fun _ => Or.inl (And.left (by assumption)), fun _ => Or.inl (And.left (by assumption))⟩, fun _ _ => rfl⟩)⟩
          refine z_tabOut (pc := 117) hZ 245 dM_bitwise_117 (by have n7 := lv_neT w117_7 (a := 7) (by decide); have n8 := lv_neT w117_8 (a := 8) (by decide); have n9 := lv_neT w117_9 (a := 9) (by decide); have n10 := lv_neT w117_10 (a := 10) (by decide); have n11 := lv_neT w117_11 (a := 11) (by decide); have n12 := lv_neT w117_12 (a := 12) (by decide); have n13 := lv_neT w117_13 (a := 13) (by decide); omega) (by decide) ?_
          refine z_aload_n (pc := 245) hZ 4 dM_bitwise_245 rfl rfl ?_
          refine z_lload (pc := 246) hZ 1 dM_bitwise_246 rfl ?_
          refine z_callV (pc := 248) (As := [.long r77_42]) (rest := []) hZ (cM_setWhole l D cR c1 c2 c3 h0 a1 a2 a3 Y ka na ea kb nb eb k n e bits scale K N E r77_42) zyM_setWhole (z_goodV ml_M_134 im_M_setWhole se_M_setWhole in_M co_M_setWhole) 0 rfl rfl rfl rfl (by decide) rfl rfl (Nat.le_of_ble_eq_true rfl) ⟨Nat.zero_le _, Nat.zero_le _⟩ dM_bitwise_248 (z_kv (fun w1 tys1 hp => ?_))
          obtain ⟨k248_60, n248_60, e248_60, rfl, rfl, p248_60⟩ := hp
          refine z_iconst (pc := 251) hZ 0 dM_bitwise_251 (by decide) ?_
          exact z_reti (pc := 252) hZ dM_bitwise_252 .int rfl rfl ⟨_, rfl, _, _, _, rfl, rfl, (by first | exact ⟨⟨fun q => absurd q (by decide), fun h => h⟩, fun h _ => (cw_n (p13_1).1 h c55_41).elim⟩ | exact ⟨⟨fun q => absurd q (by decide), fun h => h⟩, fun _ h => (cw_n (p42_38).1 h c45_39).elim⟩ | exact ⟨⟨fun _ => Or.inl (And.left (by assumption)), fun _ => Or.inl (And.left (by assumption))⟩, fun _ _ => rfl⟩)⟩
set_option maxHeartbeats 4000000 in
set_option maxRecDepth 100000 in
theorem cM_wholes (l : Launch) (D : va_G) (cR c1 c2 c3 : ClassId) (h0 a1 a2 a3 : Nat) (Y : va_W) (ka : Int32) (na : Int64) (ea : Int32) (kb : Int32) (nb : Int64) (eb : Int32) (k : Int32) (n : Int64) (e : Int32) (bits : Int64) (scale : Int32) (K : Nat → Int32) (N : Nat → Int64) (E : Nat → Int32) (p1 : Int32) (h0w : ¬ p1 < 0) (h3w : ¬ p1 = 3) : zM l D vwCl zNF zNM yM_wholes wsM_wholes { frames := 1, cells := 0, slots := 0, locals := 25 } [.ref h0, .int p1] (MW h0 a1 a2 a3 c1 c2 c3 (ka, na, ea, kb, nb, eb, k, n, e, bits, scale, K, N, E) ++ Y) (TY cR c1 c2 c3) (qI (fun r w' tys' => ∃ k' : Int32, ∃ n' : Int64, ∃ e' : Int32, MW h0 a1 a2 a3 c1 c2 c3 (ka, na, ea, kb, nb, eb, k', n', e', bits, scale, K, N, E) ++ Y = w' ∧ (TY cR c1 c2 c3) = tys' ∧ (((r = 0 → VK k' n' e') ∧ (VK k n e → VK k' n' e')) ∧ (¬ 3 < p1 → r = 0) ∧ (3 < p1 → nb = 0 → r = 1)))) := by
  refine z_met (cc := bM_wholes) (maxL := 2) (ret := (some .int)) (isI := false) (own := RM) (by decide +kernel) rfl rfl (fun h => by cases h) (Nat.le_of_ble_eq_true rfl) (fun Z hZ => ?_)
  show Z 0 0 (TY cR c1 c2 c3) 0 [(0, .ref h0), (1, .int p1)] [] (MW h0 a1 a2 a3 c1 c2 c3 (ka, na, ea, kb, nb, eb, k, n, e, bits, scale, K, N, E) ++ Y)
  refine z_iload_n (pc := 0) hZ 1 dM_wholes_0 rfl rfl ?_
  refine z_iconst (pc := 1) hZ 3 dM_wholes_1 (by decide) ?_
  refine z_icmp_le (pc := 2) hZ 16 dM_wholes_2 (by decide) (fun c2_1 => ?_) (fun c2_1 => ?_)
  · refine z_iload_n (pc := 16) hZ 1 dM_wholes_16 rfl rfl ?_
    refine z_if_ne (pc := 17) hZ 36 dM_wholes_17 (by decide) (fun c17_2 => ?_) (fun c17_2 => ?_)
    · refine z_iload_n (pc := 36) hZ 1 dM_wholes_36 rfl rfl ?_
      refine z_iconst (pc := 37) hZ 1 dM_wholes_37 (by decide) ?_
      refine z_icmp_ne (pc := 38) hZ 57 dM_wholes_38 (by decide) (fun c38_3 => ?_) (fun c38_3 => ?_)
      · refine z_iload_n (pc := 57) hZ 1 dM_wholes_57 rfl rfl ?_
        refine z_iconst (pc := 58) hZ 2 dM_wholes_58 (by decide) ?_
        refine z_icmp_ne (pc := 59) hZ 78 dM_wholes_59 (by decide) (fun c59_4 => ?_) (fun c59_4 => ?_)
        · refine z_iload_n (pc := 78) hZ 1 dM_wholes_78 rfl rfl ?_
          refine z_iconst (pc := 79) hZ 4 dM_wholes_79 (by decide) ?_
          refine z_icmp_ne (pc := 80) hZ 101 dM_wholes_80 (by decide) (fun c80_5 => ?_) (fun c80_5 => ?_)
          · refine z_aload_n (pc := 101) hZ 0 dM_wholes_101 rfl rfl ?_
            refine z_aload_n (pc := 102) hZ 0 dM_wholes_102 rfl rfl ?_
            refine z_get (pc := 103) (ci := 2) hZ 0 rfl rfl uc_M 4 (by decide) (zb fl_M_54) rfl dM_wholes_103 ?_
            refine z_aload_n (pc := 106) hZ 0 dM_wholes_106 rfl rfl ?_
            refine z_get (pc := 107) (ci := 2) hZ 0 rfl rfl uc_M 7 (by decide) (zb fl_M_63) rfl dM_wholes_107 ?_
            refine z_aload_n (pc := 110) hZ 0 dM_wholes_110 rfl rfl ?_
            refine z_get (pc := 111) (ci := 2) hZ 0 rfl rfl uc_M 4 (by decide) (zb fl_M_54) rfl dM_wholes_111 ?_
            refine z_aload_n (pc := 114) hZ 0 dM_wholes_114 rfl rfl ?_
            refine z_get (pc := 115) (ci := 2) hZ 0 rfl rfl uc_M 7 (by decide) (zb fl_M_63) rfl dM_wholes_115 ?_
            refine z_callS (pc := 118) (As := [.long na, .long nb]) (rest := [.long nb, .long na, .ref h0]) hZ (cM_floorQuotient l D (TY cR c1 c2 c3) (MW h0 a1 a2 a3 c1 c2 c3 (ka, na, ea, kb, nb, eb, k, n, e, bits, scale, K, N, E) ++ Y) na nb (by first | assumption | (exfalso; exact wh_y (p := p1) (by assumption) (by assumption)) | (exfalso; exact wh_x (p := p1) (by assumption) (by assumption) (by assumption) (by assumption) (by assumption) (by assumption)))) zyM_floorQuotient (z_goodS ml_M_142 st_M_floorQuotient in_M co_M_floorQuotient) rfl rfl (by decide) rfl rfl (Nat.le_of_ble_eq_true rfl) ⟨Nat.zero_le _, Nat.zero_le _⟩ dM_wholes_118 (z_kl (fun r118_6 w1 tys1 hp => ?_))
            obtain ⟨rfl, rfl, p118_6⟩ := hp
            refine z_lmul (pc := 121) hZ dM_wholes_121 (fun v121_7 ev121_7 => ?_)
            refine z_lsub (pc := 122) hZ dM_wholes_122 (fun v122_8 ev122_8 => ?_)
            refine z_callV (pc := 123) (As := [.long v122_8]) (rest := []) hZ (cM_setWhole l D cR c1 c2 c3 h0 a1 a2 a3 Y ka na ea kb nb eb k n e bits scale K N E v122_8) zyM_setWhole (z_goodV ml_M_134 im_M_setWhole se_M_setWhole in_M co_M_setWhole) 0 rfl rfl rfl rfl (by decide) rfl rfl (Nat.le_of_ble_eq_true rfl) ⟨Nat.zero_le _, Nat.zero_le _⟩ dM_wholes_123 (z_kv (fun w1 tys1 hp => ?_))
            obtain ⟨k123_9, n123_9, e123_9, rfl, rfl, p123_9⟩ := hp
            refine z_iconst (pc := 126) hZ 0 dM_wholes_126 (by decide) ?_
            exact z_reti (pc := 127) hZ dM_wholes_127 .int rfl rfl ⟨_, rfl, _, _, _, rfl, rfl, (by first | exact ⟨⟨fun q => absurd q (by decide), fun h => h⟩, fun h => absurd (i_nle c2_1) h, fun _ _ => rfl⟩ | exact ⟨⟨fun _ => Or.inl (And.left (by assumption)), fun _ => Or.inl (And.left (by assumption))⟩, fun _ => rfl, fun h => absurd h (i_le c2_1)⟩ | exact ⟨⟨fun _ => Or.inl (And.left (by assumption)), fun _ => Or.inl (And.left (by assumption))⟩, fun _ => rfl, fun _ h => absurd h nokey_⟩)⟩
          · refine z_aload_n (pc := 83) hZ 0 dM_wholes_83 rfl rfl ?_
            refine z_aload_n (pc := 84) hZ 0 dM_wholes_84 rfl rfl ?_
            refine z_get (pc := 85) (ci := 2) hZ 0 rfl rfl uc_M 4 (by decide) (zb fl_M_54) rfl dM_wholes_85 ?_
            refine z_aload_n (pc := 88) hZ 0 dM_wholes_88 rfl rfl ?_
            refine z_get (pc := 89) (ci := 2) hZ 0 rfl rfl uc_M 7 (by decide) (zb fl_M_63) rfl dM_wholes_89 ?_
            refine z_callS (pc := 92) (As := [.long na, .long nb]) (rest := [.ref h0]) hZ (cM_floorQuotient l D (TY cR c1 c2 c3) (MW h0 a1 a2 a3 c1 c2 c3 (ka, na, ea, kb, nb, eb, k, n, e, bits, scale, K, N, E) ++ Y) na nb (by first | assumption | (exfalso; exact wh_y (p := p1) (by assumption) (by assumption)) | (exfalso; exact wh_x (p := p1) (by assumption) (by assumption) (by assumption) (by assumption) (by assumption) (by assumption)))) zyM_floorQuotient (z_goodS ml_M_142 st_M_floorQuotient in_M co_M_floorQuotient) rfl rfl (by decide) rfl rfl (Nat.le_of_ble_eq_true rfl) ⟨Nat.zero_le _, Nat.zero_le _⟩ dM_wholes_92 (z_kl (fun r92_10 w1 tys1 hp => ?_))
            obtain ⟨rfl, rfl, p92_10⟩ := hp
            refine z_callV (pc := 95) (As := [.long r92_10]) (rest := []) hZ (cM_setWhole l D cR c1 c2 c3 h0 a1 a2 a3 Y ka na ea kb nb eb k n e bits scale K N E r92_10) zyM_setWhole (z_goodV ml_M_134 im_M_setWhole se_M_setWhole in_M co_M_setWhole) 0 rfl rfl rfl rfl (by decide) rfl rfl (Nat.le_of_ble_eq_true rfl) ⟨Nat.zero_le _, Nat.zero_le _⟩ dM_wholes_95 (z_kv (fun w1 tys1 hp => ?_))
            obtain ⟨k95_11, n95_11, e95_11, rfl, rfl, p95_11⟩ := hp
            refine z_goto (pc := 98) hZ 126 dM_wholes_98 (by decide) ?_
            refine z_iconst (pc := 126) hZ 0 dM_wholes_126 (by decide) ?_
            exact z_reti (pc := 127) hZ dM_wholes_127 .int rfl rfl ⟨_, rfl, _, _, _, rfl, rfl, (by first | exact ⟨⟨fun q => absurd q (by decide), fun h => h⟩, fun h => absurd (i_nle c2_1) h, fun _ _ => rfl⟩ | exact ⟨⟨fun _ => Or.inl (And.left (by assumption)), fun _ => Or.inl (And.left (by assumption))⟩, fun _ => rfl, fun h => absurd h (i_le c2_1)⟩ | exact ⟨⟨fun _ => Or.inl (And.left (by assumption)), fun _ => Or.inl (And.left (by assumption))⟩, fun _ => rfl, fun _ h => absurd h nokey_⟩)⟩
        · refine z_aload_n (pc := 62) hZ 0 dM_wholes_62 rfl rfl ?_
          refine z_aload_n (pc := 63) hZ 0 dM_wholes_63 rfl rfl ?_
          refine z_get (pc := 64) (ci := 2) hZ 0 rfl rfl uc_M 4 (by decide) (zb fl_M_54) rfl dM_wholes_64 ?_
          refine z_aload_n (pc := 67) hZ 0 dM_wholes_67 rfl rfl ?_
          refine z_get (pc := 68) (ci := 2) hZ 0 rfl rfl uc_M 7 (by decide) (zb fl_M_63) rfl dM_wholes_68 ?_
          refine z_lmul (pc := 71) hZ dM_wholes_71 (fun v71_12 ev71_12 => ?_)
          refine z_callV (pc := 72) (As := [.long v71_12]) (rest := []) hZ (cM_setWhole l D cR c1 c2 c3 h0 a1 a2 a3 Y ka na ea kb nb eb k n e bits scale K N E v71_12) zyM_setWhole (z_goodV ml_M_134 im_M_setWhole se_M_setWhole in_M co_M_setWhole) 0 rfl rfl rfl rfl (by decide) rfl rfl (Nat.le_of_ble_eq_true rfl) ⟨Nat.zero_le _, Nat.zero_le _⟩ dM_wholes_72 (z_kv (fun w1 tys1 hp => ?_))
          obtain ⟨k72_13, n72_13, e72_13, rfl, rfl, p72_13⟩ := hp
          refine z_goto (pc := 75) hZ 126 dM_wholes_75 (by decide) ?_
          refine z_iconst (pc := 126) hZ 0 dM_wholes_126 (by decide) ?_
          exact z_reti (pc := 127) hZ dM_wholes_127 .int rfl rfl ⟨_, rfl, _, _, _, rfl, rfl, (by first | exact ⟨⟨fun q => absurd q (by decide), fun h => h⟩, fun h => absurd (i_nle c2_1) h, fun _ _ => rfl⟩ | exact ⟨⟨fun _ => Or.inl (And.left (by assumption)), fun _ => Or.inl (And.left (by assumption))⟩, fun _ => rfl, fun h => absurd h (i_le c2_1)⟩ | exact ⟨⟨fun _ => Or.inl (And.left (by assumption)), fun _ => Or.inl (And.left (by assumption))⟩, fun _ => rfl, fun _ h => absurd h nokey_⟩)⟩
      · refine z_aload_n (pc := 41) hZ 0 dM_wholes_41 rfl rfl ?_
        refine z_aload_n (pc := 42) hZ 0 dM_wholes_42 rfl rfl ?_
        refine z_get (pc := 43) (ci := 2) hZ 0 rfl rfl uc_M 4 (by decide) (zb fl_M_54) rfl dM_wholes_43 ?_
        refine z_aload_n (pc := 46) hZ 0 dM_wholes_46 rfl rfl ?_
        refine z_get (pc := 47) (ci := 2) hZ 0 rfl rfl uc_M 7 (by decide) (zb fl_M_63) rfl dM_wholes_47 ?_
        refine z_lsub (pc := 50) hZ dM_wholes_50 (fun v50_14 ev50_14 => ?_)
        refine z_callV (pc := 51) (As := [.long v50_14]) (rest := []) hZ (cM_setWhole l D cR c1 c2 c3 h0 a1 a2 a3 Y ka na ea kb nb eb k n e bits scale K N E v50_14) zyM_setWhole (z_goodV ml_M_134 im_M_setWhole se_M_setWhole in_M co_M_setWhole) 0 rfl rfl rfl rfl (by decide) rfl rfl (Nat.le_of_ble_eq_true rfl) ⟨Nat.zero_le _, Nat.zero_le _⟩ dM_wholes_51 (z_kv (fun w1 tys1 hp => ?_))
        obtain ⟨k51_15, n51_15, e51_15, rfl, rfl, p51_15⟩ := hp
        refine z_goto (pc := 54) hZ 126 dM_wholes_54 (by decide) ?_
        refine z_iconst (pc := 126) hZ 0 dM_wholes_126 (by decide) ?_
        exact z_reti (pc := 127) hZ dM_wholes_127 .int rfl rfl ⟨_, rfl, _, _, _, rfl, rfl, (by first | exact ⟨⟨fun q => absurd q (by decide), fun h => h⟩, fun h => absurd (i_nle c2_1) h, fun _ _ => rfl⟩ | exact ⟨⟨fun _ => Or.inl (And.left (by assumption)), fun _ => Or.inl (And.left (by assumption))⟩, fun _ => rfl, fun h => absurd h (i_le c2_1)⟩ | exact ⟨⟨fun _ => Or.inl (And.left (by assumption)), fun _ => Or.inl (And.left (by assumption))⟩, fun _ => rfl, fun _ h => absurd h nokey_⟩)⟩
    · refine z_aload_n (pc := 20) hZ 0 dM_wholes_20 rfl rfl ?_
      refine z_aload_n (pc := 21) hZ 0 dM_wholes_21 rfl rfl ?_
      refine z_get (pc := 22) (ci := 2) hZ 0 rfl rfl uc_M 4 (by decide) (zb fl_M_54) rfl dM_wholes_22 ?_
      refine z_aload_n (pc := 25) hZ 0 dM_wholes_25 rfl rfl ?_
      refine z_get (pc := 26) (ci := 2) hZ 0 rfl rfl uc_M 7 (by decide) (zb fl_M_63) rfl dM_wholes_26 ?_
      refine z_ladd (pc := 29) hZ dM_wholes_29 (fun v29_16 ev29_16 => ?_)
      refine z_callV (pc := 30) (As := [.long v29_16]) (rest := []) hZ (cM_setWhole l D cR c1 c2 c3 h0 a1 a2 a3 Y ka na ea kb nb eb k n e bits scale K N E v29_16) zyM_setWhole (z_goodV ml_M_134 im_M_setWhole se_M_setWhole in_M co_M_setWhole) 0 rfl rfl rfl rfl (by decide) rfl rfl (Nat.le_of_ble_eq_true rfl) ⟨Nat.zero_le _, Nat.zero_le _⟩ dM_wholes_30 (z_kv (fun w1 tys1 hp => ?_))
      obtain ⟨k30_17, n30_17, e30_17, rfl, rfl, p30_17⟩ := hp
      refine z_goto (pc := 33) hZ 126 dM_wholes_33 (by decide) ?_
      refine z_iconst (pc := 126) hZ 0 dM_wholes_126 (by decide) ?_
      exact z_reti (pc := 127) hZ dM_wholes_127 .int rfl rfl ⟨_, rfl, _, _, _, rfl, rfl, (by first | exact ⟨⟨fun q => absurd q (by decide), fun h => h⟩, fun h => absurd (i_nle c2_1) h, fun _ _ => rfl⟩ | exact ⟨⟨fun _ => Or.inl (And.left (by assumption)), fun _ => Or.inl (And.left (by assumption))⟩, fun _ => rfl, fun h => absurd h (i_le c2_1)⟩ | exact ⟨⟨fun _ => Or.inl (And.left (by assumption)), fun _ => Or.inl (And.left (by assumption))⟩, fun _ => rfl, fun _ h => absurd h nokey_⟩)⟩
  · refine z_aload_n (pc := 5) hZ 0 dM_wholes_5 rfl rfl ?_
    refine z_get (pc := 6) (ci := 2) hZ 0 rfl rfl uc_M 7 (by decide) (zb fl_M_63) rfl dM_wholes_6 ?_
    refine z_lconst (pc := 9) hZ 0 dM_wholes_9 (by decide) ?_
    refine z_lif_ne (pc := 10) hZ 16 dM_wholes_10 dM_wholes_11 (by decide) (fun c11_18 => ?_) (fun c11_18 => ?_)
    · refine z_iload_n (pc := 16) hZ 1 dM_wholes_16 rfl rfl ?_
      refine z_if_ne (pc := 17) hZ 36 dM_wholes_17 (by decide) (fun c17_19 => ?_) (fun c17_19 => ?_)
      · refine z_iload_n (pc := 36) hZ 1 dM_wholes_36 rfl rfl ?_
        refine z_iconst (pc := 37) hZ 1 dM_wholes_37 (by decide) ?_
        refine z_icmp_ne (pc := 38) hZ 57 dM_wholes_38 (by decide) (fun c38_20 => ?_) (fun c38_20 => ?_)
        · refine z_iload_n (pc := 57) hZ 1 dM_wholes_57 rfl rfl ?_
          refine z_iconst (pc := 58) hZ 2 dM_wholes_58 (by decide) ?_
          refine z_icmp_ne (pc := 59) hZ 78 dM_wholes_59 (by decide) (fun c59_21 => ?_) (fun c59_21 => ?_)
          · refine z_iload_n (pc := 78) hZ 1 dM_wholes_78 rfl rfl ?_
            refine z_iconst (pc := 79) hZ 4 dM_wholes_79 (by decide) ?_
            refine z_icmp_ne (pc := 80) hZ 101 dM_wholes_80 (by decide) (fun c80_22 => ?_) (fun c80_22 => ?_)
            · refine z_aload_n (pc := 101) hZ 0 dM_wholes_101 rfl rfl ?_
              refine z_aload_n (pc := 102) hZ 0 dM_wholes_102 rfl rfl ?_
              refine z_get (pc := 103) (ci := 2) hZ 0 rfl rfl uc_M 4 (by decide) (zb fl_M_54) rfl dM_wholes_103 ?_
              refine z_aload_n (pc := 106) hZ 0 dM_wholes_106 rfl rfl ?_
              refine z_get (pc := 107) (ci := 2) hZ 0 rfl rfl uc_M 7 (by decide) (zb fl_M_63) rfl dM_wholes_107 ?_
              refine z_aload_n (pc := 110) hZ 0 dM_wholes_110 rfl rfl ?_
              refine z_get (pc := 111) (ci := 2) hZ 0 rfl rfl uc_M 4 (by decide) (zb fl_M_54) rfl dM_wholes_111 ?_
              refine z_aload_n (pc := 114) hZ 0 dM_wholes_114 rfl rfl ?_
              refine z_get (pc := 115) (ci := 2) hZ 0 rfl rfl uc_M 7 (by decide) (zb fl_M_63) rfl dM_wholes_115 ?_
              refine z_callS (pc := 118) (As := [.long na, .long nb]) (rest := [.long nb, .long na, .ref h0]) hZ (cM_floorQuotient l D (TY cR c1 c2 c3) (MW h0 a1 a2 a3 c1 c2 c3 (ka, na, ea, kb, nb, eb, k, n, e, bits, scale, K, N, E) ++ Y) na nb (by first | assumption | (exfalso; exact wh_y (p := p1) (by assumption) (by assumption)) | (exfalso; exact wh_x (p := p1) (by assumption) (by assumption) (by assumption) (by assumption) (by assumption) (by assumption)))) zyM_floorQuotient (z_goodS ml_M_142 st_M_floorQuotient in_M co_M_floorQuotient) rfl rfl (by decide) rfl rfl (Nat.le_of_ble_eq_true rfl) ⟨Nat.zero_le _, Nat.zero_le _⟩ dM_wholes_118 (z_kl (fun r118_23 w1 tys1 hp => ?_))
              obtain ⟨rfl, rfl, p118_23⟩ := hp
              refine z_lmul (pc := 121) hZ dM_wholes_121 (fun v121_24 ev121_24 => ?_)
              refine z_lsub (pc := 122) hZ dM_wholes_122 (fun v122_25 ev122_25 => ?_)
              refine z_callV (pc := 123) (As := [.long v122_25]) (rest := []) hZ (cM_setWhole l D cR c1 c2 c3 h0 a1 a2 a3 Y ka na ea kb nb eb k n e bits scale K N E v122_25) zyM_setWhole (z_goodV ml_M_134 im_M_setWhole se_M_setWhole in_M co_M_setWhole) 0 rfl rfl rfl rfl (by decide) rfl rfl (Nat.le_of_ble_eq_true rfl) ⟨Nat.zero_le _, Nat.zero_le _⟩ dM_wholes_123 (z_kv (fun w1 tys1 hp => ?_))
              obtain ⟨k123_26, n123_26, e123_26, rfl, rfl, p123_26⟩ := hp
              refine z_iconst (pc := 126) hZ 0 dM_wholes_126 (by decide) ?_
              exact z_reti (pc := 127) hZ dM_wholes_127 .int rfl rfl ⟨_, rfl, _, _, _, rfl, rfl, (by first | exact ⟨⟨fun q => absurd q (by decide), fun h => h⟩, fun h => absurd (i_nle c2_1) h, fun _ _ => rfl⟩ | exact ⟨⟨fun _ => Or.inl (And.left (by assumption)), fun _ => Or.inl (And.left (by assumption))⟩, fun _ => rfl, fun h => absurd h (i_le c2_1)⟩ | exact ⟨⟨fun _ => Or.inl (And.left (by assumption)), fun _ => Or.inl (And.left (by assumption))⟩, fun _ => rfl, fun _ h => absurd h c11_18⟩)⟩
            · refine z_aload_n (pc := 83) hZ 0 dM_wholes_83 rfl rfl ?_
              refine z_aload_n (pc := 84) hZ 0 dM_wholes_84 rfl rfl ?_
              refine z_get (pc := 85) (ci := 2) hZ 0 rfl rfl uc_M 4 (by decide) (zb fl_M_54) rfl dM_wholes_85 ?_
              refine z_aload_n (pc := 88) hZ 0 dM_wholes_88 rfl rfl ?_
              refine z_get (pc := 89) (ci := 2) hZ 0 rfl rfl uc_M 7 (by decide) (zb fl_M_63) rfl dM_wholes_89 ?_
              refine z_callS (pc := 92) (As := [.long na, .long nb]) (rest := [.ref h0]) hZ (cM_floorQuotient l D (TY cR c1 c2 c3) (MW h0 a1 a2 a3 c1 c2 c3 (ka, na, ea, kb, nb, eb, k, n, e, bits, scale, K, N, E) ++ Y) na nb (by first | assumption | (exfalso; exact wh_y (p := p1) (by assumption) (by assumption)) | (exfalso; exact wh_x (p := p1) (by assumption) (by assumption) (by assumption) (by assumption) (by assumption) (by assumption)))) zyM_floorQuotient (z_goodS ml_M_142 st_M_floorQuotient in_M co_M_floorQuotient) rfl rfl (by decide) rfl rfl (Nat.le_of_ble_eq_true rfl) ⟨Nat.zero_le _, Nat.zero_le _⟩ dM_wholes_92 (z_kl (fun r92_27 w1 tys1 hp => ?_))
              obtain ⟨rfl, rfl, p92_27⟩ := hp
              refine z_callV (pc := 95) (As := [.long r92_27]) (rest := []) hZ (cM_setWhole l D cR c1 c2 c3 h0 a1 a2 a3 Y ka na ea kb nb eb k n e bits scale K N E r92_27) zyM_setWhole (z_goodV ml_M_134 im_M_setWhole se_M_setWhole in_M co_M_setWhole) 0 rfl rfl rfl rfl (by decide) rfl rfl (Nat.le_of_ble_eq_true rfl) ⟨Nat.zero_le _, Nat.zero_le _⟩ dM_wholes_95 (z_kv (fun w1 tys1 hp => ?_))
              obtain ⟨k95_28, n95_28, e95_28, rfl, rfl, p95_28⟩ := hp
              refine z_goto (pc := 98) hZ 126 dM_wholes_98 (by decide) ?_
              refine z_iconst (pc := 126) hZ 0 dM_wholes_126 (by decide) ?_
              exact z_reti (pc := 127) hZ dM_wholes_127 .int rfl rfl ⟨_, rfl, _, _, _, rfl, rfl, (by first | exact ⟨⟨fun q => absurd q (by decide), fun h => h⟩, fun h => absurd (i_nle c2_1) h, fun _ _ => rfl⟩ | exact ⟨⟨fun _ => Or.inl (And.left (by assumption)), fun _ => Or.inl (And.left (by assumption))⟩, fun _ => rfl, fun h => absurd h (i_le c2_1)⟩ | exact ⟨⟨fun _ => Or.inl (And.left (by assumption)), fun _ => Or.inl (And.left (by assumption))⟩, fun _ => rfl, fun _ h => absurd h c11_18⟩)⟩
          · refine z_aload_n (pc := 62) hZ 0 dM_wholes_62 rfl rfl ?_
            refine z_aload_n (pc := 63) hZ 0 dM_wholes_63 rfl rfl ?_
            refine z_get (pc := 64) (ci := 2) hZ 0 rfl rfl uc_M 4 (by decide) (zb fl_M_54) rfl dM_wholes_64 ?_
            refine z_aload_n (pc := 67) hZ 0 dM_wholes_67 rfl rfl ?_
            refine z_get (pc := 68) (ci := 2) hZ 0 rfl rfl uc_M 7 (by decide) (zb fl_M_63) rfl dM_wholes_68 ?_
            refine z_lmul (pc := 71) hZ dM_wholes_71 (fun v71_29 ev71_29 => ?_)
            refine z_callV (pc := 72) (As := [.long v71_29]) (rest := []) hZ (cM_setWhole l D cR c1 c2 c3 h0 a1 a2 a3 Y ka na ea kb nb eb k n e bits scale K N E v71_29) zyM_setWhole (z_goodV ml_M_134 im_M_setWhole se_M_setWhole in_M co_M_setWhole) 0 rfl rfl rfl rfl (by decide) rfl rfl (Nat.le_of_ble_eq_true rfl) ⟨Nat.zero_le _, Nat.zero_le _⟩ dM_wholes_72 (z_kv (fun w1 tys1 hp => ?_))
            obtain ⟨k72_30, n72_30, e72_30, rfl, rfl, p72_30⟩ := hp
            refine z_goto (pc := 75) hZ 126 dM_wholes_75 (by decide) ?_
            refine z_iconst (pc := 126) hZ 0 dM_wholes_126 (by decide) ?_
            exact z_reti (pc := 127) hZ dM_wholes_127 .int rfl rfl ⟨_, rfl, _, _, _, rfl, rfl, (by first | exact ⟨⟨fun q => absurd q (by decide), fun h => h⟩, fun h => absurd (i_nle c2_1) h, fun _ _ => rfl⟩ | exact ⟨⟨fun _ => Or.inl (And.left (by assumption)), fun _ => Or.inl (And.left (by assumption))⟩, fun _ => rfl, fun h => absurd h (i_le c2_1)⟩ | exact ⟨⟨fun _ => Or.inl (And.left (by assumption)), fun _ => Or.inl (And.left (by assumption))⟩, fun _ => rfl, fun _ h => absurd h c11_18⟩)⟩
        · refine z_aload_n (pc := 41) hZ 0 dM_wholes_41 rfl rfl ?_
          refine z_aload_n (pc := 42) hZ 0 dM_wholes_42 rfl rfl ?_
          refine z_get (pc := 43) (ci := 2) hZ 0 rfl rfl uc_M 4 (by decide) (zb fl_M_54) rfl dM_wholes_43 ?_
          refine z_aload_n (pc := 46) hZ 0 dM_wholes_46 rfl rfl ?_
          refine z_get (pc := 47) (ci := 2) hZ 0 rfl rfl uc_M 7 (by decide) (zb fl_M_63) rfl dM_wholes_47 ?_
          refine z_lsub (pc := 50) hZ dM_wholes_50 (fun v50_31 ev50_31 => ?_)
          refine z_callV (pc := 51) (As := [.long v50_31]) (rest := []) hZ (cM_setWhole l D cR c1 c2 c3 h0 a1 a2 a3 Y ka na ea kb nb eb k n e bits scale K N E v50_31) zyM_setWhole (z_goodV ml_M_134 im_M_setWhole se_M_setWhole in_M co_M_setWhole) 0 rfl rfl rfl rfl (by decide) rfl rfl (Nat.le_of_ble_eq_true rfl) ⟨Nat.zero_le _, Nat.zero_le _⟩ dM_wholes_51 (z_kv (fun w1 tys1 hp => ?_))
          obtain ⟨k51_32, n51_32, e51_32, rfl, rfl, p51_32⟩ := hp
          refine z_goto (pc := 54) hZ 126 dM_wholes_54 (by decide) ?_
          refine z_iconst (pc := 126) hZ 0 dM_wholes_126 (by decide) ?_
          exact z_reti (pc := 127) hZ dM_wholes_127 .int rfl rfl ⟨_, rfl, _, _, _, rfl, rfl, (by first | exact ⟨⟨fun q => absurd q (by decide), fun h => h⟩, fun h => absurd (i_nle c2_1) h, fun _ _ => rfl⟩ | exact ⟨⟨fun _ => Or.inl (And.left (by assumption)), fun _ => Or.inl (And.left (by assumption))⟩, fun _ => rfl, fun h => absurd h (i_le c2_1)⟩ | exact ⟨⟨fun _ => Or.inl (And.left (by assumption)), fun _ => Or.inl (And.left (by assumption))⟩, fun _ => rfl, fun _ h => absurd h c11_18⟩)⟩
      · refine z_aload_n (pc := 20) hZ 0 dM_wholes_20 rfl rfl ?_
        refine z_aload_n (pc := 21) hZ 0 dM_wholes_21 rfl rfl ?_
        refine z_get (pc := 22) (ci := 2) hZ 0 rfl rfl uc_M 4 (by decide) (zb fl_M_54) rfl dM_wholes_22 ?_
        refine z_aload_n (pc := 25) hZ 0 dM_wholes_25 rfl rfl ?_
        refine z_get (pc := 26) (ci := 2) hZ 0 rfl rfl uc_M 7 (by decide) (zb fl_M_63) rfl dM_wholes_26 ?_
        refine z_ladd (pc := 29) hZ dM_wholes_29 (fun v29_33 ev29_33 => ?_)
        refine z_callV (pc := 30) (As := [.long v29_33]) (rest := []) hZ (cM_setWhole l D cR c1 c2 c3 h0 a1 a2 a3 Y ka na ea kb nb eb k n e bits scale K N E v29_33) zyM_setWhole (z_goodV ml_M_134 im_M_setWhole se_M_setWhole in_M co_M_setWhole) 0 rfl rfl rfl rfl (by decide) rfl rfl (Nat.le_of_ble_eq_true rfl) ⟨Nat.zero_le _, Nat.zero_le _⟩ dM_wholes_30 (z_kv (fun w1 tys1 hp => ?_))
        obtain ⟨k30_34, n30_34, e30_34, rfl, rfl, p30_34⟩ := hp
        refine z_goto (pc := 33) hZ 126 dM_wholes_33 (by decide) ?_
        refine z_iconst (pc := 126) hZ 0 dM_wholes_126 (by decide) ?_
        exact z_reti (pc := 127) hZ dM_wholes_127 .int rfl rfl ⟨_, rfl, _, _, _, rfl, rfl, (by first | exact ⟨⟨fun q => absurd q (by decide), fun h => h⟩, fun h => absurd (i_nle c2_1) h, fun _ _ => rfl⟩ | exact ⟨⟨fun _ => Or.inl (And.left (by assumption)), fun _ => Or.inl (And.left (by assumption))⟩, fun _ => rfl, fun h => absurd h (i_le c2_1)⟩ | exact ⟨⟨fun _ => Or.inl (And.left (by assumption)), fun _ => Or.inl (And.left (by assumption))⟩, fun _ => rfl, fun _ h => absurd h c11_18⟩)⟩
    · refine z_iconst (pc := 14) hZ 1 dM_wholes_14 (by decide) ?_
      exact z_reti (pc := 15) hZ dM_wholes_15 .int rfl rfl ⟨_, rfl, _, _, _, rfl, rfl, (by first | exact ⟨⟨fun q => absurd q (by decide), fun h => h⟩, fun h => absurd (i_nle c2_1) h, fun _ _ => rfl⟩ | exact ⟨⟨fun _ => Or.inl (And.left (by assumption)), fun _ => Or.inl (And.left (by assumption))⟩, fun _ => rfl, fun h => absurd h (i_le c2_1)⟩ | exact ⟨⟨fun _ => Or.inl (And.left (by assumption)), fun _ => Or.inl (And.left (by assumption))⟩, fun _ => rfl, fun _ h => absurd h c11_18⟩)⟩
set_option maxHeartbeats 4000000 in
set_option maxRecDepth 100000 in
theorem cM_isWholeLess (l : Launch) (D : va_G) (cR c1 c2 c3 : ClassId) (h0 a1 a2 a3 : Nat) (Y : va_W) (ka : Int32) (na : Int64) (ea : Int32) (kb : Int32) (nb : Int64) (eb : Int32) (k : Int32) (n : Int64) (e : Int32) (bits : Int64) (scale : Int32) (K : Nat → Int32) (N : Nat → Int64) (E : Nat → Int32) (p1 : Int64) (p2 : Int64) (p3 : Int32) (p4 : Int32) : zM l D vwCl zNF zNM yM_isWholeLess wsM_isWholeLess { frames := 0, cells := 0, slots := 0, locals := 0 } [.ref h0, .long p1, .long p2, .int p3, .int p4] (MW h0 a1 a2 a3 c1 c2 c3 (ka, na, ea, kb, nb, eb, k, n, e, bits, scale, K, N, E) ++ Y) (TY cR c1 c2 c3) (qI (fun r w' tys' => MW h0 a1 a2 a3 c1 c2 c3 (ka, na, ea, kb, nb, eb, k, n, e, bits, scale, K, N, E) ++ Y = w' ∧ (TY cR c1 c2 c3) = tys' ∧ (narrow .boolean (.int r) = .int r))) := by
  refine z_met (cc := bM_isWholeLess) (maxL := 9) (ret := (some .boolean)) (isI := false) (own := RM) (by decide +kernel) rfl rfl (fun h => by cases h) (Nat.le_of_ble_eq_true rfl) (fun Z hZ => ?_)
  show Z 0 0 (TY cR c1 c2 c3) 0 [(0, .ref h0), (1, .long p1), (3, .long p2), (5, .int p3), (6, .int p4)] [] (MW h0 a1 a2 a3 c1 c2 c3 (ka, na, ea, kb, nb, eb, k, n, e, bits, scale, K, N, E) ++ Y)
  refine z_iload (pc := 0) hZ 3 dM_isWholeLess_0 rfl ?_
  refine z_if_lt (pc := 2) hZ 73 dM_isWholeLess_2 (by decide) (fun c2_1 => ?_) (fun c2_1 => ?_)
  · refine z_iload (pc := 73) hZ 3 dM_isWholeLess_73 rfl ?_
    refine z_bipush (pc := 75) hZ (-62) dM_isWholeLess_75 (by decide) ?_
    have J101 : ∀ (s0_101 : Int64), Z 0 0 (TY cR c1 c2 c3) 101 [(1, .long p1)] [.long s0_101] (MW h0 a1 a2 a3 c1 c2 c3 (ka, na, ea, kb, nb, eb, k, n, e, bits, scale, K, N, E) ++ Y) := by
      intro s0_101
      refine z_lstore (pc := 101) hZ [(7, .long s0_101), (1, .long p1)] dM_isWholeLess_101 (by decide) rfl ?_
      refine z_lload_n (pc := 103) hZ 1 dM_isWholeLess_103 rfl rfl ?_
      refine z_lload (pc := 104) hZ 0 dM_isWholeLess_104 rfl ?_
      refine z_lif_gt (pc := 106) hZ 114 dM_isWholeLess_106 dM_isWholeLess_107 (by decide) (fun c107_2 => ?_) (fun c107_2 => ?_)
      · refine z_iconst (pc := 114) hZ 0 dM_isWholeLess_114 (by decide) ?_
        exact z_reti (pc := 115) hZ dM_isWholeLess_115 .boolean rfl rfl ⟨_, rfl, rfl, rfl, (by rfl)⟩
      · refine z_iconst (pc := 110) hZ 1 dM_isWholeLess_110 (by decide) ?_
        refine z_goto (pc := 111) hZ 115 dM_isWholeLess_111 (by decide) ?_
        exact z_reti (pc := 115) hZ dM_isWholeLess_115 .boolean rfl rfl ⟨_, rfl, rfl, rfl, (by rfl)⟩
    refine z_icmp_ge (pc := 77) hZ 96 dM_isWholeLess_77 (by decide) (fun c77_3 => ?_) (fun c77_3 => ?_)
    · refine z_lload_n (pc := 96) hZ 2 dM_isWholeLess_96 rfl rfl ?_
      refine z_iload (pc := 97) hZ 3 dM_isWholeLess_97 rfl ?_
      refine z_ineg (pc := 99) hZ dM_isWholeLess_99 (fun v99_4 ev99_4 => ?_)
      refine z_lshr (pc := 100) hZ dM_isWholeLess_100 (fun v100_5 ev100_5 => ?_)
      exact z_sub (pc := 101) hZ [1] rfl (J101 v100_5)
    · refine z_lload_n (pc := 80) hZ 2 dM_isWholeLess_80 rfl rfl ?_
      refine z_lconst (pc := 81) hZ 0 dM_isWholeLess_81 (by decide) ?_
      refine z_lif_ge (pc := 82) hZ 92 dM_isWholeLess_82 dM_isWholeLess_83 (by decide) (fun c83_6 => ?_) (fun c83_6 => ?_)
      · refine z_lconst (pc := 92) hZ 0 dM_isWholeLess_92 (by decide) ?_
        refine z_goto (pc := 93) hZ 101 dM_isWholeLess_93 (by decide) ?_
        exact z_sub (pc := 101) hZ [1] rfl (J101 0)
      · refine z_ldc2 (pc := 86) hZ (-1) (zb kc_M_112) dM_isWholeLess_86 ?_
        refine z_goto (pc := 89) hZ 101 dM_isWholeLess_89 (by decide) ?_
        exact z_sub (pc := 101) hZ [1] rfl (J101 (-1))
  · refine z_iload (pc := 5) hZ 3 dM_isWholeLess_5 rfl ?_
    refine z_bipush (pc := 7) hZ 63 dM_isWholeLess_7 (by decide) ?_
    have J24 : Z 0 0 (TY cR c1 c2 c3) 24 [(3, .long p2)] [] (MW h0 a1 a2 a3 c1 c2 c3 (ka, na, ea, kb, nb, eb, k, n, e, bits, scale, K, N, E) ++ Y) := by
      refine z_lload_n (pc := 24) hZ 0 dM_isWholeLess_24 rfl rfl ?_
      refine z_lconst (pc := 25) hZ 0 dM_isWholeLess_25 (by decide) ?_
      refine z_lif_le (pc := 26) hZ 34 dM_isWholeLess_26 dM_isWholeLess_27 (by decide) (fun c27_7 => ?_) (fun c27_7 => ?_)
      · refine z_iconst (pc := 34) hZ 0 dM_isWholeLess_34 (by decide) ?_
        exact z_reti (pc := 35) hZ dM_isWholeLess_35 .boolean rfl rfl ⟨_, rfl, rfl, rfl, (by rfl)⟩
      · refine z_iconst (pc := 30) hZ 1 dM_isWholeLess_30 (by decide) ?_
        refine z_goto (pc := 31) hZ 35 dM_isWholeLess_31 (by decide) ?_
        exact z_reti (pc := 35) hZ dM_isWholeLess_35 .boolean rfl rfl ⟨_, rfl, rfl, rfl, (by rfl)⟩
    refine z_icmp_gt (pc := 9) hZ 24 dM_isWholeLess_9 (by decide) (fun c9_8 => ?_) (fun c9_8 => ?_)
    · exact z_sub (pc := 24) hZ [2] rfl (J24 )
    · refine z_lload_n (pc := 12) hZ 2 dM_isWholeLess_12 rfl rfl ?_
      refine z_iload (pc := 13) hZ 3 dM_isWholeLess_13 rfl ?_
      refine z_lshl (pc := 15) hZ dM_isWholeLess_15 (fun v15_9 ev15_9 => ?_)
      refine z_iload (pc := 16) hZ 3 dM_isWholeLess_16 rfl ?_
      refine z_lshr (pc := 18) hZ dM_isWholeLess_18 (fun v18_10 ev18_10 => ?_)
      refine z_lload_n (pc := 19) hZ 2 dM_isWholeLess_19 rfl rfl ?_
      refine z_lif_eq (pc := 20) hZ 36 dM_isWholeLess_20 dM_isWholeLess_21 (by decide) (fun c21_11 => ?_) (fun c21_11 => ?_)
      · refine z_iload (pc := 36) hZ 4 dM_isWholeLess_36 rfl ?_
        refine z_if_eq (pc := 38) hZ 58 dM_isWholeLess_38 (by decide) (fun c38_12 => ?_) (fun c38_12 => ?_)
        · refine z_lload_n (pc := 58) hZ 1 dM_isWholeLess_58 rfl rfl ?_
          refine z_lload_n (pc := 59) hZ 2 dM_isWholeLess_59 rfl rfl ?_
          refine z_iload (pc := 60) hZ 3 dM_isWholeLess_60 rfl ?_
          refine z_lshl (pc := 62) hZ dM_isWholeLess_62 (fun v62_13 ev62_13 => ?_)
          refine z_lif_ge (pc := 63) hZ 71 dM_isWholeLess_63 dM_isWholeLess_64 (by decide) (fun c64_14 => ?_) (fun c64_14 => ?_)
          · refine z_iconst (pc := 71) hZ 0 dM_isWholeLess_71 (by decide) ?_
            exact z_reti (pc := 72) hZ dM_isWholeLess_72 .boolean rfl rfl ⟨_, rfl, rfl, rfl, (by rfl)⟩
          · refine z_iconst (pc := 67) hZ 1 dM_isWholeLess_67 (by decide) ?_
            refine z_goto (pc := 68) hZ 72 dM_isWholeLess_68 (by decide) ?_
            exact z_reti (pc := 72) hZ dM_isWholeLess_72 .boolean rfl rfl ⟨_, rfl, rfl, rfl, (by rfl)⟩
        · refine z_lload_n (pc := 41) hZ 1 dM_isWholeLess_41 rfl rfl ?_
          refine z_lload_n (pc := 42) hZ 2 dM_isWholeLess_42 rfl rfl ?_
          refine z_iload (pc := 43) hZ 3 dM_isWholeLess_43 rfl ?_
          refine z_lshl (pc := 45) hZ dM_isWholeLess_45 (fun v45_15 ev45_15 => ?_)
          refine z_lif_gt (pc := 46) hZ 54 dM_isWholeLess_46 dM_isWholeLess_47 (by decide) (fun c47_16 => ?_) (fun c47_16 => ?_)
          · refine z_iconst (pc := 54) hZ 0 dM_isWholeLess_54 (by decide) ?_
            refine z_goto (pc := 55) hZ 72 dM_isWholeLess_55 (by decide) ?_
            exact z_reti (pc := 72) hZ dM_isWholeLess_72 .boolean rfl rfl ⟨_, rfl, rfl, rfl, (by rfl)⟩
          · refine z_iconst (pc := 50) hZ 1 dM_isWholeLess_50 (by decide) ?_
            refine z_goto (pc := 51) hZ 72 dM_isWholeLess_51 (by decide) ?_
            exact z_reti (pc := 72) hZ dM_isWholeLess_72 .boolean rfl rfl ⟨_, rfl, rfl, rfl, (by rfl)⟩
      · exact z_sub (pc := 24) hZ [2] rfl (J24 )
set_option maxHeartbeats 4000000 in
set_option maxRecDepth 100000 in
theorem cM_isEqual (l : Launch) (D : va_G) (cR c1 c2 c3 : ClassId) (h0 a1 a2 a3 : Nat) (Y : va_W) (ka : Int32) (na : Int64) (ea : Int32) (kb : Int32) (nb : Int64) (eb : Int32) (k : Int32) (n : Int64) (e : Int32) (bits : Int64) (scale : Int32) (K : Nat → Int32) (N : Nat → Int64) (E : Nat → Int32)  : zM l D vwCl zNF zNM yM_isEqual wsM_isEqual { frames := 1, cells := 0, slots := 0, locals := 24 } [.ref h0] (MW h0 a1 a2 a3 c1 c2 c3 (ka, na, ea, kb, nb, eb, k, n, e, bits, scale, K, N, E) ++ Y) (TY cR c1 c2 c3) (qI (fun r w' tys' => MW h0 a1 a2 a3 c1 c2 c3 (ka, na, ea, kb, nb, eb, k, n, e, bits, scale, K, N, E) ++ Y = w' ∧ (TY cR c1 c2 c3) = tys' ∧ (ka = 1 → kb = 1 → na = nb → ea = eb → r = 1))) := by
  refine z_met (cc := bM_isEqual) (maxL := 6) (ret := (some .boolean)) (isI := false) (own := RM) (by decide +kernel) rfl rfl (fun h => by cases h) (Nat.le_of_ble_eq_true rfl) (fun Z hZ => ?_)
  show Z 0 0 (TY cR c1 c2 c3) 0 [(0, .ref h0)] [] (MW h0 a1 a2 a3 c1 c2 c3 (ka, na, ea, kb, nb, eb, k, n, e, bits, scale, K, N, E) ++ Y)
  refine z_aload_n (pc := 0) hZ 0 dM_isEqual_0 rfl rfl ?_
  refine z_get (pc := 1) (ci := 2) hZ 0 rfl rfl uc_M 3 (by decide) (zb fl_M_51) rfl dM_isEqual_1 ?_
  refine z_iconst (pc := 4) hZ 5 dM_isEqual_4 (by decide) ?_
  refine z_icmp_eq (pc := 5) hZ 16 dM_isEqual_5 (by decide) (fun c5_1 => ?_) (fun c5_1 => ?_)
  · refine z_iconst (pc := 16) hZ 0 dM_isEqual_16 (by decide) ?_
    exact z_reti (pc := 17) hZ dM_isEqual_17 .boolean rfl rfl ⟨_, rfl, rfl, rfl, (by first | exact fun h => (k15 h c5_1).elim | exact fun _ h => (k15 h nokey_).elim | exact fun h => (ig_n nokey_ nokey_ h).elim | exact fun _ h => (ig_n nokey_ nokey_ h).elim | exact fun h1 h2 => absurd (h1.trans h2.symm) nokey_ | exact fun _ _ h _ => absurd h nokey_ | exact fun _ _ _ h => absurd h nokey_ | exact fun _ _ _ _ => rfl)⟩
  · refine z_aload_n (pc := 8) hZ 0 dM_isEqual_8 rfl rfl ?_
    refine z_get (pc := 9) (ci := 2) hZ 0 rfl rfl uc_M 6 (by decide) (zb fl_M_60) rfl dM_isEqual_9 ?_
    refine z_iconst (pc := 12) hZ 5 dM_isEqual_12 (by decide) ?_
    refine z_icmp_ne (pc := 13) hZ 18 dM_isEqual_13 (by decide) (fun c13_2 => ?_) (fun c13_2 => ?_)
    · refine z_aload_n (pc := 18) hZ 0 dM_isEqual_18 rfl rfl ?_
      refine z_get (pc := 19) (ci := 2) hZ 0 rfl rfl uc_M 3 (by decide) (zb fl_M_51) rfl dM_isEqual_19 ?_
      refine z_callS (pc := 22) (As := [.int ka]) (rest := []) hZ (cM_isGreat l D (TY cR c1 c2 c3) (MW h0 a1 a2 a3 c1 c2 c3 (ka, na, ea, kb, nb, eb, k, n, e, bits, scale, K, N, E) ++ Y) ka) zyM_isGreat (z_goodS ml_M_86 st_M_isGreat in_M co_M_isGreat) rfl rfl (by decide) rfl rfl (Nat.le_of_ble_eq_true rfl) ⟨Nat.zero_le _, Nat.zero_le _⟩ dM_isEqual_22 (z_ki (fun r22_3 w1 tys1 hp => ?_))
      obtain ⟨rfl, rfl, p22_3⟩ := hp
      refine z_if_ne (pc := 25) hZ 38 dM_isEqual_25 (by decide) (fun c25_4 => ?_) (fun c25_4 => ?_)
      · refine z_aload_n (pc := 38) hZ 0 dM_isEqual_38 rfl rfl ?_
        refine z_get (pc := 39) (ci := 2) hZ 0 rfl rfl uc_M 3 (by decide) (zb fl_M_51) rfl dM_isEqual_39 ?_
        refine z_aload_n (pc := 42) hZ 0 dM_isEqual_42 rfl rfl ?_
        refine z_get (pc := 43) (ci := 2) hZ 0 rfl rfl uc_M 6 (by decide) (zb fl_M_60) rfl dM_isEqual_43 ?_
        refine z_icmp_ne (pc := 46) hZ 53 dM_isEqual_46 (by decide) (fun c46_5 => ?_) (fun c46_5 => ?_)
        · refine z_iconst (pc := 53) hZ 0 dM_isEqual_53 (by decide) ?_
          exact z_reti (pc := 54) hZ dM_isEqual_54 .boolean rfl rfl ⟨_, rfl, rfl, rfl, (by first | exact fun h => (k15 h c5_1).elim | exact fun _ h => (k15 h c13_2).elim | exact fun h => (ig_n p22_3 c25_4 h).elim | exact fun _ h => (ig_n nokey_ nokey_ h).elim | exact fun h1 h2 => absurd (h1.trans h2.symm) nokey_ | exact fun _ _ h _ => absurd h nokey_ | exact fun _ _ _ h => absurd h nokey_ | exact fun _ _ _ _ => rfl)⟩
        · refine z_iconst (pc := 49) hZ 1 dM_isEqual_49 (by decide) ?_
          refine z_goto (pc := 50) hZ 54 dM_isEqual_50 (by decide) ?_
          exact z_reti (pc := 54) hZ dM_isEqual_54 .boolean rfl rfl ⟨_, rfl, rfl, rfl, (by first | exact fun h => (k15 h c5_1).elim | exact fun _ h => (k15 h c13_2).elim | exact fun h => (ig_n p22_3 c25_4 h).elim | exact fun _ h => (ig_n nokey_ nokey_ h).elim | exact fun h1 h2 => absurd (h1.trans h2.symm) nokey_ | exact fun _ _ h _ => absurd h nokey_ | exact fun _ _ _ h => absurd h nokey_ | exact fun _ _ _ _ => rfl)⟩
      · refine z_aload_n (pc := 28) hZ 0 dM_isEqual_28 rfl rfl ?_
        refine z_get (pc := 29) (ci := 2) hZ 0 rfl rfl uc_M 6 (by decide) (zb fl_M_60) rfl dM_isEqual_29 ?_
        refine z_callS (pc := 32) (As := [.int kb]) (rest := []) hZ (cM_isGreat l D (TY cR c1 c2 c3) (MW h0 a1 a2 a3 c1 c2 c3 (ka, na, ea, kb, nb, eb, k, n, e, bits, scale, K, N, E) ++ Y) kb) zyM_isGreat (z_goodS ml_M_86 st_M_isGreat in_M co_M_isGreat) rfl rfl (by decide) rfl rfl (Nat.le_of_ble_eq_true rfl) ⟨Nat.zero_le _, Nat.zero_le _⟩ dM_isEqual_32 (z_ki (fun r32_6 w1 tys1 hp => ?_))
        obtain ⟨rfl, rfl, p32_6⟩ := hp
        refine z_if_eq (pc := 35) hZ 55 dM_isEqual_35 (by decide) (fun c35_7 => ?_) (fun c35_7 => ?_)
        · refine z_aload_n (pc := 55) hZ 0 dM_isEqual_55 rfl rfl ?_
          refine z_get (pc := 56) (ci := 2) hZ 0 rfl rfl uc_M 3 (by decide) (zb fl_M_51) rfl dM_isEqual_56 ?_
          refine z_aload_n (pc := 59) hZ 0 dM_isEqual_59 rfl rfl ?_
          refine z_get (pc := 60) (ci := 2) hZ 0 rfl rfl uc_M 6 (by decide) (zb fl_M_60) rfl dM_isEqual_60 ?_
          refine z_icmp_ne (pc := 63) hZ 95 dM_isEqual_63 (by decide) (fun c63_8 => ?_) (fun c63_8 => ?_)
          · refine z_aload_n (pc := 95) hZ 0 dM_isEqual_95 rfl rfl ?_
            refine z_get (pc := 96) (ci := 2) hZ 0 rfl rfl uc_M 3 (by decide) (zb fl_M_51) rfl dM_isEqual_96 ?_
            refine z_iconst (pc := 99) hZ 1 dM_isEqual_99 (by decide) ?_
            refine z_icmp_ne (pc := 100) hZ 110 dM_isEqual_100 (by decide) (fun c100_9 => ?_) (fun c100_9 => ?_)
            · refine z_aload_n (pc := 110) hZ 0 dM_isEqual_110 rfl rfl ?_
              refine z_get (pc := 111) (ci := 2) hZ 0 rfl rfl uc_M 7 (by decide) (zb fl_M_63) rfl dM_isEqual_111 ?_
              refine z_lstore_n (pc := 114) hZ [(1, .long nb), (0, .ref h0)] dM_isEqual_114 rfl (by decide) rfl ?_
              refine z_aload_n (pc := 115) hZ 1 dM_isEqual_115 rfl rfl ?_
              refine z_get (pc := 116) (ci := 2) hZ 0 rfl rfl uc_M 3 (by decide) (zb fl_M_51) rfl dM_isEqual_116 ?_
              refine z_iconst (pc := 119) hZ 1 dM_isEqual_119 (by decide) ?_
              refine z_icmp_ne (pc := 120) hZ 130 dM_isEqual_120 (by decide) (fun c120 => ?_) (fun c9 => False.elim (by first | exact absurd c9 c100_9 | exact absurd c100_9 c9 | exact absurd c9 (Int32.not_lt.mpr c100_9) | exact absurd c9 (Int32.not_le.mpr c100_9) | exact c9 ((Int32.not_lt).mp c100_9) | exact c9 ((Int32.not_le).mp c100_9)))
              refine z_aload_n (pc := 130) hZ 1 dM_isEqual_130 rfl rfl ?_
              refine z_get (pc := 131) (ci := 2) hZ 0 rfl rfl uc_M 4 (by decide) (zb fl_M_54) rfl dM_isEqual_131 ?_
              refine z_lstore_n (pc := 134) hZ [(3, .long na), (1, .long nb), (0, .ref h0)] dM_isEqual_134 rfl (by decide) rfl ?_
              refine z_aload_n (pc := 135) hZ 2 dM_isEqual_135 rfl rfl ?_
              refine z_get (pc := 136) (ci := 2) hZ 0 rfl rfl uc_M 3 (by decide) (zb fl_M_51) rfl dM_isEqual_136 ?_
              refine z_iconst (pc := 139) hZ 1 dM_isEqual_139 (by decide) ?_
              refine z_icmp_ne (pc := 140) hZ 150 dM_isEqual_140 (by decide) (fun c140 => ?_) (fun c9 => False.elim (by first | exact absurd c9 c100_9 | exact absurd c100_9 c9 | exact absurd c9 (Int32.not_lt.mpr c100_9) | exact absurd c9 (Int32.not_le.mpr c100_9) | exact c9 ((Int32.not_lt).mp c100_9) | exact c9 ((Int32.not_le).mp c100_9)))
              refine z_aload_n (pc := 150) hZ 2 dM_isEqual_150 rfl rfl ?_
              refine z_get (pc := 151) (ci := 2) hZ 0 rfl rfl uc_M 5 (by decide) (zb fl_M_57) rfl dM_isEqual_151 ?_
              refine z_istore (pc := 154) hZ [(5, .int ea), (3, .long na), (1, .long nb), (0, .ref h0)] dM_isEqual_154 (by decide) rfl ?_
              refine z_aload_n (pc := 156) hZ 3 dM_isEqual_156 rfl rfl ?_
              refine z_iconst (pc := 157) hZ 2 dM_isEqual_157 (by decide) ?_
              refine z_lload_n (pc := 158) hZ 1 dM_isEqual_158 rfl rfl ?_
              refine z_iload (pc := 159) hZ 0 dM_isEqual_159 rfl ?_
              refine z_callV (pc := 161) (As := [.int 2, .long na, .int ea]) (rest := []) hZ (cM_isWhole l D cR c1 c2 c3 h0 a1 a2 a3 Y ka na ea kb nb eb k n e bits scale K N E 2 na ea) zyM_isWhole (z_goodV ml_M_126 im_M_isWhole se_M_isWhole in_M co_M_isWhole) 0 rfl rfl rfl rfl (by decide) rfl rfl (Nat.le_of_ble_eq_true rfl) ⟨Nat.zero_le _, Nat.zero_le _⟩ dM_isEqual_161 (z_ki (fun r161_10 w1 tys1 hp => ?_))
              obtain ⟨rfl, rfl, p161_10⟩ := hp
              refine z_if_eq (pc := 164) hZ 180 dM_isEqual_164 (by decide) (fun c164_11 => ?_) (fun c164_11 => ?_)
              · refine z_iconst (pc := 180) hZ 0 dM_isEqual_180 (by decide) ?_
                exact z_reti (pc := 181) hZ dM_isEqual_181 .boolean rfl rfl ⟨_, rfl, rfl, rfl, (by first | exact fun h => (k15 h c5_1).elim | exact fun _ h => (k15 h c13_2).elim | exact fun h => (ig_n p22_3 c25_4 h).elim | exact fun _ h => (ig_n p32_6 c35_7 h).elim | exact fun h1 h2 => absurd (h1.trans h2.symm) c63_8 | exact fun _ _ h _ => absurd h nokey_ | exact fun _ _ _ h => absurd h nokey_ | exact fun _ _ _ _ => rfl)⟩
              · refine z_lload_n (pc := 167) hZ 1 dM_isEqual_167 rfl rfl ?_
                refine z_iload (pc := 168) hZ 0 dM_isEqual_168 rfl ?_
                refine z_lshl (pc := 170) hZ dM_isEqual_170 (fun v170_12 ev170_12 => ?_)
                refine z_lload_n (pc := 171) hZ 2 dM_isEqual_171 rfl rfl ?_
                refine z_lif_ne (pc := 172) hZ 180 dM_isEqual_172 dM_isEqual_173 (by decide) (fun c173_13 => ?_) (fun c173_13 => ?_)
                · refine z_iconst (pc := 180) hZ 0 dM_isEqual_180 (by decide) ?_
                  exact z_reti (pc := 181) hZ dM_isEqual_181 .boolean rfl rfl ⟨_, rfl, rfl, rfl, (by first | exact fun h => (k15 h c5_1).elim | exact fun _ h => (k15 h c13_2).elim | exact fun h => (ig_n p22_3 c25_4 h).elim | exact fun _ h => (ig_n p32_6 c35_7 h).elim | exact fun h1 h2 => absurd (h1.trans h2.symm) c63_8 | exact fun _ _ h _ => absurd h nokey_ | exact fun _ _ _ h => absurd h nokey_ | exact fun _ _ _ _ => rfl)⟩
                · refine z_iconst (pc := 176) hZ 1 dM_isEqual_176 (by decide) ?_
                  refine z_goto (pc := 177) hZ 181 dM_isEqual_177 (by decide) ?_
                  exact z_reti (pc := 181) hZ dM_isEqual_181 .boolean rfl rfl ⟨_, rfl, rfl, rfl, (by first | exact fun h => (k15 h c5_1).elim | exact fun _ h => (k15 h c13_2).elim | exact fun h => (ig_n p22_3 c25_4 h).elim | exact fun _ h => (ig_n p32_6 c35_7 h).elim | exact fun h1 h2 => absurd (h1.trans h2.symm) c63_8 | exact fun _ _ h _ => absurd h nokey_ | exact fun _ _ _ h => absurd h nokey_ | exact fun _ _ _ _ => rfl)⟩
            · refine z_aload_n (pc := 103) hZ 0 dM_isEqual_103 rfl rfl ?_
              refine z_get (pc := 104) (ci := 2) hZ 0 rfl rfl uc_M 4 (by decide) (zb fl_M_54) rfl dM_isEqual_104 ?_
              refine z_goto (pc := 107) hZ 114 dM_isEqual_107 (by decide) ?_
              refine z_lstore_n (pc := 114) hZ [(1, .long na), (0, .ref h0)] dM_isEqual_114 rfl (by decide) rfl ?_
              refine z_aload_n (pc := 115) hZ 1 dM_isEqual_115 rfl rfl ?_
              refine z_get (pc := 116) (ci := 2) hZ 0 rfl rfl uc_M 3 (by decide) (zb fl_M_51) rfl dM_isEqual_116 ?_
              refine z_iconst (pc := 119) hZ 1 dM_isEqual_119 (by decide) ?_
              refine z_icmp_ne (pc := 120) hZ 130 dM_isEqual_120 (by decide) (fun c9 => False.elim (by first | exact absurd c9 c100_9 | exact absurd c100_9 c9 | exact absurd c9 (Int32.not_lt.mpr c100_9) | exact absurd c9 (Int32.not_le.mpr c100_9) | exact c9 ((Int32.not_lt).mp c100_9) | exact c9 ((Int32.not_le).mp c100_9))) (fun c120 => ?_)
              refine z_aload_n (pc := 123) hZ 1 dM_isEqual_123 rfl rfl ?_
              refine z_get (pc := 124) (ci := 2) hZ 0 rfl rfl uc_M 7 (by decide) (zb fl_M_63) rfl dM_isEqual_124 ?_
              refine z_goto (pc := 127) hZ 134 dM_isEqual_127 (by decide) ?_
              refine z_lstore_n (pc := 134) hZ [(3, .long nb), (1, .long na), (0, .ref h0)] dM_isEqual_134 rfl (by decide) rfl ?_
              refine z_aload_n (pc := 135) hZ 2 dM_isEqual_135 rfl rfl ?_
              refine z_get (pc := 136) (ci := 2) hZ 0 rfl rfl uc_M 3 (by decide) (zb fl_M_51) rfl dM_isEqual_136 ?_
              refine z_iconst (pc := 139) hZ 1 dM_isEqual_139 (by decide) ?_
              refine z_icmp_ne (pc := 140) hZ 150 dM_isEqual_140 (by decide) (fun c9 => False.elim (by first | exact absurd c9 c100_9 | exact absurd c100_9 c9 | exact absurd c9 (Int32.not_lt.mpr c100_9) | exact absurd c9 (Int32.not_le.mpr c100_9) | exact c9 ((Int32.not_lt).mp c100_9) | exact c9 ((Int32.not_le).mp c100_9))) (fun c140 => ?_)
              refine z_aload_n (pc := 143) hZ 2 dM_isEqual_143 rfl rfl ?_
              refine z_get (pc := 144) (ci := 2) hZ 0 rfl rfl uc_M 8 (by decide) (zb fl_M_66) rfl dM_isEqual_144 ?_
              refine z_goto (pc := 147) hZ 154 dM_isEqual_147 (by decide) ?_
              refine z_istore (pc := 154) hZ [(5, .int eb), (3, .long nb), (1, .long na), (0, .ref h0)] dM_isEqual_154 (by decide) rfl ?_
              refine z_aload_n (pc := 156) hZ 3 dM_isEqual_156 rfl rfl ?_
              refine z_iconst (pc := 157) hZ 2 dM_isEqual_157 (by decide) ?_
              refine z_lload_n (pc := 158) hZ 1 dM_isEqual_158 rfl rfl ?_
              refine z_iload (pc := 159) hZ 0 dM_isEqual_159 rfl ?_
              refine z_callV (pc := 161) (As := [.int 2, .long nb, .int eb]) (rest := []) hZ (cM_isWhole l D cR c1 c2 c3 h0 a1 a2 a3 Y ka na ea kb nb eb k n e bits scale K N E 2 nb eb) zyM_isWhole (z_goodV ml_M_126 im_M_isWhole se_M_isWhole in_M co_M_isWhole) 0 rfl rfl rfl rfl (by decide) rfl rfl (Nat.le_of_ble_eq_true rfl) ⟨Nat.zero_le _, Nat.zero_le _⟩ dM_isEqual_161 (z_ki (fun r161_14 w1 tys1 hp => ?_))
              obtain ⟨rfl, rfl, p161_14⟩ := hp
              refine z_if_eq (pc := 164) hZ 180 dM_isEqual_164 (by decide) (fun c164_15 => ?_) (fun c164_15 => ?_)
              · refine z_iconst (pc := 180) hZ 0 dM_isEqual_180 (by decide) ?_
                exact z_reti (pc := 181) hZ dM_isEqual_181 .boolean rfl rfl ⟨_, rfl, rfl, rfl, (by first | exact fun h => (k15 h c5_1).elim | exact fun _ h => (k15 h c13_2).elim | exact fun h => (ig_n p22_3 c25_4 h).elim | exact fun _ h => (ig_n p32_6 c35_7 h).elim | exact fun h1 h2 => absurd (h1.trans h2.symm) c63_8 | exact fun _ _ h _ => absurd h nokey_ | exact fun _ _ _ h => absurd h nokey_ | exact fun _ _ _ _ => rfl)⟩
              · refine z_lload_n (pc := 167) hZ 1 dM_isEqual_167 rfl rfl ?_
                refine z_iload (pc := 168) hZ 0 dM_isEqual_168 rfl ?_
                refine z_lshl (pc := 170) hZ dM_isEqual_170 (fun v170_16 ev170_16 => ?_)
                refine z_lload_n (pc := 171) hZ 2 dM_isEqual_171 rfl rfl ?_
                refine z_lif_ne (pc := 172) hZ 180 dM_isEqual_172 dM_isEqual_173 (by decide) (fun c173_17 => ?_) (fun c173_17 => ?_)
                · refine z_iconst (pc := 180) hZ 0 dM_isEqual_180 (by decide) ?_
                  exact z_reti (pc := 181) hZ dM_isEqual_181 .boolean rfl rfl ⟨_, rfl, rfl, rfl, (by first | exact fun h => (k15 h c5_1).elim | exact fun _ h => (k15 h c13_2).elim | exact fun h => (ig_n p22_3 c25_4 h).elim | exact fun _ h => (ig_n p32_6 c35_7 h).elim | exact fun h1 h2 => absurd (h1.trans h2.symm) c63_8 | exact fun _ _ h _ => absurd h nokey_ | exact fun _ _ _ h => absurd h nokey_ | exact fun _ _ _ _ => rfl)⟩
                · refine z_iconst (pc := 176) hZ 1 dM_isEqual_176 (by decide) ?_
                  refine z_goto (pc := 177) hZ 181 dM_isEqual_177 (by decide) ?_
                  exact z_reti (pc := 181) hZ dM_isEqual_181 .boolean rfl rfl ⟨_, rfl, rfl, rfl, (by first | exact fun h => (k15 h c5_1).elim | exact fun _ h => (k15 h c13_2).elim | exact fun h => (ig_n p22_3 c25_4 h).elim | exact fun _ h => (ig_n p32_6 c35_7 h).elim | exact fun h1 h2 => absurd (h1.trans h2.symm) c63_8 | exact fun _ _ h _ => absurd h nokey_ | exact fun _ _ _ h => absurd h nokey_ | exact fun _ _ _ _ => rfl)⟩
          · refine z_aload_n (pc := 66) hZ 0 dM_isEqual_66 rfl rfl ?_
            refine z_get (pc := 67) (ci := 2) hZ 0 rfl rfl uc_M 4 (by decide) (zb fl_M_54) rfl dM_isEqual_67 ?_
            refine z_aload_n (pc := 70) hZ 0 dM_isEqual_70 rfl rfl ?_
            refine z_get (pc := 71) (ci := 2) hZ 0 rfl rfl uc_M 7 (by decide) (zb fl_M_63) rfl dM_isEqual_71 ?_
            refine z_lif_ne (pc := 74) hZ 93 dM_isEqual_74 dM_isEqual_75 (by decide) (fun c75_18 => ?_) (fun c75_18 => ?_)
            · refine z_iconst (pc := 93) hZ 0 dM_isEqual_93 (by decide) ?_
              exact z_reti (pc := 94) hZ dM_isEqual_94 .boolean rfl rfl ⟨_, rfl, rfl, rfl, (by first | exact fun h => (k15 h c5_1).elim | exact fun _ h => (k15 h c13_2).elim | exact fun h => (ig_n p22_3 c25_4 h).elim | exact fun _ h => (ig_n p32_6 c35_7 h).elim | exact fun h1 h2 => absurd (h1.trans h2.symm) c63_8 | exact fun _ _ h _ => absurd h c75_18 | exact fun _ _ _ h => absurd h nokey_ | exact fun _ _ _ _ => rfl)⟩
            · refine z_aload_n (pc := 78) hZ 0 dM_isEqual_78 rfl rfl ?_
              refine z_get (pc := 79) (ci := 2) hZ 0 rfl rfl uc_M 5 (by decide) (zb fl_M_57) rfl dM_isEqual_79 ?_
              refine z_aload_n (pc := 82) hZ 0 dM_isEqual_82 rfl rfl ?_
              refine z_get (pc := 83) (ci := 2) hZ 0 rfl rfl uc_M 8 (by decide) (zb fl_M_66) rfl dM_isEqual_83 ?_
              refine z_icmp_ne (pc := 86) hZ 93 dM_isEqual_86 (by decide) (fun c86_19 => ?_) (fun c86_19 => ?_)
              · refine z_iconst (pc := 93) hZ 0 dM_isEqual_93 (by decide) ?_
                exact z_reti (pc := 94) hZ dM_isEqual_94 .boolean rfl rfl ⟨_, rfl, rfl, rfl, (by first | exact fun h => (k15 h c5_1).elim | exact fun _ h => (k15 h c13_2).elim | exact fun h => (ig_n p22_3 c25_4 h).elim | exact fun _ h => (ig_n p32_6 c35_7 h).elim | exact fun h1 h2 => absurd (h1.trans h2.symm) c63_8 | exact fun _ _ h _ => absurd h c75_18 | exact fun _ _ _ h => absurd h c86_19 | exact fun _ _ _ _ => rfl)⟩
              · refine z_iconst (pc := 89) hZ 1 dM_isEqual_89 (by decide) ?_
                refine z_goto (pc := 90) hZ 94 dM_isEqual_90 (by decide) ?_
                exact z_reti (pc := 94) hZ dM_isEqual_94 .boolean rfl rfl ⟨_, rfl, rfl, rfl, (by first | exact fun h => (k15 h c5_1).elim | exact fun _ h => (k15 h c13_2).elim | exact fun h => (ig_n p22_3 c25_4 h).elim | exact fun _ h => (ig_n p32_6 c35_7 h).elim | exact fun h1 h2 => absurd (h1.trans h2.symm) c63_8 | exact fun _ _ h _ => absurd h c75_18 | exact fun _ _ _ h => absurd h c86_19 | exact fun _ _ _ _ => rfl)⟩
        · refine z_aload_n (pc := 38) hZ 0 dM_isEqual_38 rfl rfl ?_
          refine z_get (pc := 39) (ci := 2) hZ 0 rfl rfl uc_M 3 (by decide) (zb fl_M_51) rfl dM_isEqual_39 ?_
          refine z_aload_n (pc := 42) hZ 0 dM_isEqual_42 rfl rfl ?_
          refine z_get (pc := 43) (ci := 2) hZ 0 rfl rfl uc_M 6 (by decide) (zb fl_M_60) rfl dM_isEqual_43 ?_
          refine z_icmp_ne (pc := 46) hZ 53 dM_isEqual_46 (by decide) (fun c46_20 => ?_) (fun c46_20 => ?_)
          · refine z_iconst (pc := 53) hZ 0 dM_isEqual_53 (by decide) ?_
            exact z_reti (pc := 54) hZ dM_isEqual_54 .boolean rfl rfl ⟨_, rfl, rfl, rfl, (by first | exact fun h => (k15 h c5_1).elim | exact fun _ h => (k15 h c13_2).elim | exact fun h => (ig_n p22_3 c25_4 h).elim | exact fun _ h => (ig_n p32_6 c35_7 h).elim | exact fun h1 h2 => absurd (h1.trans h2.symm) nokey_ | exact fun _ _ h _ => absurd h nokey_ | exact fun _ _ _ h => absurd h nokey_ | exact fun _ _ _ _ => rfl)⟩
          · refine z_iconst (pc := 49) hZ 1 dM_isEqual_49 (by decide) ?_
            refine z_goto (pc := 50) hZ 54 dM_isEqual_50 (by decide) ?_
            exact z_reti (pc := 54) hZ dM_isEqual_54 .boolean rfl rfl ⟨_, rfl, rfl, rfl, (by first | exact fun h => (k15 h c5_1).elim | exact fun _ h => (k15 h c13_2).elim | exact fun h => (ig_n p22_3 c25_4 h).elim | exact fun _ h => (ig_n p32_6 c35_7 h).elim | exact fun h1 h2 => absurd (h1.trans h2.symm) nokey_ | exact fun _ _ h _ => absurd h nokey_ | exact fun _ _ _ h => absurd h nokey_ | exact fun _ _ _ _ => rfl)⟩
    · refine z_iconst (pc := 16) hZ 0 dM_isEqual_16 (by decide) ?_
      exact z_reti (pc := 17) hZ dM_isEqual_17 .boolean rfl rfl ⟨_, rfl, rfl, rfl, (by first | exact fun h => (k15 h c5_1).elim | exact fun _ h => (k15 h c13_2).elim | exact fun h => (ig_n nokey_ nokey_ h).elim | exact fun _ h => (ig_n nokey_ nokey_ h).elim | exact fun h1 h2 => absurd (h1.trans h2.symm) nokey_ | exact fun _ _ h _ => absurd h nokey_ | exact fun _ _ _ h => absurd h nokey_ | exact fun _ _ _ _ => rfl)⟩
set_option maxHeartbeats 4000000 in
set_option maxRecDepth 100000 in
theorem cM_kind (l : Launch) (D : va_G) (cR c1 c2 c3 : ClassId) (h0 a1 a2 a3 : Nat) (Y : va_W) (ka : Int32) (na : Int64) (ea : Int32) (kb : Int32) (nb : Int64) (eb : Int32) (k : Int32) (n : Int64) (e : Int32) (bits : Int64) (scale : Int32) (K : Nat → Int32) (N : Nat → Int64) (E : Nat → Int32) (p1 : Int32) : zM l D vwCl zNF zNM yM_kind wsM_kind { frames := 1, cells := 0, slots := 0, locals := 20 } [.ref h0, .int p1] (MW h0 a1 a2 a3 c1 c2 c3 (ka, na, ea, kb, nb, eb, k, n, e, bits, scale, K, N, E) ++ Y) (TY cR c1 c2 c3) (qI (fun r w' tys' => MW h0 a1 a2 a3 c1 c2 c3 (ka, na, ea, kb, nb, eb, k, n, e, bits, scale, K, N, E) ++ Y = w' ∧ (TY cR c1 c2 c3) = tys' ∧ ((¬ vp_in p1 32 → r = -1) ∧ (vp_in p1 32 → r = K p1.toNatClampNeg)))) := by
  refine z_met (cc := bM_kind) (maxL := 2) (ret := (some .int)) (isI := false) (own := RM) (by decide +kernel) rfl rfl (fun h => by cases h) (Nat.le_of_ble_eq_true rfl) (fun Z hZ => ?_)
  show Z 0 0 (TY cR c1 c2 c3) 0 [(0, .ref h0), (1, .int p1)] [] (MW h0 a1 a2 a3 c1 c2 c3 (ka, na, ea, kb, nb, eb, k, n, e, bits, scale, K, N, E) ++ Y)
  refine z_iload_n (pc := 0) hZ 1 dM_kind_0 rfl rfl ?_
  refine z_callS (pc := 1) (As := [.int p1]) (rest := []) hZ (cM_isRegister l D (TY cR c1 c2 c3) (MW h0 a1 a2 a3 c1 c2 c3 (ka, na, ea, kb, nb, eb, k, n, e, bits, scale, K, N, E) ++ Y) p1) zyM_isRegister (z_goodS ml_M_204 st_M_isRegister in_M co_M_isRegister) rfl rfl (by decide) rfl rfl (Nat.le_of_ble_eq_true rfl) ⟨Nat.zero_le _, Nat.zero_le _⟩ dM_kind_1 (z_ki (fun r1_1 w1 tys1 hp => ?_))
  obtain ⟨rfl, rfl, p1_1⟩ := hp
  refine z_if_eq (pc := 4) hZ 16 dM_kind_4 (by decide) (fun c4_2 => ?_) (fun c4_2 => ?_)
  · refine z_iconst (pc := 16) hZ (-1) dM_kind_16 (by decide) ?_
    exact z_reti (pc := 17) hZ dM_kind_17 .int rfl rfl ⟨_, rfl, rfl, rfl, (by first | exact ⟨fun _ => rfl, fun q => absurd q (reg_no p1_1 c4_2)⟩ | exact ⟨fun q => absurd (reg_of p1_1 c4_2) q, fun _ => nokey_⟩)⟩
  · refine z_aload_n (pc := 7) hZ 0 dM_kind_7 rfl rfl ?_
    refine z_get (pc := 8) (ci := 2) hZ 0 rfl rfl uc_M 0 (by decide) (zb fl_M_7) rfl dM_kind_8 ?_
    refine z_iload_n (pc := 11) hZ 1 dM_kind_11 rfl rfl ?_
    refine z_iald (pc := 12) hZ 1 1 rfl rfl (by first | assumption | exact reg_of (by assumption) (by assumption)) dM_kind_12 (fun v12_3 ev12_3 => ?_)
    refine z_goto (pc := 13) hZ 17 dM_kind_13 (by decide) ?_
    exact z_reti (pc := 17) hZ dM_kind_17 .int rfl rfl ⟨_, rfl, rfl, rfl, (by first | exact ⟨fun _ => rfl, fun q => absurd q (reg_no p1_1 c4_2)⟩ | exact ⟨fun q => absurd (reg_of p1_1 c4_2) q, fun _ => ev12_3⟩)⟩
set_option maxHeartbeats 4000000 in
set_option maxRecDepth 100000 in
theorem cM_number (l : Launch) (D : va_G) (cR c1 c2 c3 : ClassId) (h0 a1 a2 a3 : Nat) (Y : va_W) (ka : Int32) (na : Int64) (ea : Int32) (kb : Int32) (nb : Int64) (eb : Int32) (k : Int32) (n : Int64) (e : Int32) (bits : Int64) (scale : Int32) (K : Nat → Int32) (N : Nat → Int64) (E : Nat → Int32) (p1 : Int32) : zM l D vwCl zNF zNM yM_number wsM_number { frames := 1, cells := 0, slots := 0, locals := 20 } [.ref h0, .int p1] (MW h0 a1 a2 a3 c1 c2 c3 (ka, na, ea, kb, nb, eb, k, n, e, bits, scale, K, N, E) ++ Y) (TY cR c1 c2 c3) (qL (fun r w' tys' => MW h0 a1 a2 a3 c1 c2 c3 (ka, na, ea, kb, nb, eb, k, n, e, bits, scale, K, N, E) ++ Y = w' ∧ (TY cR c1 c2 c3) = tys' ∧ ((¬ vp_in p1 32 → r = 0) ∧ (vp_in p1 32 → (K p1.toNatClampNeg < 3 → r = N p1.toNatClampNeg) ∧ (¬ K p1.toNatClampNeg < 3 → r = 0))))) := by
  refine z_met (cc := bM_number) (maxL := 2) (ret := (some .long)) (isI := false) (own := RM) (by decide +kernel) rfl rfl (fun h => by cases h) (Nat.le_of_ble_eq_true rfl) (fun Z hZ => ?_)
  show Z 0 0 (TY cR c1 c2 c3) 0 [(0, .ref h0), (1, .int p1)] [] (MW h0 a1 a2 a3 c1 c2 c3 (ka, na, ea, kb, nb, eb, k, n, e, bits, scale, K, N, E) ++ Y)
  refine z_iload_n (pc := 0) hZ 1 dM_number_0 rfl rfl ?_
  refine z_callS (pc := 1) (As := [.int p1]) (rest := []) hZ (cM_isRegister l D (TY cR c1 c2 c3) (MW h0 a1 a2 a3 c1 c2 c3 (ka, na, ea, kb, nb, eb, k, n, e, bits, scale, K, N, E) ++ Y) p1) zyM_isRegister (z_goodS ml_M_204 st_M_isRegister in_M co_M_isRegister) rfl rfl (by decide) rfl rfl (Nat.le_of_ble_eq_true rfl) ⟨Nat.zero_le _, Nat.zero_le _⟩ dM_number_1 (z_ki (fun r1_1 w1 tys1 hp => ?_))
  obtain ⟨rfl, rfl, p1_1⟩ := hp
  refine z_if_eq (pc := 4) hZ 26 dM_number_4 (by decide) (fun c4_2 => ?_) (fun c4_2 => ?_)
  · refine z_lconst (pc := 26) hZ 0 dM_number_26 (by decide) ?_
    exact z_retl (pc := 27) hZ dM_number_27 rfl ⟨_, rfl, rfl, rfl, (by first | exact ⟨fun _ => rfl, fun q => absurd q (reg_no p1_1 c4_2)⟩ | exact ⟨fun q => absurd (reg_of p1_1 c4_2) q, fun _ => ⟨fun _ => nokey_, fun h => absurd (nm_1 nokey_ nokey_) h⟩⟩ | exact ⟨fun q => absurd (reg_of p1_1 c4_2) q, fun _ => ⟨fun h => absurd h (nm_2 nokey_ nokey_), fun _ => rfl⟩⟩)⟩
  · refine z_aload_n (pc := 7) hZ 0 dM_number_7 rfl rfl ?_
    refine z_get (pc := 8) (ci := 2) hZ 0 rfl rfl uc_M 0 (by decide) (zb fl_M_7) rfl dM_number_8 ?_
    refine z_iload_n (pc := 11) hZ 1 dM_number_11 rfl rfl ?_
    refine z_iald (pc := 12) hZ 1 1 rfl rfl (by first | assumption | exact reg_of (by assumption) (by assumption)) dM_number_12 (fun v12_3 ev12_3 => ?_)
    refine z_iconst (pc := 13) hZ 3 dM_number_13 (by decide) ?_
    refine z_icmp_ge (pc := 14) hZ 26 dM_number_14 (by decide) (fun c14_4 => ?_) (fun c14_4 => ?_)
    · refine z_lconst (pc := 26) hZ 0 dM_number_26 (by decide) ?_
      exact z_retl (pc := 27) hZ dM_number_27 rfl ⟨_, rfl, rfl, rfl, (by first | exact ⟨fun _ => rfl, fun q => absurd q (reg_no p1_1 c4_2)⟩ | exact ⟨fun q => absurd (reg_of p1_1 c4_2) q, fun _ => ⟨fun _ => nokey_, fun h => absurd (nm_1 ev12_3 c14_4) h⟩⟩ | exact ⟨fun q => absurd (reg_of p1_1 c4_2) q, fun _ => ⟨fun h => absurd h (nm_2 ev12_3 c14_4), fun _ => rfl⟩⟩)⟩
    · refine z_aload_n (pc := 17) hZ 0 dM_number_17 rfl rfl ?_
      refine z_get (pc := 18) (ci := 2) hZ 0 rfl rfl uc_M 1 (by decide) (zb fl_M_13) rfl dM_number_18 ?_
      refine z_iload_n (pc := 21) hZ 1 dM_number_21 rfl rfl ?_
      refine z_lald (pc := 22) hZ 2 2 rfl rfl (by first | assumption | exact reg_of (by assumption) (by assumption)) dM_number_22 (fun v22_5 ev22_5 => ?_)
      refine z_goto (pc := 23) hZ 27 dM_number_23 (by decide) ?_
      exact z_retl (pc := 27) hZ dM_number_27 rfl ⟨_, rfl, rfl, rfl, (by first | exact ⟨fun _ => rfl, fun q => absurd q (reg_no p1_1 c4_2)⟩ | exact ⟨fun q => absurd (reg_of p1_1 c4_2) q, fun _ => ⟨fun _ => ev22_5, fun h => absurd (nm_1 ev12_3 c14_4) h⟩⟩ | exact ⟨fun q => absurd (reg_of p1_1 c4_2) q, fun _ => ⟨fun h => absurd h (nm_2 ev12_3 c14_4), fun _ => rfl⟩⟩)⟩
set_option maxHeartbeats 4000000 in
set_option maxRecDepth 100000 in
theorem cM_exponent (l : Launch) (D : va_G) (cR c1 c2 c3 : ClassId) (h0 a1 a2 a3 : Nat) (Y : va_W) (ka : Int32) (na : Int64) (ea : Int32) (kb : Int32) (nb : Int64) (eb : Int32) (k : Int32) (n : Int64) (e : Int32) (bits : Int64) (scale : Int32) (K : Nat → Int32) (N : Nat → Int64) (E : Nat → Int32) (p1 : Int32) : zM l D vwCl zNF zNM yM_exponent wsM_exponent { frames := 1, cells := 0, slots := 0, locals := 20 } [.ref h0, .int p1] (MW h0 a1 a2 a3 c1 c2 c3 (ka, na, ea, kb, nb, eb, k, n, e, bits, scale, K, N, E) ++ Y) (TY cR c1 c2 c3) (qI (fun r w' tys' => MW h0 a1 a2 a3 c1 c2 c3 (ka, na, ea, kb, nb, eb, k, n, e, bits, scale, K, N, E) ++ Y = w' ∧ (TY cR c1 c2 c3) = tys' ∧ ((¬ vp_in p1 32 → r = 0) ∧ (vp_in p1 32 → (K p1.toNatClampNeg = 2 → r = E p1.toNatClampNeg) ∧ (¬ K p1.toNatClampNeg = 2 → r = 0))))) := by
  refine z_met (cc := bM_exponent) (maxL := 2) (ret := (some .int)) (isI := false) (own := RM) (by decide +kernel) rfl rfl (fun h => by cases h) (Nat.le_of_ble_eq_true rfl) (fun Z hZ => ?_)
  show Z 0 0 (TY cR c1 c2 c3) 0 [(0, .ref h0), (1, .int p1)] [] (MW h0 a1 a2 a3 c1 c2 c3 (ka, na, ea, kb, nb, eb, k, n, e, bits, scale, K, N, E) ++ Y)
  refine z_iload_n (pc := 0) hZ 1 dM_exponent_0 rfl rfl ?_
  refine z_callS (pc := 1) (As := [.int p1]) (rest := []) hZ (cM_isRegister l D (TY cR c1 c2 c3) (MW h0 a1 a2 a3 c1 c2 c3 (ka, na, ea, kb, nb, eb, k, n, e, bits, scale, K, N, E) ++ Y) p1) zyM_isRegister (z_goodS ml_M_204 st_M_isRegister in_M co_M_isRegister) rfl rfl (by decide) rfl rfl (Nat.le_of_ble_eq_true rfl) ⟨Nat.zero_le _, Nat.zero_le _⟩ dM_exponent_1 (z_ki (fun r1_1 w1 tys1 hp => ?_))
  obtain ⟨rfl, rfl, p1_1⟩ := hp
  refine z_if_eq (pc := 4) hZ 26 dM_exponent_4 (by decide) (fun c4_2 => ?_) (fun c4_2 => ?_)
  · refine z_iconst (pc := 26) hZ 0 dM_exponent_26 (by decide) ?_
    exact z_reti (pc := 27) hZ dM_exponent_27 .int rfl rfl ⟨_, rfl, rfl, rfl, (by first | exact ⟨fun _ => rfl, fun q => absurd q (reg_no p1_1 c4_2)⟩ | exact ⟨fun q => absurd (reg_of p1_1 c4_2) q, fun _ => ⟨fun _ => nokey_, fun h => absurd (nokey_.symm.trans nokey_) h⟩⟩ | exact ⟨fun q => absurd (reg_of p1_1 c4_2) q, fun _ => ⟨fun h => absurd (nokey_.trans h) nokey_, fun _ => rfl⟩⟩)⟩
  · refine z_aload_n (pc := 7) hZ 0 dM_exponent_7 rfl rfl ?_
    refine z_get (pc := 8) (ci := 2) hZ 0 rfl rfl uc_M 0 (by decide) (zb fl_M_7) rfl dM_exponent_8 ?_
    refine z_iload_n (pc := 11) hZ 1 dM_exponent_11 rfl rfl ?_
    refine z_iald (pc := 12) hZ 1 1 rfl rfl (by first | assumption | exact reg_of (by assumption) (by assumption)) dM_exponent_12 (fun v12_3 ev12_3 => ?_)
    refine z_iconst (pc := 13) hZ 2 dM_exponent_13 (by decide) ?_
    refine z_icmp_ne (pc := 14) hZ 26 dM_exponent_14 (by decide) (fun c14_4 => ?_) (fun c14_4 => ?_)
    · refine z_iconst (pc := 26) hZ 0 dM_exponent_26 (by decide) ?_
      exact z_reti (pc := 27) hZ dM_exponent_27 .int rfl rfl ⟨_, rfl, rfl, rfl, (by first | exact ⟨fun _ => rfl, fun q => absurd q (reg_no p1_1 c4_2)⟩ | exact ⟨fun q => absurd (reg_of p1_1 c4_2) q, fun _ => ⟨fun _ => nokey_, fun h => absurd (ev12_3.symm.trans c14_4) h⟩⟩ | exact ⟨fun q => absurd (reg_of p1_1 c4_2) q, fun _ => ⟨fun h => absurd (ev12_3.trans h) c14_4, fun _ => rfl⟩⟩)⟩
    · refine z_aload_n (pc := 17) hZ 0 dM_exponent_17 rfl rfl ?_
      refine z_get (pc := 18) (ci := 2) hZ 0 rfl rfl uc_M 2 (by decide) (zb fl_M_17) rfl dM_exponent_18 ?_
      refine z_iload_n (pc := 21) hZ 1 dM_exponent_21 rfl rfl ?_
      refine z_iald (pc := 22) hZ 3 3 rfl rfl (by first | assumption | exact reg_of (by assumption) (by assumption)) dM_exponent_22 (fun v22_5 ev22_5 => ?_)
      refine z_goto (pc := 23) hZ 27 dM_exponent_23 (by decide) ?_
      exact z_reti (pc := 27) hZ dM_exponent_27 .int rfl rfl ⟨_, rfl, rfl, rfl, (by first | exact ⟨fun _ => rfl, fun q => absurd q (reg_no p1_1 c4_2)⟩ | exact ⟨fun q => absurd (reg_of p1_1 c4_2) q, fun _ => ⟨fun _ => ev22_5, fun h => absurd (ev12_3.symm.trans c14_4) h⟩⟩ | exact ⟨fun q => absurd (reg_of p1_1 c4_2) q, fun _ => ⟨fun h => absurd (ev12_3.trans h) c14_4, fun _ => rfl⟩⟩)⟩
