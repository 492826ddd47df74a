set_option maxHeartbeats 4000000 in
set_option maxRecDepth 100000 in
theorem cN_isRegister (l : Launch) (D : va_G) (tys : zT) (w : va_W) (p0 : Int32) : zM l D vwCl zNF zNM yN_isRegister wsN_isRegister { frames := 0, cells := 0, slots := 0, locals := 0 } [.int p0] (w) tys (qI (fun r w' tys' => w = w' ∧ tys = tys' ∧ ((r = 1 ∧ vp_in p0 32) ∨ (r = 0 ∧ ¬ vp_in p0 32)))) := by
  refine z_met (cc := bN_isRegister) (maxL := 1) (ret := (some .boolean)) (isI := false) (own := RN) (by decide +kernel) rfl rfl (fun h => by cases h) (Nat.le_of_ble_eq_true rfl) (fun Z hZ => ?_)
  show Z 0 0 tys 0 [(0, .int p0)] [] (w)
  refine z_iload_n (pc := 0) hZ 0 dN_isRegister_0 rfl rfl ?_
  refine z_if_lt (pc := 1) hZ 14 dN_isRegister_1 (by decide) (fun c1_1 => ?_) (fun c1_1 => ?_)
  · refine z_iconst (pc := 14) hZ 0 dN_isRegister_14 (by decide) ?_
    exact z_reti (pc := 15) hZ dN_isRegister_15 .boolean rfl rfl ⟨_, rfl, rfl, rfl, (by first | exact Or.inl ⟨rfl, reg_1 (by assumption) (by assumption)⟩ | exact Or.inr ⟨rfl, reg_0a (by assumption)⟩ | exact Or.inr ⟨rfl, reg_0b (by assumption)⟩)⟩
  · refine z_iload_n (pc := 4) hZ 0 dN_isRegister_4 rfl rfl ?_
    refine z_bipush (pc := 5) hZ 32 dN_isRegister_5 (by decide) ?_
    refine z_icmp_ge (pc := 7) hZ 14 dN_isRegister_7 (by decide) (fun c7_2 => ?_) (fun c7_2 => ?_)
    · refine z_iconst (pc := 14) hZ 0 dN_isRegister_14 (by decide) ?_
      exact z_reti (pc := 15) hZ dN_isRegister_15 .boolean rfl rfl ⟨_, rfl, rfl, rfl, (by first | exact Or.inl ⟨rfl, reg_1 (by assumption) (by assumption)⟩ | exact Or.inr ⟨rfl, reg_0a (by assumption)⟩ | exact Or.inr ⟨rfl, reg_0b (by assumption)⟩)⟩
    · refine z_iconst (pc := 10) hZ 1 dN_isRegister_10 (by decide) ?_
      refine z_goto (pc := 11) hZ 15 dN_isRegister_11 (by decide) ?_
      exact z_reti (pc := 15) hZ dN_isRegister_15 .boolean rfl rfl ⟨_, rfl, rfl, rfl, (by first | exact Or.inl ⟨rfl, reg_1 (by assumption) (by assumption)⟩ | exact Or.inr ⟨rfl, reg_0a (by assumption)⟩ | exact Or.inr ⟨rfl, reg_0b (by assumption)⟩)⟩
set_option maxHeartbeats 4000000 in
set_option maxRecDepth 100000 in
theorem cN_isRow (l : Launch) (D : va_G) (tys : zT) (w : va_W) (p0 : Int32) (p1 : Int32) : zM l D vwCl zNF zNM yN_isRow wsN_isRow { frames := 0, cells := 0, slots := 0, locals := 0 } [.int p0, .int p1] (w) tys (qI (fun r w' tys' => w = w' ∧ tys = tys' ∧ ((r = 1 ∧ rowOK p0 p1) ∨ (r = 0 ∧ ¬ rowOK p0 p1)))) := by
  refine z_met (cc := bN_isRow) (maxL := 2) (ret := (some .boolean)) (isI := false) (own := RN) (by decide +kernel) rfl rfl (fun h => by cases h) (Nat.le_of_ble_eq_true rfl) (fun Z hZ => ?_)
  show Z 0 0 tys 0 [(0, .int p0), (1, .int p1)] [] (w)
  refine z_iload_n (pc := 0) hZ 0 dN_isRow_0 rfl rfl ?_
  refine z_if_lt (pc := 1) hZ 26 dN_isRow_1 (by decide) (fun c1_1 => ?_) (fun c1_1 => ?_)
  · refine z_iconst (pc := 26) hZ 0 dN_isRow_26 (by decide) ?_
    exact z_reti (pc := 27) hZ dN_isRow_27 .boolean rfl rfl ⟨_, rfl, rfl, rfl, (by first | exact Or.inl ⟨rfl, row_t (by assumption) (by assumption) (by assumption) (by assumption) (by assumption)⟩ | exact Or.inr ⟨rfl, row_f1 (by assumption)⟩ | exact Or.inr ⟨rfl, row_f2 (by assumption)⟩ | exact Or.inr ⟨rfl, row_f3 (by assumption)⟩ | exact Or.inr ⟨rfl, row_f4 (by assumption) (by assumption) (by assumption) (by assumption)⟩)⟩
  · refine z_iload_n (pc := 4) hZ 0 dN_isRow_4 rfl rfl ?_
    refine z_bipush (pc := 5) hZ 32 dN_isRow_5 (by decide) ?_
    refine z_icmp_gt (pc := 7) hZ 26 dN_isRow_7 (by decide) (fun c7_2 => ?_) (fun c7_2 => ?_)
    · refine z_iconst (pc := 26) hZ 0 dN_isRow_26 (by decide) ?_
      exact z_reti (pc := 27) hZ dN_isRow_27 .boolean rfl rfl ⟨_, rfl, rfl, rfl, (by first | exact Or.inl ⟨rfl, row_t (by assumption) (by assumption) (by assumption) (by assumption) (by assumption)⟩ | exact Or.inr ⟨rfl, row_f1 (by assumption)⟩ | exact Or.inr ⟨rfl, row_f2 (by assumption)⟩ | exact Or.inr ⟨rfl, row_f3 (by assumption)⟩ | exact Or.inr ⟨rfl, row_f4 (by assumption) (by assumption) (by assumption) (by assumption)⟩)⟩
    · refine z_iload_n (pc := 10) hZ 1 dN_isRow_10 rfl rfl ?_
      refine z_if_lt (pc := 11) hZ 26 dN_isRow_11 (by decide) (fun c11_3 => ?_) (fun c11_3 => ?_)
      · refine z_iconst (pc := 26) hZ 0 dN_isRow_26 (by decide) ?_
        exact z_reti (pc := 27) hZ dN_isRow_27 .boolean rfl rfl ⟨_, rfl, rfl, rfl, (by first | exact Or.inl ⟨rfl, row_t (by assumption) (by assumption) (by assumption) (by assumption) (by assumption)⟩ | exact Or.inr ⟨rfl, row_f1 (by assumption)⟩ | exact Or.inr ⟨rfl, row_f2 (by assumption)⟩ | exact Or.inr ⟨rfl, row_f3 (by assumption)⟩ | exact Or.inr ⟨rfl, row_f4 (by assumption) (by assumption) (by assumption) (by assumption)⟩)⟩
      · refine z_iload_n (pc := 14) hZ 1 dN_isRow_14 rfl rfl ?_
        refine z_bipush (pc := 15) hZ 32 dN_isRow_15 (by decide) ?_
        refine z_iload_n (pc := 17) hZ 0 dN_isRow_17 rfl rfl ?_
        refine z_isub (pc := 18) hZ dN_isRow_18 (fun v18_4 ev18_4 => ?_)
        refine z_icmp_gt (pc := 19) hZ 26 dN_isRow_19 (by decide) (fun c19_5 => ?_) (fun c19_5 => ?_)
        · refine z_iconst (pc := 26) hZ 0 dN_isRow_26 (by decide) ?_
          exact z_reti (pc := 27) hZ dN_isRow_27 .boolean rfl rfl ⟨_, rfl, rfl, rfl, (by first | exact Or.inl ⟨rfl, row_t (by assumption) (by assumption) (by assumption) (by assumption) (by assumption)⟩ | exact Or.inr ⟨rfl, row_f1 (by assumption)⟩ | exact Or.inr ⟨rfl, row_f2 (by assumption)⟩ | exact Or.inr ⟨rfl, row_f3 (by assumption)⟩ | exact Or.inr ⟨rfl, row_f4 (by assumption) (by assumption) (by assumption) (by assumption)⟩)⟩
        · refine z_iconst (pc := 22) hZ 1 dN_isRow_22 (by decide) ?_
          refine z_goto (pc := 23) hZ 27 dN_isRow_23 (by decide) ?_
          exact z_reti (pc := 27) hZ dN_isRow_27 .boolean rfl rfl ⟨_, rfl, rfl, rfl, (by first | exact Or.inl ⟨rfl, row_t (by assumption) (by assumption) (by assumption) (by assumption) (by assumption)⟩ | exact Or.inr ⟨rfl, row_f1 (by assumption)⟩ | exact Or.inr ⟨rfl, row_f2 (by assumption)⟩ | exact Or.inr ⟨rfl, row_f3 (by assumption)⟩ | exact Or.inr ⟨rfl, row_f4 (by assumption) (by assumption) (by assumption) (by assumption)⟩)⟩
set_option maxHeartbeats 4000000 in
set_option maxRecDepth 100000 in
theorem cN_shiftLeft (l : Launch) (D : va_G) (tys : zT) (w : va_W) (p0 : Int64) (p1 : Int64) : zM l D vwCl zNF zNM yN_shiftLeft wsN_shiftLeft { frames := 0, cells := 0, slots := 0, locals := 0 } [.long p0, .long p1] (w) tys (qL (fun r w' tys' => w = w' ∧ tys = tys' ∧ (r = shS p0 p1))) := by
  refine z_met (cc := bN_shiftLeft) (maxL := 4) (ret := (some .long)) (isI := false) (own := RN) (by decide +kernel) rfl rfl (fun h => by cases h) (Nat.le_of_ble_eq_true rfl) (fun Z hZ => ?_)
  show Z 0 0 tys 0 [(0, .long p0), (2, .long p1)] [] (w)
  refine z_lload_n (pc := 0) hZ 1 dN_shiftLeft_0 rfl rfl ?_
  refine z_ldc2 (pc := 1) hZ (-64) (zb kc_N_159) dN_shiftLeft_1 ?_
  refine z_lif_le (pc := 4) hZ 16 dN_shiftLeft_4 dN_shiftLeft_5 (by decide) (fun c5_1 => ?_) (fun c5_1 => ?_)
  · refine z_lconst (pc := 16) hZ 0 dN_shiftLeft_16 (by decide) ?_
    exact z_retl (pc := 17) hZ dN_shiftLeft_17 rfl ⟨_, rfl, rfl, rfl, (by first | exact sh_0 (Or.inl c5_1) | exact sh_0 (Or.inr (Int64.not_lt.mp nokey_)) | exact sh_l c5_1 nokey_ nokey_ nokey_ nokey_ | exact sh_r c5_1 nokey_ nokey_ nokey_ nokey_ nokey_)⟩
  · refine z_lload_n (pc := 8) hZ 1 dN_shiftLeft_8 rfl rfl ?_
    refine z_ldc2 (pc := 9) hZ 64 (zb kc_N_161) dN_shiftLeft_9 ?_
    refine z_lif_lt (pc := 12) hZ 18 dN_shiftLeft_12 dN_shiftLeft_13 (by decide) (fun c13_2 => ?_) (fun c13_2 => ?_)
    · refine z_lload_n (pc := 18) hZ 1 dN_shiftLeft_18 rfl rfl ?_
      refine z_lconst (pc := 19) hZ 0 dN_shiftLeft_19 (by decide) ?_
      refine z_lif_lt (pc := 20) hZ 31 dN_shiftLeft_20 dN_shiftLeft_21 (by decide) (fun c21_3 => ?_) (fun c21_3 => ?_)
      · refine z_lload_n (pc := 31) hZ 0 dN_shiftLeft_31 rfl rfl ?_
        refine z_lload_n (pc := 32) hZ 1 dN_shiftLeft_32 rfl rfl ?_
        refine z_lneg (pc := 33) hZ dN_shiftLeft_33 (fun v33_4 ev33_4 => ?_)
        refine z_l2i (pc := 34) hZ dN_shiftLeft_34 (fun v34_5 ev34_5 => ?_)
        refine z_lushr (pc := 35) hZ dN_shiftLeft_35 (fun v35_6 ev35_6 => ?_)
        exact z_retl (pc := 36) hZ dN_shiftLeft_36 rfl ⟨_, rfl, rfl, rfl, (by first | exact sh_0 (Or.inl c5_1) | exact sh_0 (Or.inr (Int64.not_lt.mp c13_2)) | exact sh_l c5_1 c13_2 c21_3 nokey_ nokey_ | exact sh_r c5_1 c13_2 c21_3 ev33_4 ev34_5 ev35_6)⟩
      · refine z_lload_n (pc := 24) hZ 0 dN_shiftLeft_24 rfl rfl ?_
        refine z_lload_n (pc := 25) hZ 1 dN_shiftLeft_25 rfl rfl ?_
        refine z_l2i (pc := 26) hZ dN_shiftLeft_26 (fun v26_7 ev26_7 => ?_)
        refine z_lshl (pc := 27) hZ dN_shiftLeft_27 (fun v27_8 ev27_8 => ?_)
        refine z_goto (pc := 28) hZ 36 dN_shiftLeft_28 (by decide) ?_
        exact z_retl (pc := 36) hZ dN_shiftLeft_36 rfl ⟨_, rfl, rfl, rfl, (by first | exact sh_0 (Or.inl c5_1) | exact sh_0 (Or.inr (Int64.not_lt.mp c13_2)) | exact sh_l c5_1 c13_2 c21_3 ev26_7 ev27_8 | exact sh_r c5_1 c13_2 c21_3 nokey_ nokey_ nokey_)⟩
    · refine z_lconst (pc := 16) hZ 0 dN_shiftLeft_16 (by decide) ?_
      exact z_retl (pc := 17) hZ dN_shiftLeft_17 rfl ⟨_, rfl, rfl, rfl, (by first | exact sh_0 (Or.inl c5_1) | exact sh_0 (Or.inr (Int64.not_lt.mp c13_2)) | exact sh_l c5_1 c13_2 nokey_ nokey_ nokey_ | exact sh_r c5_1 c13_2 nokey_ nokey_ nokey_ nokey_)⟩
set_option maxHeartbeats 4000000 in
set_option maxRecDepth 100000 in
theorem cN_whole (l : Launch) (D : va_G) (cR c1 c2 c3 : ClassId) (h0 ra v1 v2 v3 : Nat) (Y : va_W) (LP : List Nat) (f : Nat → V3) (g : Nat → Option Nat) (hH : zH LP v1 v2 v3 g) (p1 : Int32) (p2 : Int64) : zM l D vwCl zNF zNM yN_whole wsN_whole { frames := 1, cells := 0, slots := 0, locals := 22 } [.ref h0, .int p1, .long p2] (CX h0 ra v1 v2 v3 cR g Y ++ PL LP f) (TY cR c1 c2 c3) (qI (fun r w' tys' => ∃ f' : Nat → V3, CX h0 ra v1 v2 v3 cR g Y ++ PL LP f' = w' ∧ (TY cR c1 c2 c3) = tys' ∧ ((((vp_in p1 32) → r = 1) ∧ (¬ (vp_in p1 32) → r = 0)) ∧ (STP f f' v1 v2 v3 g g (vp_in p1 32) (wholeT p1 p2))))) := by
  refine z_met (cc := bN_whole) (maxL := 4) (ret := (some .boolean)) (isI := false) (own := RN) (by decide +kernel) rfl rfl (fun h => by cases h) (Nat.le_of_ble_eq_true rfl) (fun Z hZ => ?_)
  show Z 0 0 (TY cR c1 c2 c3) 0 [(0, .ref h0), (1, .int p1), (2, .long p2)] [] (CX h0 ra v1 v2 v3 cR g Y ++ PL LP f)
  refine z_iload_n (pc := 0) hZ 1 dN_whole_0 rfl rfl ?_
  refine z_callS (pc := 1) (As := [.int p1]) (rest := []) hZ (cN_isRegister l D (TY cR c1 c2 c3) (CX h0 ra v1 v2 v3 cR g Y ++ PL LP f) p1) zyN_isRegister (z_goodS ml_N_26 st_N_isRegister in_N co_N_isRegister) rfl rfl (by decide) rfl rfl (Nat.le_of_ble_eq_true rfl) ⟨Nat.zero_le _, Nat.zero_le _⟩ dN_whole_1 (z_ki (fun r1_1 w1 tys1 hp => ?_))
  obtain ⟨rfl, rfl, p1_1⟩ := hp
  refine z_if_ne (pc := 4) hZ 9 dN_whole_4 (by decide) (fun c4_2 => ?_) (fun c4_2 => ?_)
  · refine z_aload_n (pc := 9) hZ 0 dN_whole_9 rfl rfl ?_
    refine z_get (pc := 10) (ci := 1) hZ 0 rfl rfl uc_N 0 (by decide) (zb fl_N_11) rfl dN_whole_10 ?_
    refine z_iload_n (pc := 13) hZ 1 dN_whole_13 rfl rfl ?_
    obtain ⟨y14_2, hy14_2, gy14_2⟩ := zH_at hH (i := p1) (by first | assumption | exact reg_of (by assumption) (by assumption))
    refine z_aald (pc := 14) hZ 1 0 rfl rfl (by first | assumption | exact reg_of (by assumption) (by assumption)) gy14_2 dN_whole_14 ?_
    refine z_lload_n (pc := 15) hZ 2 dN_whole_15 rfl rfl ?_
    obtain ⟨q16_4, hq16_4⟩ := zp_at (X := CX h0 ra v1 v2 v3 cR g Y) (f := f) hy14_2
    refine z_callVN (pc := 16) (As := [.long p2]) (rest := []) hZ (cV_setWhole l D (TY cR c1 c2 c3) (CX h0 ra v1 v2 v3 cR g Y) LP f y14_2 hy14_2 p2) zyV_setWhole (z_good co_V_setWhole) nl_N_30 (zb in_V) (zb im_V_setWhole) (zb se_V_setWhole) q16_4 hq16_4 rfl rfl rfl (by decide) rfl rfl (Nat.le_of_ble_eq_true rfl) ⟨Nat.zero_le _, Nat.zero_le _⟩ dN_whole_16 (z_kv (fun w1 tys1 hp => ?_))
    obtain ⟨f16_4, rfl, rfl, p16_4⟩ := hp
    refine z_iconst (pc := 19) hZ 1 dN_whole_19 (by decide) ?_
    exact z_reti (pc := 20) hZ dN_whole_20 .boolean rfl rfl ⟨_, rfl, _, rfl, rfl, (by exact ⟨by first | exact ⟨fun _ => rfl, fun q => absurd (reg_of (by assumption) (by assumption)) q⟩ | exact ⟨fun q => absurd q (reg_no (by assumption) (by assumption)), fun _ => rfl⟩, by first | exact stp_n (reg_no p1_1 c4_2) | exact stp_y (reg_of p1_1 c4_2) fun z s hs => RA_set z hs (reg_of p1_1 c4_2) gy14_2 rfl p16_4⟩)⟩
  · refine z_iconst (pc := 7) hZ 0 dN_whole_7 (by decide) ?_
    exact z_reti (pc := 8) hZ dN_whole_8 .boolean rfl rfl ⟨_, rfl, _, rfl, rfl, (by exact ⟨by first | exact ⟨fun _ => rfl, fun q => absurd (reg_of (by assumption) (by assumption)) q⟩ | exact ⟨fun q => absurd q (reg_no (by assumption) (by assumption)), fun _ => rfl⟩, by first | exact stp_n (reg_no p1_1 c4_2) | exact stp_y (reg_of p1_1 c4_2) fun z s hs => RA_set z hs (reg_of p1_1 c4_2) gnokey_ rfl nokey_⟩)⟩
set_option maxHeartbeats 4000000 in
set_option maxRecDepth 100000 in
theorem cN_real (l : Launch) (D : va_G) (cR c1 c2 c3 : ClassId) (h0 ra v1 v2 v3 : Nat) (Y : va_W) (LP : List Nat) (f : Nat → V3) (g : Nat → Option Nat) (hH : zH LP v1 v2 v3 g) (p1 : Int32) (p2 : Int64) (p3 : Int32) : zM l D vwCl zNF zNM yN_real wsN_real { frames := 4, cells := 0, slots := 0, locals := 97 } [.ref h0, .int p1, .long p2, .int p3] (CX h0 ra v1 v2 v3 cR g Y ++ PL LP f) (TY cR c1 c2 c3) (qI (fun r w' tys' => ∃ f' : Nat → V3, CX h0 ra v1 v2 v3 cR g Y ++ PL LP f' = w' ∧ (TY cR c1 c2 c3) = tys' ∧ ((((vp_in p1 32 ∧ ¬ p3 < -1200 ∧ p3 ≤ 1200) → r = 1) ∧ (¬ (vp_in p1 32 ∧ ¬ p3 < -1200 ∧ p3 ≤ 1200) → r = 0)) ∧ (STP f f' v1 v2 v3 g g (vp_in p1 32 ∧ ¬ p3 < -1200 ∧ p3 ≤ 1200) (realT p1 p2 p3))))) := by
  refine z_met (cc := bN_real) (maxL := 5) (ret := (some .boolean)) (isI := false) (own := RN) (by decide +kernel) rfl rfl (fun h => by cases h) (Nat.le_of_ble_eq_true rfl) (fun Z hZ => ?_)
  show Z 0 0 (TY cR c1 c2 c3) 0 [(0, .ref h0), (1, .int p1), (2, .long p2), (4, .int p3)] [] (CX h0 ra v1 v2 v3 cR g Y ++ PL LP f)
  refine z_iload_n (pc := 0) hZ 1 dN_real_0 rfl rfl ?_
  refine z_callS (pc := 1) (As := [.int p1]) (rest := []) hZ (cN_isRegister l D (TY cR c1 c2 c3) (CX h0 ra v1 v2 v3 cR g Y ++ PL LP f) p1) zyN_isRegister (z_goodS ml_N_26 st_N_isRegister in_N co_N_isRegister) rfl rfl (by decide) rfl rfl (Nat.le_of_ble_eq_true rfl) ⟨Nat.zero_le _, Nat.zero_le _⟩ dN_real_1 (z_ki (fun r1_1 w1 tys1 hp => ?_))
  obtain ⟨rfl, rfl, p1_1⟩ := hp
  refine z_if_eq (pc := 4) hZ 23 dN_real_4 (by decide) (fun c4_2 => ?_) (fun c4_2 => ?_)
  · refine z_iconst (pc := 23) hZ 0 dN_real_23 (by decide) ?_
    exact z_reti (pc := 24) hZ dN_real_24 .boolean rfl rfl ⟨_, rfl, _, rfl, rfl, (by exact ⟨by first | exact ⟨fun _ => rfl, fun q => absurd (⟨reg_of (by assumption) (by assumption), (by assumption), (by assumption)⟩) q⟩ | exact ⟨fun q => absurd q.1 (reg_no (by assumption) (by assumption)), fun _ => rfl⟩ | exact ⟨fun q => absurd (by assumption) q.2.1, fun _ => rfl⟩ | exact ⟨fun q => absurd q.2.2 (by assumption), fun _ => rfl⟩, by first | exact stp_n fun q => absurd q.1 (reg_no p1_1 c4_2) | exact stp_n fun q => absurd nokey_ q.2.1 | exact stp_n fun q => absurd q.2.2 nokey_ | exact stp_y ⟨(reg_of p1_1 c4_2), nokey_, nokey_⟩ fun z s hs => RA_put z (RA_u z hs (frm_1 (real_c nokey_ nokey_ nokey_ nokey_ nokey_ nokey_ nokey_))) (reg_of p1_1 c4_2) gnokey_ (UPD_at (real_c nokey_ nokey_ nokey_ nokey_ nokey_ nokey_ nokey_)) nokey_⟩)⟩
  · refine z_iload (pc := 7) hZ 3 dN_real_7 rfl ?_
    refine z_sipush (pc := 9) hZ (-1200) dN_real_9 (by decide) ?_
    refine z_icmp_lt (pc := 12) hZ 23 dN_real_12 (by decide) (fun c12_3 => ?_) (fun c12_3 => ?_)
    · refine z_iconst (pc := 23) hZ 0 dN_real_23 (by decide) ?_
      exact z_reti (pc := 24) hZ dN_real_24 .boolean rfl rfl ⟨_, rfl, _, rfl, rfl, (by exact ⟨by first | exact ⟨fun _ => rfl, fun q => absurd (⟨reg_of (by assumption) (by assumption), (by assumption), (by assumption)⟩) q⟩ | exact ⟨fun q => absurd q.1 (reg_no (by assumption) (by assumption)), fun _ => rfl⟩ | exact ⟨fun q => absurd (by assumption) q.2.1, fun _ => rfl⟩ | exact ⟨fun q => absurd q.2.2 (by assumption), fun _ => rfl⟩, by first | exact stp_n fun q => absurd q.1 (reg_no p1_1 c4_2) | exact stp_n fun q => absurd c12_3 q.2.1 | exact stp_n fun q => absurd q.2.2 nokey_ | exact stp_y ⟨(reg_of p1_1 c4_2), c12_3, nokey_⟩ fun z s hs => RA_put z (RA_u z hs (frm_1 (real_c nokey_ nokey_ nokey_ c12_3 nokey_ nokey_ nokey_))) (reg_of p1_1 c4_2) gnokey_ (UPD_at (real_c nokey_ nokey_ nokey_ c12_3 nokey_ nokey_ nokey_)) nokey_⟩)⟩
    · refine z_iload (pc := 15) hZ 3 dN_real_15 rfl ?_
      refine z_sipush (pc := 17) hZ 1200 dN_real_17 (by decide) ?_
      refine z_icmp_le (pc := 20) hZ 25 dN_real_20 (by decide) (fun c20_4 => ?_) (fun c20_4 => ?_)
      · refine z_aload_n (pc := 25) hZ 0 dN_real_25 rfl rfl ?_
        refine z_get (pc := 26) (ci := 1) hZ 0 rfl rfl uc_N 1 (by decide) (zb fl_N_16) rfl dN_real_26 ?_
        refine z_lload_n (pc := 29) hZ 2 dN_real_29 rfl rfl ?_
        refine z_iconst (pc := 30) hZ 0 dN_real_30 (by decide) ?_
        obtain ⟨q31_5, hq31_5⟩ := zp_at (X := CX h0 ra v1 v2 v3 cR g Y) (f := f) hH.1
        refine z_callVN (pc := 31) (As := [.long p2, .int 0]) (rest := []) hZ (cV_setReal l D (TY cR c1 c2 c3) (CX h0 ra v1 v2 v3 cR g Y) LP f v1 hH.1 p2 0) zyV_setReal (z_good co_V_setReal) nl_N_34 (zb in_V) (zb im_V_setReal) (zb se_V_setReal) q31_5 hq31_5 rfl rfl rfl (by decide) rfl rfl (Nat.le_of_ble_eq_true rfl) ⟨Nat.zero_le _, Nat.zero_le _⟩ dN_real_31 (z_kv (fun w1 tys1 hp => ?_))
        obtain ⟨f31_5, rfl, rfl, p31_5⟩ := hp
        refine z_aload_n (pc := 34) hZ 0 dN_real_34 rfl rfl ?_
        refine z_get (pc := 35) (ci := 1) hZ 0 rfl rfl uc_N 1 (by decide) (zb fl_N_16) rfl dN_real_35 ?_
        refine z_aload_n (pc := 38) hZ 0 dN_real_38 rfl rfl ?_
        refine z_get (pc := 39) (ci := 1) hZ 0 rfl rfl uc_N 1 (by decide) (zb fl_N_16) rfl dN_real_39 ?_
        refine z_pg1N (pc := 42) hZ hH.1 uc_V nf_N_38 dN_real_42 (fun v42_6 ev42_6 => ?_)
        refine z_aload_n (pc := 45) hZ 0 dN_real_45 rfl rfl ?_
        refine z_get (pc := 46) (ci := 1) hZ 0 rfl rfl uc_N 1 (by decide) (zb fl_N_16) rfl dN_real_46 ?_
        refine z_pg2N (pc := 49) hZ hH.1 uc_V nf_N_42 dN_real_49 (fun v49_7 ev49_7 => ?_)
        refine z_iload (pc := 52) hZ 3 dN_real_52 rfl ?_
        refine z_iadd (pc := 54) hZ dN_real_54 (fun v54_8 ev54_8 => ?_)
        obtain ⟨q55_9, hq55_9⟩ := zp_at (X := CX h0 ra v1 v2 v3 cR g Y) (f := f31_5) hH.1
        refine z_callVN (pc := 55) (As := [.long v42_6, .int v54_8]) (rest := []) hZ (cV_setReal l D (TY cR c1 c2 c3) (CX h0 ra v1 v2 v3 cR g Y) LP f31_5 v1 hH.1 v42_6 v54_8) zyV_setReal (z_good co_V_setReal) nl_N_34 (zb in_V) (zb im_V_setReal) (zb se_V_setReal) q55_9 hq55_9 rfl rfl rfl (by decide) rfl rfl (Nat.le_of_ble_eq_true rfl) ⟨Nat.zero_le _, Nat.zero_le _⟩ dN_real_55 (z_kv (fun w1 tys1 hp => ?_))
        obtain ⟨f55_9, rfl, rfl, p55_9⟩ := hp
        refine z_aload_n (pc := 58) hZ 0 dN_real_58 rfl rfl ?_
        refine z_get (pc := 59) (ci := 1) hZ 0 rfl rfl uc_N 0 (by decide) (zb fl_N_11) rfl dN_real_59 ?_
        refine z_iload_n (pc := 62) hZ 1 dN_real_62 rfl rfl ?_
        obtain ⟨y63_9, hy63_9, gy63_9⟩ := zH_at hH (i := p1) (by first | assumption | exact reg_of (by assumption) (by assumption))
        refine z_aald (pc := 63) hZ 1 0 rfl rfl (by first | assumption | exact reg_of (by assumption) (by assumption)) gy63_9 dN_real_63 ?_
        refine z_aload_n (pc := 64) hZ 0 dN_real_64 rfl rfl ?_
        refine z_get (pc := 65) (ci := 1) hZ 0 rfl rfl uc_N 1 (by decide) (zb fl_N_16) rfl dN_real_65 ?_
        obtain ⟨q68_11, hq68_11⟩ := zp_at (X := CX h0 ra v1 v2 v3 cR g Y) (f := f55_9) hy63_9
        refine z_callVN (pc := 68) (As := [.ref v1]) (rest := []) hZ (cV_become l D (TY cR c1 c2 c3) (CX h0 ra v1 v2 v3 cR g Y) LP f55_9 y63_9 hy63_9 v1 hH.1) zyV_become (z_good co_V_become) nl_N_46 (zb in_V) (zb im_V_become) (zb se_V_become) q68_11 hq68_11 rfl rfl rfl (by decide) rfl rfl (Nat.le_of_ble_eq_true rfl) ⟨Nat.zero_le _, Nat.zero_le _⟩ dN_real_68 (z_kv (fun w1 tys1 hp => ?_))
        obtain ⟨f68_11, rfl, rfl, p68_11⟩ := hp
        refine z_iconst (pc := 71) hZ 1 dN_real_71 (by decide) ?_
        exact z_reti (pc := 72) hZ dN_real_72 .boolean rfl rfl ⟨_, rfl, _, rfl, rfl, (by exact ⟨by first | exact ⟨fun _ => rfl, fun q => absurd (⟨reg_of (by assumption) (by assumption), (by assumption), (by assumption)⟩) q⟩ | exact ⟨fun q => absurd q.1 (reg_no (by assumption) (by assumption)), fun _ => rfl⟩ | exact ⟨fun q => absurd (by assumption) q.2.1, fun _ => rfl⟩ | exact ⟨fun q => absurd q.2.2 (by assumption), fun _ => rfl⟩, by first | exact stp_n fun q => absurd q.1 (reg_no p1_1 c4_2) | exact stp_n fun q => absurd c12_3 q.2.1 | exact stp_n fun q => absurd q.2.2 c20_4 | exact stp_y ⟨(reg_of p1_1 c4_2), c12_3, c20_4⟩ fun z s hs => RA_put z (RA_u z hs (frm_1 (real_c p31_5 ev42_6 ev49_7 c12_3 c20_4 ev54_8 p55_9))) (reg_of p1_1 c4_2) gy63_9 (UPD_at (real_c p31_5 ev42_6 ev49_7 c12_3 c20_4 ev54_8 p55_9)) p68_11⟩)⟩
      · refine z_iconst (pc := 23) hZ 0 dN_real_23 (by decide) ?_
        exact z_reti (pc := 24) hZ dN_real_24 .boolean rfl rfl ⟨_, rfl, _, rfl, rfl, (by exact ⟨by first | exact ⟨fun _ => rfl, fun q => absurd (⟨reg_of (by assumption) (by assumption), (by assumption), (by assumption)⟩) q⟩ | exact ⟨fun q => absurd q.1 (reg_no (by assumption) (by assumption)), fun _ => rfl⟩ | exact ⟨fun q => absurd (by assumption) q.2.1, fun _ => rfl⟩ | exact ⟨fun q => absurd q.2.2 (by assumption), fun _ => rfl⟩, by first | exact stp_n fun q => absurd q.1 (reg_no p1_1 c4_2) | exact stp_n fun q => absurd c12_3 q.2.1 | exact stp_n fun q => absurd q.2.2 c20_4 | exact stp_y ⟨(reg_of p1_1 c4_2), c12_3, c20_4⟩ fun z s hs => RA_put z (RA_u z hs (frm_1 (real_c nokey_ nokey_ nokey_ c12_3 c20_4 nokey_ nokey_))) (reg_of p1_1 c4_2) gnokey_ (UPD_at (real_c nokey_ nokey_ nokey_ c12_3 c20_4 nokey_ nokey_)) nokey_⟩)⟩
set_option maxHeartbeats 4000000 in
set_option maxRecDepth 100000 in
theorem cN_special (l : Launch) (D : va_G) (cR c1 c2 c3 : ClassId) (h0 ra v1 v2 v3 : Nat) (Y : va_W) (LP : List Nat) (f : Nat → V3) (g : Nat → Option Nat) (hH : zH LP v1 v2 v3 g) (p1 : Int32) (p2 : Int32) : zM l D vwCl zNF zNM yN_special wsN_special { frames := 1, cells := 0, slots := 0, locals := 21 } [.ref h0, .int p1, .int p2] (CX h0 ra v1 v2 v3 cR g Y ++ PL LP f) (TY cR c1 c2 c3) (qI (fun r w' tys' => ∃ f' : Nat → V3, CX h0 ra v1 v2 v3 cR g Y ++ PL LP f' = w' ∧ (TY cR c1 c2 c3) = tys' ∧ ((((vp_in p1 32 ∧ ¬ p2 < 3 ∧ p2 ≤ 5) → r = 1) ∧ (¬ (vp_in p1 32 ∧ ¬ p2 < 3 ∧ p2 ≤ 5) → r = 0)) ∧ (STP f f' v1 v2 v3 g g (vp_in p1 32 ∧ ¬ p2 < 3 ∧ p2 ≤ 5) (specT p1 p2))))) := by
  refine z_met (cc := bN_special) (maxL := 3) (ret := (some .boolean)) (isI := false) (own := RN) (by decide +kernel) rfl rfl (fun h => by cases h) (Nat.le_of_ble_eq_true rfl) (fun Z hZ => ?_)
  show Z 0 0 (TY cR c1 c2 c3) 0 [(0, .ref h0), (1, .int p1), (2, .int p2)] [] (CX h0 ra v1 v2 v3 cR g Y ++ PL LP f)
  refine z_iload_n (pc := 0) hZ 1 dN_special_0 rfl rfl ?_
  refine z_callS (pc := 1) (As := [.int p1]) (rest := []) hZ (cN_isRegister l D (TY cR c1 c2 c3) (CX h0 ra v1 v2 v3 cR g Y ++ PL LP f) p1) zyN_isRegister (z_goodS ml_N_26 st_N_isRegister in_N co_N_isRegister) rfl rfl (by decide) rfl rfl (Nat.le_of_ble_eq_true rfl) ⟨Nat.zero_le _, Nat.zero_le _⟩ dN_special_1 (z_ki (fun r1_1 w1 tys1 hp => ?_))
  obtain ⟨rfl, rfl, p1_1⟩ := hp
  refine z_if_eq (pc := 4) hZ 17 dN_special_4 (by decide) (fun c4_2 => ?_) (fun c4_2 => ?_)
  · refine z_iconst (pc := 17) hZ 0 dN_special_17 (by decide) ?_
    exact z_reti (pc := 18) hZ dN_special_18 .boolean rfl rfl ⟨_, rfl, _, rfl, rfl, (by exact ⟨by first | exact ⟨fun _ => rfl, fun q => absurd (⟨reg_of (by assumption) (by assumption), (by assumption), (by assumption)⟩) q⟩ | exact ⟨fun q => absurd q.1 (reg_no (by assumption) (by assumption)), fun _ => rfl⟩ | exact ⟨fun q => absurd (by assumption) q.2.1, fun _ => rfl⟩ | exact ⟨fun q => absurd q.2.2 (by assumption), fun _ => rfl⟩, by first | exact stp_n fun q => absurd q.1 (reg_no p1_1 c4_2) | exact stp_n fun q => absurd nokey_ q.2.1 | exact stp_n fun q => absurd q.2.2 nokey_ | exact stp_y ⟨(reg_of p1_1 c4_2), nokey_, nokey_⟩ fun z s hs => RA_set z hs (reg_of p1_1 c4_2) gnokey_ (sp_c nokey_ nokey_) nokey_⟩)⟩
  · refine z_iload_n (pc := 7) hZ 2 dN_special_7 rfl rfl ?_
    refine z_iconst (pc := 8) hZ 3 dN_special_8 (by decide) ?_
    refine z_icmp_lt (pc := 9) hZ 17 dN_special_9 (by decide) (fun c9_3 => ?_) (fun c9_3 => ?_)
    · refine z_iconst (pc := 17) hZ 0 dN_special_17 (by decide) ?_
      exact z_reti (pc := 18) hZ dN_special_18 .boolean rfl rfl ⟨_, rfl, _, rfl, rfl, (by exact ⟨by first | exact ⟨fun _ => rfl, fun q => absurd (⟨reg_of (by assumption) (by assumption), (by assumption), (by assumption)⟩) q⟩ | exact ⟨fun q => absurd q.1 (reg_no (by assumption) (by assumption)), fun _ => rfl⟩ | exact ⟨fun q => absurd (by assumption) q.2.1, fun _ => rfl⟩ | exact ⟨fun q => absurd q.2.2 (by assumption), fun _ => rfl⟩, by first | exact stp_n fun q => absurd q.1 (reg_no p1_1 c4_2) | exact stp_n fun q => absurd c9_3 q.2.1 | exact stp_n fun q => absurd q.2.2 nokey_ | exact stp_y ⟨(reg_of p1_1 c4_2), c9_3, nokey_⟩ fun z s hs => RA_set z hs (reg_of p1_1 c4_2) gnokey_ (sp_c c9_3 nokey_) nokey_⟩)⟩
    · refine z_iload_n (pc := 12) hZ 2 dN_special_12 rfl rfl ?_
      refine z_iconst (pc := 13) hZ 5 dN_special_13 (by decide) ?_
      refine z_icmp_le (pc := 14) hZ 19 dN_special_14 (by decide) (fun c14_4 => ?_) (fun c14_4 => ?_)
      · refine z_aload_n (pc := 19) hZ 0 dN_special_19 rfl rfl ?_
        refine z_get (pc := 20) (ci := 1) hZ 0 rfl rfl uc_N 0 (by decide) (zb fl_N_11) rfl dN_special_20 ?_
        refine z_iload_n (pc := 23) hZ 1 dN_special_23 rfl rfl ?_
        obtain ⟨y24_4, hy24_4, gy24_4⟩ := zH_at hH (i := p1) (by first | assumption | exact reg_of (by assumption) (by assumption))
        refine z_aald (pc := 24) hZ 1 0 rfl rfl (by first | assumption | exact reg_of (by assumption) (by assumption)) gy24_4 dN_special_24 ?_
        refine z_iload_n (pc := 25) hZ 2 dN_special_25 rfl rfl ?_
        obtain ⟨q26_6, hq26_6⟩ := zp_at (X := CX h0 ra v1 v2 v3 cR g Y) (f := f) hy24_4
        refine z_callVN (pc := 26) (As := [.int p2]) (rest := []) hZ (cV_setSpecial l D (TY cR c1 c2 c3) (CX h0 ra v1 v2 v3 cR g Y) LP f y24_4 hy24_4 p2) zyV_setSpecial (z_good co_V_setSpecial) nl_N_50 (zb in_V) (zb im_V_setSpecial) (zb se_V_setSpecial) q26_6 hq26_6 rfl rfl rfl (by decide) rfl rfl (Nat.le_of_ble_eq_true rfl) ⟨Nat.zero_le _, Nat.zero_le _⟩ dN_special_26 (z_kv (fun w1 tys1 hp => ?_))
        obtain ⟨f26_6, rfl, rfl, p26_6⟩ := hp
        refine z_iconst (pc := 29) hZ 1 dN_special_29 (by decide) ?_
        exact z_reti (pc := 30) hZ dN_special_30 .boolean rfl rfl ⟨_, rfl, _, rfl, rfl, (by exact ⟨by first | exact ⟨fun _ => rfl, fun q => absurd (⟨reg_of (by assumption) (by assumption), (by assumption), (by assumption)⟩) q⟩ | exact ⟨fun q => absurd q.1 (reg_no (by assumption) (by assumption)), fun _ => rfl⟩ | exact ⟨fun q => absurd (by assumption) q.2.1, fun _ => rfl⟩ | exact ⟨fun q => absurd q.2.2 (by assumption), fun _ => rfl⟩, by first | exact stp_n fun q => absurd q.1 (reg_no p1_1 c4_2) | exact stp_n fun q => absurd c9_3 q.2.1 | exact stp_n fun q => absurd q.2.2 c14_4 | exact stp_y ⟨(reg_of p1_1 c4_2), c9_3, c14_4⟩ fun z s hs => RA_set z hs (reg_of p1_1 c4_2) gy24_4 (sp_c c9_3 c14_4) p26_6⟩)⟩
      · refine z_iconst (pc := 17) hZ 0 dN_special_17 (by decide) ?_
        exact z_reti (pc := 18) hZ dN_special_18 .boolean rfl rfl ⟨_, rfl, _, rfl, rfl, (by exact ⟨by first | exact ⟨fun _ => rfl, fun q => absurd (⟨reg_of (by assumption) (by assumption), (by assumption), (by assumption)⟩) q⟩ | exact ⟨fun q => absurd q.1 (reg_no (by assumption) (by assumption)), fun _ => rfl⟩ | exact ⟨fun q => absurd (by assumption) q.2.1, fun _ => rfl⟩ | exact ⟨fun q => absurd q.2.2 (by assumption), fun _ => rfl⟩, by first | exact stp_n fun q => absurd q.1 (reg_no p1_1 c4_2) | exact stp_n fun q => absurd c9_3 q.2.1 | exact stp_n fun q => absurd q.2.2 c14_4 | exact stp_y ⟨(reg_of p1_1 c4_2), c9_3, c14_4⟩ fun z s hs => RA_set z hs (reg_of p1_1 c4_2) gnokey_ (sp_c c9_3 c14_4) nokey_⟩)⟩
set_option maxHeartbeats 4000000 in
set_option maxRecDepth 100000 in
theorem cN_areWhole (l : Launch) (D : va_G) (cR c1 c2 c3 : ClassId) (h0 ra v1 v2 v3 : Nat) (Y : va_W) (LP : List Nat) (f : Nat → V3) (g : Nat → Option Nat) (hH : zH LP v1 v2 v3 g)  : zM l D vwCl zNF zNM yN_areWhole wsN_areWhole { frames := 0, cells := 0, slots := 0, locals := 0 } [.ref h0] (CX h0 ra v1 v2 v3 cR g Y ++ PL LP f) (TY cR c1 c2 c3) (qI (fun r w' tys' => CX h0 ra v1 v2 v3 cR g Y ++ PL LP f = w' ∧ (TY cR c1 c2 c3) = tys' ∧ (ARW r (f v1) (f v2)))) := by
  refine z_met (cc := bN_areWhole) (maxL := 1) (ret := (some .boolean)) (isI := false) (own := RN) (by decide +kernel) rfl rfl (fun h => by cases h) (Nat.le_of_ble_eq_true rfl) (fun Z hZ => ?_)
  show Z 0 0 (TY cR c1 c2 c3) 0 [(0, .ref h0)] [] (CX h0 ra v1 v2 v3 cR g Y ++ PL LP f)
  refine z_aload_n (pc := 0) hZ 0 dN_areWhole_0 rfl rfl ?_
  refine z_get (pc := 1) (ci := 1) hZ 0 rfl rfl uc_N 1 (by decide) (zb fl_N_16) rfl dN_areWhole_1 ?_
  refine z_pg0N (pc := 4) hZ hH.1 uc_V nf_N_71 dN_areWhole_4 (fun v4_1 ev4_1 => ?_)
  refine z_iconst (pc := 7) hZ 1 dN_areWhole_7 (by decide) ?_
  refine z_icmp_ne (pc := 8) hZ 26 dN_areWhole_8 (by decide) (fun c8_2 => ?_) (fun c8_2 => ?_)
  · refine z_iconst (pc := 26) hZ 0 dN_areWhole_26 (by decide) ?_
    exact z_reti (pc := 27) hZ dN_areWhole_27 .boolean rfl rfl ⟨_, rfl, rfl, rfl, (by first | exact ar_1 ev4_1 c8_2 nokey_ nokey_ | exact ar_2 ev4_1 c8_2 | exact ar_3 nokey_ nokey_)⟩
  · refine z_aload_n (pc := 11) hZ 0 dN_areWhole_11 rfl rfl ?_
    refine z_get (pc := 12) (ci := 1) hZ 0 rfl rfl uc_N 2 (by decide) (zb fl_N_20) rfl dN_areWhole_12 ?_
    refine z_pg0N (pc := 15) hZ hH.2.1 uc_V nf_N_71 dN_areWhole_15 (fun v15_3 ev15_3 => ?_)
    refine z_iconst (pc := 18) hZ 1 dN_areWhole_18 (by decide) ?_
    refine z_icmp_ne (pc := 19) hZ 26 dN_areWhole_19 (by decide) (fun c19_4 => ?_) (fun c19_4 => ?_)
    · refine z_iconst (pc := 26) hZ 0 dN_areWhole_26 (by decide) ?_
      exact z_reti (pc := 27) hZ dN_areWhole_27 .boolean rfl rfl ⟨_, rfl, rfl, rfl, (by first | exact ar_1 ev4_1 c8_2 ev15_3 c19_4 | exact ar_2 ev4_1 c8_2 | exact ar_3 ev15_3 c19_4)⟩
    · refine z_iconst (pc := 22) hZ 1 dN_areWhole_22 (by decide) ?_
      refine z_goto (pc := 23) hZ 27 dN_areWhole_23 (by decide) ?_
      exact z_reti (pc := 27) hZ dN_areWhole_27 .boolean rfl rfl ⟨_, rfl, rfl, rfl, (by first | exact ar_1 ev4_1 c8_2 ev15_3 c19_4 | exact ar_2 ev4_1 c8_2 | exact ar_3 ev15_3 c19_4)⟩
set_option maxHeartbeats 4000000 in
set_option maxRecDepth 100000 in
theorem cN_makeReals (l : Launch) (D : va_G) (cR c1 c2 c3 : ClassId) (h0 ra v1 v2 v3 : Nat) (Y : va_W) (LP : List Nat) (f : Nat → V3) (g : Nat → Option Nat) (hH : zH LP v1 v2 v3 g)  : zM l D vwCl zNF zNM yN_makeReals wsN_makeReals { frames := 4, cells := 0, slots := 0, locals := 94 } [.ref h0] (CX h0 ra v1 v2 v3 cR g Y ++ PL LP f) (TY cR c1 c2 c3) (qV (fun w' tys' => ∃ f' : Nat → V3, CX h0 ra v1 v2 v3 cR g Y ++ PL LP f' = w' ∧ (TY cR c1 c2 c3) = tys' ∧ (zV v1 v2 v3 → ∀ a b, CA (f v1) a → CA (f v2) b → CA (f' v1) (turn a) ∧ CA (f' v2) (turn b) ∧ FRM f f' v1 v2 v3))) := by
  refine z_met (cc := bN_makeReals) (maxL := 1) (ret := none) (isI := false) (own := RN) (by decide +kernel) rfl rfl (fun h => by cases h) (Nat.le_of_ble_eq_true rfl) (fun Z hZ => ?_)
  show Z 0 0 (TY cR c1 c2 c3) 0 [(0, .ref h0)] [] (CX h0 ra v1 v2 v3 cR g Y ++ PL LP f)
  refine z_aload_n (pc := 0) hZ 0 dN_makeReals_0 rfl rfl ?_
  refine z_get (pc := 1) (ci := 1) hZ 0 rfl rfl uc_N 1 (by decide) (zb fl_N_16) rfl dN_makeReals_1 ?_
  obtain ⟨q4_1, hq4_1⟩ := zp_at (X := CX h0 ra v1 v2 v3 cR g Y) (f := f) hH.1
  refine z_callVN (pc := 4) (As := []) (rest := []) hZ (cV_turnReal l D (TY cR c1 c2 c3) (CX h0 ra v1 v2 v3 cR g Y) LP f v1 hH.1) zyV_turnReal (z_good co_V_turnReal) nl_N_92 (zb in_V) (zb im_V_turnReal) (zb se_V_turnReal) q4_1 hq4_1 rfl rfl rfl (by decide) rfl rfl (Nat.le_of_ble_eq_true rfl) ⟨Nat.zero_le _, Nat.zero_le _⟩ dN_makeReals_4 (z_kv (fun w1 tys1 hp => ?_))
  obtain ⟨f4_1, rfl, rfl, p4_1⟩ := hp
  refine z_aload_n (pc := 7) hZ 0 dN_makeReals_7 rfl rfl ?_
  refine z_get (pc := 8) (ci := 1) hZ 0 rfl rfl uc_N 2 (by decide) (zb fl_N_20) rfl dN_makeReals_8 ?_
  obtain ⟨q11_2, hq11_2⟩ := zp_at (X := CX h0 ra v1 v2 v3 cR g Y) (f := f4_1) hH.2.1
  refine z_callVN (pc := 11) (As := []) (rest := []) hZ (cV_turnReal l D (TY cR c1 c2 c3) (CX h0 ra v1 v2 v3 cR g Y) LP f4_1 v2 hH.2.1) zyV_turnReal (z_good co_V_turnReal) nl_N_92 (zb in_V) (zb im_V_turnReal) (zb se_V_turnReal) q11_2 hq11_2 rfl rfl rfl (by decide) rfl rfl (Nat.le_of_ble_eq_true rfl) ⟨Nat.zero_le _, Nat.zero_le _⟩ dN_makeReals_11 (z_kv (fun w1 tys1 hp => ?_))
  obtain ⟨f11_2, rfl, rfl, p11_2⟩ := hp
  exact z_retv (pc := 14) hZ dN_makeReals_14 rfl ⟨rfl, _, rfl, rfl, (by exact mr_e p4_1 p11_2)⟩
set_option maxHeartbeats 4000000 in
set_option maxRecDepth 100000 in
theorem cN_addOrMultiply (l : Launch) (D : va_G) (cR c1 c2 c3 : ClassId) (h0 ra v1 v2 v3 : Nat) (Y : va_W) (LP : List Nat) (f : Nat → V3) (g : Nat → Option Nat) (hH : zH LP v1 v2 v3 g) (p1 : Int32) : zM l D vwCl zNF zNM yN_addOrMultiply wsN_addOrMultiply { frames := 5, cells := 0, slots := 0, locals := 137 } [.ref h0, .int p1] (CX h0 ra v1 v2 v3 cR g Y ++ PL LP f) (TY cR c1 c2 c3) (qI (fun r w' tys' => ∃ f' : Nat → V3, CX h0 ra v1 v2 v3 cR g Y ++ PL LP f' = w' ∧ (TY cR c1 c2 c3) = tys' ∧ (r = 0 ∧ (zV v1 v2 v3 → ∀ a b, CA (f v1) a → CA (f v2) b → CA (f' v1) (addA p1 a b) ∧ FRM f f' v1 v2 v3)))) := by
  refine z_met (cc := bN_addOrMultiply) (maxL := 6) (ret := (some .int)) (isI := false) (own := RN) (by decide +kernel) rfl rfl (fun h => by cases h) (Nat.le_of_ble_eq_true rfl) (fun Z hZ => ?_)
  show Z 0 0 (TY cR c1 c2 c3) 0 [(0, .ref h0), (1, .int p1)] [] (CX h0 ra v1 v2 v3 cR g Y ++ PL LP f)
  refine z_aload_n (pc := 0) hZ 0 dN_addOrMultiply_0 rfl rfl ?_
  refine z_callV (pc := 1) (As := []) (rest := []) hZ (cN_areWhole l D cR c1 c2 c3 h0 ra v1 v2 v3 Y LP f g hH ) zyN_areWhole (z_goodV ml_N_95 im_N_areWhole se_N_areWhole in_N co_N_areWhole) 0 rfl rfl rfl rfl (by decide) rfl rfl (Nat.le_of_ble_eq_true rfl) ⟨Nat.zero_le _, Nat.zero_le _⟩ dN_addOrMultiply_1 (z_ki (fun r1_1 w1 tys1 hp => ?_))
  obtain ⟨rfl, rfl, p1_1⟩ := hp
  refine z_if_eq (pc := 4) hZ 60 dN_addOrMultiply_4 (by decide) (fun c4_2 => ?_) (fun c4_2 => ?_)
  · refine z_aload_n (pc := 60) hZ 0 dN_addOrMultiply_60 rfl rfl ?_
    refine z_callV (pc := 61) (As := []) (rest := []) hZ (cN_makeReals l D cR c1 c2 c3 h0 ra v1 v2 v3 Y LP f g hH ) zyN_makeReals (z_goodV ml_N_99 im_N_makeReals se_N_makeReals in_N co_N_makeReals) 0 rfl rfl rfl rfl (by decide) rfl rfl (Nat.le_of_ble_eq_true rfl) ⟨Nat.zero_le _, Nat.zero_le _⟩ dN_addOrMultiply_61 (z_kv (fun w1 tys1 hp => ?_))
    obtain ⟨f61_3, rfl, rfl, p61_3⟩ := hp
    refine z_iload_n (pc := 64) hZ 1 dN_addOrMultiply_64 rfl rfl ?_
    refine z_iconst (pc := 65) hZ 2 dN_addOrMultiply_65 (by decide) ?_
    refine z_icmp_ne (pc := 66) hZ 82 dN_addOrMultiply_66 (by decide) (fun c66_4 => ?_) (fun c66_4 => ?_)
    · refine z_iload_n (pc := 82) hZ 1 dN_addOrMultiply_82 rfl rfl ?_
      refine z_iconst (pc := 83) hZ 1 dN_addOrMultiply_83 (by decide) ?_
      refine z_icmp_ne (pc := 84) hZ 94 dN_addOrMultiply_84 (by decide) (fun c84_5 => ?_) (fun c84_5 => ?_)
      · refine z_aload_n (pc := 94) hZ 0 dN_addOrMultiply_94 rfl rfl ?_
        refine z_get (pc := 95) (ci := 1) hZ 0 rfl rfl uc_N 1 (by decide) (zb fl_N_16) rfl dN_addOrMultiply_95 ?_
        refine z_aload_n (pc := 98) hZ 0 dN_addOrMultiply_98 rfl rfl ?_
        refine z_get (pc := 99) (ci := 1) hZ 0 rfl rfl uc_N 2 (by decide) (zb fl_N_20) rfl dN_addOrMultiply_99 ?_
        refine z_callSN (pc := 102) (As := [.ref v1, .ref v2]) (rest := []) hZ (cR_add l D (TY cR c1 c2 c3) (CX h0 ra v1 v2 v3 cR g Y) LP f61_3 v1 hH.1 v2 hH.2.1) zyR_add (z_good co_R_add) nl_N_111 (zb in_R) (zb st_R_add) rfl rfl (by decide) rfl rfl (Nat.le_of_ble_eq_true rfl) ⟨Nat.zero_le _, Nat.zero_le _⟩ dN_addOrMultiply_102 (z_kv (fun w1 tys1 hp => ?_))
        obtain ⟨f102_6, rfl, rfl, p102_6⟩ := hp
        refine z_iconst (pc := 105) hZ 0 dN_addOrMultiply_105 (by decide) ?_
        exact z_reti (pc := 106) hZ dN_addOrMultiply_106 .int rfl rfl ⟨_, rfl, _, rfl, rfl, (by first | exact ⟨rfl, am_w p1_1 c4_2 nokey_ nokey_ (Or.inl ⟨nokey_, nokey_⟩) nokey_⟩ | exact ⟨rfl, am_w p1_1 c4_2 nokey_ nokey_ (Or.inr (Or.inl ⟨nokey_, nokey_, nokey_⟩)) nokey_⟩ | exact ⟨rfl, am_w p1_1 c4_2 nokey_ nokey_ (Or.inr (Or.inr ⟨nokey_, nokey_, nokey_⟩)) nokey_⟩ | exact ⟨rfl, am_r p1_1 c4_2 p61_3 c66_4 nokey_⟩ | exact ⟨rfl, am_s p1_1 c4_2 p61_3 c66_4 c84_5 nokey_ p102_6⟩ | exact ⟨rfl, am_a p1_1 c4_2 p61_3 c66_4 c84_5 p102_6⟩)⟩
      · refine z_aload_n (pc := 87) hZ 0 dN_addOrMultiply_87 rfl rfl ?_
        refine z_get (pc := 88) (ci := 1) hZ 0 rfl rfl uc_N 2 (by decide) (zb fl_N_20) rfl dN_addOrMultiply_88 ?_
        obtain ⟨q91_7, hq91_7⟩ := zp_at (X := CX h0 ra v1 v2 v3 cR g Y) (f := f61_3) hH.2.1
        refine z_callVN (pc := 91) (As := []) (rest := []) hZ (cV_negate l D (TY cR c1 c2 c3) (CX h0 ra v1 v2 v3 cR g Y) LP f61_3 v2 hH.2.1) zyV_negate (z_good co_V_negate) nl_N_108 (zb in_V) (zb im_V_negate) (zb se_V_negate) q91_7 hq91_7 rfl rfl rfl (by decide) rfl rfl (Nat.le_of_ble_eq_true rfl) ⟨Nat.zero_le _, Nat.zero_le _⟩ dN_addOrMultiply_91 (z_kv (fun w1 tys1 hp => ?_))
        obtain ⟨f91_7, rfl, rfl, p91_7⟩ := hp
        refine z_aload_n (pc := 94) hZ 0 dN_addOrMultiply_94 rfl rfl ?_
        refine z_get (pc := 95) (ci := 1) hZ 0 rfl rfl uc_N 1 (by decide) (zb fl_N_16) rfl dN_addOrMultiply_95 ?_
        refine z_aload_n (pc := 98) hZ 0 dN_addOrMultiply_98 rfl rfl ?_
        refine z_get (pc := 99) (ci := 1) hZ 0 rfl rfl uc_N 2 (by decide) (zb fl_N_20) rfl dN_addOrMultiply_99 ?_
        refine z_callSN (pc := 102) (As := [.ref v1, .ref v2]) (rest := []) hZ (cR_add l D (TY cR c1 c2 c3) (CX h0 ra v1 v2 v3 cR g Y) LP f91_7 v1 hH.1 v2 hH.2.1) zyR_add (z_good co_R_add) nl_N_111 (zb in_R) (zb st_R_add) rfl rfl (by decide) rfl rfl (Nat.le_of_ble_eq_true rfl) ⟨Nat.zero_le _, Nat.zero_le _⟩ dN_addOrMultiply_102 (z_kv (fun w1 tys1 hp => ?_))
        obtain ⟨f102_8, rfl, rfl, p102_8⟩ := hp
        refine z_iconst (pc := 105) hZ 0 dN_addOrMultiply_105 (by decide) ?_
        exact z_reti (pc := 106) hZ dN_addOrMultiply_106 .int rfl rfl ⟨_, rfl, _, rfl, rfl, (by first | exact ⟨rfl, am_w p1_1 c4_2 nokey_ nokey_ (Or.inl ⟨nokey_, nokey_⟩) nokey_⟩ | exact ⟨rfl, am_w p1_1 c4_2 nokey_ nokey_ (Or.inr (Or.inl ⟨nokey_, nokey_, nokey_⟩)) nokey_⟩ | exact ⟨rfl, am_w p1_1 c4_2 nokey_ nokey_ (Or.inr (Or.inr ⟨nokey_, nokey_, nokey_⟩)) nokey_⟩ | exact ⟨rfl, am_r p1_1 c4_2 p61_3 c66_4 nokey_⟩ | exact ⟨rfl, am_s p1_1 c4_2 p61_3 c66_4 c84_5 p91_7 p102_8⟩ | exact ⟨rfl, am_a p1_1 c4_2 p61_3 c66_4 c84_5 p102_8⟩)⟩
    · refine z_aload_n (pc := 69) hZ 0 dN_addOrMultiply_69 rfl rfl ?_
      refine z_get (pc := 70) (ci := 1) hZ 0 rfl rfl uc_N 1 (by decide) (zb fl_N_16) rfl dN_addOrMultiply_70 ?_
      refine z_aload_n (pc := 73) hZ 0 dN_addOrMultiply_73 rfl rfl ?_
      refine z_get (pc := 74) (ci := 1) hZ 0 rfl rfl uc_N 2 (by decide) (zb fl_N_20) rfl dN_addOrMultiply_74 ?_
      refine z_callSN (pc := 77) (As := [.ref v1, .ref v2]) (rest := []) hZ (cR_multiply l D (TY cR c1 c2 c3) (CX h0 ra v1 v2 v3 cR g Y) LP f61_3 v1 hH.1 v2 hH.2.1) zyR_multiply (z_good co_R_multiply) nl_N_102 (zb in_R) (zb st_R_multiply) rfl rfl (by decide) rfl rfl (Nat.le_of_ble_eq_true rfl) ⟨Nat.zero_le _, Nat.zero_le _⟩ dN_addOrMultiply_77 (z_kv (fun w1 tys1 hp => ?_))
      obtain ⟨f77_9, rfl, rfl, p77_9⟩ := hp
      refine z_iconst (pc := 80) hZ 0 dN_addOrMultiply_80 (by decide) ?_
      exact z_reti (pc := 81) hZ dN_addOrMultiply_81 .int rfl rfl ⟨_, rfl, _, rfl, rfl, (by first | exact ⟨rfl, am_w p1_1 c4_2 nokey_ nokey_ (Or.inl ⟨nokey_, nokey_⟩) nokey_⟩ | exact ⟨rfl, am_w p1_1 c4_2 nokey_ nokey_ (Or.inr (Or.inl ⟨nokey_, nokey_, nokey_⟩)) nokey_⟩ | exact ⟨rfl, am_w p1_1 c4_2 nokey_ nokey_ (Or.inr (Or.inr ⟨nokey_, nokey_, nokey_⟩)) nokey_⟩ | exact ⟨rfl, am_r p1_1 c4_2 p61_3 c66_4 p77_9⟩ | exact ⟨rfl, am_s p1_1 c4_2 p61_3 c66_4 nokey_ nokey_ nokey_⟩ | exact ⟨rfl, am_a p1_1 c4_2 p61_3 c66_4 nokey_ nokey_⟩)⟩
  · refine z_aload_n (pc := 7) hZ 0 dN_addOrMultiply_7 rfl rfl ?_
    refine z_get (pc := 8) (ci := 1) hZ 0 rfl rfl uc_N 1 (by decide) (zb fl_N_16) rfl dN_addOrMultiply_8 ?_
    refine z_pg1N (pc := 11) hZ hH.1 uc_V nf_N_38 dN_addOrMultiply_11 (fun v11_10 ev11_10 => ?_)
    refine z_lstore_n (pc := 14) hZ [(2, .long v11_10), (0, .ref h0), (1, .int p1)] dN_addOrMultiply_14 rfl (by decide) rfl ?_
    refine z_aload_n (pc := 15) hZ 1 dN_addOrMultiply_15 rfl rfl ?_
    refine z_get (pc := 16) (ci := 1) hZ 0 rfl rfl uc_N 2 (by decide) (zb fl_N_20) rfl dN_addOrMultiply_16 ?_
    refine z_pg1N (pc := 19) hZ hH.2.1 uc_V nf_N_38 dN_addOrMultiply_19 (fun v19_11 ev19_11 => ?_)
    refine z_lstore (pc := 22) hZ [(4, .long v19_11), (2, .long v11_10), (0, .ref h0), (1, .int p1)] dN_addOrMultiply_22 (by decide) rfl ?_
    refine z_aload_n (pc := 24) hZ 2 dN_addOrMultiply_24 rfl rfl ?_
    refine z_get (pc := 25) (ci := 1) hZ 0 rfl rfl uc_N 1 (by decide) (zb fl_N_16) rfl dN_addOrMultiply_25 ?_
    refine z_iload_n (pc := 28) hZ 3 dN_addOrMultiply_28 rfl rfl ?_
    refine z_if_ne (pc := 29) hZ 39 dN_addOrMultiply_29 (by decide) (fun c29_12 => ?_) (fun c29_12 => ?_)
    · refine z_iload_n (pc := 39) hZ 3 dN_addOrMultiply_39 rfl rfl ?_
      refine z_iconst (pc := 40) hZ 1 dN_addOrMultiply_40 (by decide) ?_
      refine z_icmp_ne (pc := 41) hZ 51 dN_addOrMultiply_41 (by decide) (fun c41_13 => ?_) (fun c41_13 => ?_)
      · refine z_lload_n (pc := 51) hZ 1 dN_addOrMultiply_51 rfl rfl ?_
        refine z_lload (pc := 52) hZ 0 dN_addOrMultiply_52 rfl ?_
        refine z_lmul (pc := 54) hZ dN_addOrMultiply_54 (fun v54_14 ev54_14 => ?_)
        obtain ⟨q55_15, hq55_15⟩ := zp_at (X := CX h0 ra v1 v2 v3 cR g Y) (f := f) hH.1
        refine z_callVN (pc := 55) (As := [.long v54_14]) (rest := []) hZ (cV_setWhole l D (TY cR c1 c2 c3) (CX h0 ra v1 v2 v3 cR g Y) LP f v1 hH.1 v54_14) zyV_setWhole (z_good co_V_setWhole) nl_N_30 (zb in_V) (zb im_V_setWhole) (zb se_V_setWhole) q55_15 hq55_15 rfl rfl rfl (by decide) rfl rfl (Nat.le_of_ble_eq_true rfl) ⟨Nat.zero_le _, Nat.zero_le _⟩ dN_addOrMultiply_55 (z_kv (fun w1 tys1 hp => ?_))
        obtain ⟨f55_15, rfl, rfl, p55_15⟩ := hp
        refine z_iconst (pc := 58) hZ 0 dN_addOrMultiply_58 (by decide) ?_
        exact z_reti (pc := 59) hZ dN_addOrMultiply_59 .int rfl rfl ⟨_, rfl, _, rfl, rfl, (by first | exact ⟨rfl, am_w p1_1 c4_2 ev11_10 ev19_11 (Or.inl ⟨c29_12, nokey_⟩) p55_15⟩ | exact ⟨rfl, am_w p1_1 c4_2 ev11_10 ev19_11 (Or.inr (Or.inl ⟨c29_12, c41_13, nokey_⟩)) p55_15⟩ | exact ⟨rfl, am_w p1_1 c4_2 ev11_10 ev19_11 (Or.inr (Or.inr ⟨c29_12, c41_13, ev54_14⟩)) p55_15⟩ | exact ⟨rfl, am_r p1_1 c4_2 nokey_ nokey_ nokey_⟩ | exact ⟨rfl, am_s p1_1 c4_2 nokey_ nokey_ nokey_ nokey_ nokey_⟩ | exact ⟨rfl, am_a p1_1 c4_2 nokey_ nokey_ nokey_ nokey_⟩)⟩
      · refine z_lload_n (pc := 44) hZ 1 dN_addOrMultiply_44 rfl rfl ?_
        refine z_lload (pc := 45) hZ 0 dN_addOrMultiply_45 rfl ?_
        refine z_lsub (pc := 47) hZ dN_addOrMultiply_47 (fun v47_16 ev47_16 => ?_)
        refine z_goto (pc := 48) hZ 55 dN_addOrMultiply_48 (by decide) ?_
        obtain ⟨q55_17, hq55_17⟩ := zp_at (X := CX h0 ra v1 v2 v3 cR g Y) (f := f) hH.1
        refine z_callVN (pc := 55) (As := [.long v47_16]) (rest := []) hZ (cV_setWhole l D (TY cR c1 c2 c3) (CX h0 ra v1 v2 v3 cR g Y) LP f v1 hH.1 v47_16) zyV_setWhole (z_good co_V_setWhole) nl_N_30 (zb in_V) (zb im_V_setWhole) (zb se_V_setWhole) q55_17 hq55_17 rfl rfl rfl (by decide) rfl rfl (Nat.le_of_ble_eq_true rfl) ⟨Nat.zero_le _, Nat.zero_le _⟩ dN_addOrMultiply_55 (z_kv (fun w1 tys1 hp => ?_))
        obtain ⟨f55_17, rfl, rfl, p55_17⟩ := hp
        refine z_iconst (pc := 58) hZ 0 dN_addOrMultiply_58 (by decide) ?_
        exact z_reti (pc := 59) hZ dN_addOrMultiply_59 .int rfl rfl ⟨_, rfl, _, rfl, rfl, (by first | exact ⟨rfl, am_w p1_1 c4_2 ev11_10 ev19_11 (Or.inl ⟨c29_12, nokey_⟩) p55_17⟩ | exact ⟨rfl, am_w p1_1 c4_2 ev11_10 ev19_11 (Or.inr (Or.inl ⟨c29_12, c41_13, ev47_16⟩)) p55_17⟩ | exact ⟨rfl, am_w p1_1 c4_2 ev11_10 ev19_11 (Or.inr (Or.inr ⟨c29_12, c41_13, nokey_⟩)) p55_17⟩ | exact ⟨rfl, am_r p1_1 c4_2 nokey_ nokey_ nokey_⟩ | exact ⟨rfl, am_s p1_1 c4_2 nokey_ nokey_ nokey_ nokey_ nokey_⟩ | exact ⟨rfl, am_a p1_1 c4_2 nokey_ nokey_ nokey_ nokey_⟩)⟩
    · refine z_lload_n (pc := 32) hZ 1 dN_addOrMultiply_32 rfl rfl ?_
      refine z_lload (pc := 33) hZ 0 dN_addOrMultiply_33 rfl ?_
      refine z_ladd (pc := 35) hZ dN_addOrMultiply_35 (fun v35_18 ev35_18 => ?_)
      refine z_goto (pc := 36) hZ 55 dN_addOrMultiply_36 (by decide) ?_
      obtain ⟨q55_19, hq55_19⟩ := zp_at (X := CX h0 ra v1 v2 v3 cR g Y) (f := f) hH.1
      refine z_callVN (pc := 55) (As := [.long v35_18]) (rest := []) hZ (cV_setWhole l D (TY cR c1 c2 c3) (CX h0 ra v1 v2 v3 cR g Y) LP f v1 hH.1 v35_18) zyV_setWhole (z_good co_V_setWhole) nl_N_30 (zb in_V) (zb im_V_setWhole) (zb se_V_setWhole) q55_19 hq55_19 rfl rfl rfl (by decide) rfl rfl (Nat.le_of_ble_eq_true rfl) ⟨Nat.zero_le _, Nat.zero_le _⟩ dN_addOrMultiply_55 (z_kv (fun w1 tys1 hp => ?_))
      obtain ⟨f55_19, rfl, rfl, p55_19⟩ := hp
      refine z_iconst (pc := 58) hZ 0 dN_addOrMultiply_58 (by decide) ?_
      exact z_reti (pc := 59) hZ dN_addOrMultiply_59 .int rfl rfl ⟨_, rfl, _, rfl, rfl, (by first | exact ⟨rfl, am_w p1_1 c4_2 ev11_10 ev19_11 (Or.inl ⟨c29_12, ev35_18⟩) p55_19⟩ | exact ⟨rfl, am_w p1_1 c4_2 ev11_10 ev19_11 (Or.inr (Or.inl ⟨c29_12, nokey_, nokey_⟩)) p55_19⟩ | exact ⟨rfl, am_w p1_1 c4_2 ev11_10 ev19_11 (Or.inr (Or.inr ⟨c29_12, nokey_, nokey_⟩)) p55_19⟩ | exact ⟨rfl, am_r p1_1 c4_2 nokey_ nokey_ nokey_⟩ | exact ⟨rfl, am_s p1_1 c4_2 nokey_ nokey_ nokey_ nokey_ nokey_⟩ | exact ⟨rfl, am_a p1_1 c4_2 nokey_ nokey_ nokey_ nokey_⟩)⟩
set_option maxHeartbeats 4000000 in
set_option maxRecDepth 100000 in
theorem cN_divideOrRemainReal (l : Launch) (D : va_G) (cR c1 c2 c3 : ClassId) (h0 ra v1 v2 v3 : Nat) (Y : va_W) (LP : List Nat) (f : Nat → V3) (g : Nat → Option Nat) (hH : zH LP v1 v2 v3 g) (p1 : Int32) : zM l D vwCl zNF zNM yN_divideOrRemainReal wsN_divideOrRemainReal { frames := 5, cells := 0, slots := 0, locals := 128 } [.ref h0, .int p1] (CX h0 ra v1 v2 v3 cR g Y ++ PL LP f) (TY cR c1 c2 c3) (qV (fun w' tys' => ∃ f' : Nat → V3, CX h0 ra v1 v2 v3 cR g Y ++ PL LP f' = w' ∧ (TY cR c1 c2 c3) = tys' ∧ (zV v1 v2 v3 → ∀ a b, CA (f v1) a → CA (f v2) b → nW a → nW b → CA (f' v1) (divB p1 a b) ∧ FRM f f' v1 v2 v3))) := by
  refine z_met (cc := bN_divideOrRemainReal) (maxL := 2) (ret := none) (isI := false) (own := RN) (by decide +kernel) rfl rfl (fun h => by cases h) (Nat.le_of_ble_eq_true rfl) (fun Z hZ => ?_)
  show Z 0 0 (TY cR c1 c2 c3) 0 [(0, .ref h0), (1, .int p1)] [] (CX h0 ra v1 v2 v3 cR g Y ++ PL LP f)
  refine z_iload_n (pc := 0) hZ 1 dN_divideOrRemainReal_0 rfl rfl ?_
  refine z_iconst (pc := 1) hZ 5 dN_divideOrRemainReal_1 (by decide) ?_
  refine z_icmp_ne (pc := 2) hZ 17 dN_divideOrRemainReal_2 (by decide) (fun c2_1 => ?_) (fun c2_1 => ?_)
  · refine z_aload_n (pc := 17) hZ 0 dN_divideOrRemainReal_17 rfl rfl ?_
    refine z_get (pc := 18) (ci := 1) hZ 0 rfl rfl uc_N 1 (by decide) (zb fl_N_16) rfl dN_divideOrRemainReal_18 ?_
    refine z_aload_n (pc := 21) hZ 0 dN_divideOrRemainReal_21 rfl rfl ?_
    refine z_get (pc := 22) (ci := 1) hZ 0 rfl rfl uc_N 2 (by decide) (zb fl_N_20) rfl dN_divideOrRemainReal_22 ?_
    refine z_callSN (pc := 25) (As := [.ref v1, .ref v2]) (rest := []) hZ (cR_divide l D (TY cR c1 c2 c3) (CX h0 ra v1 v2 v3 cR g Y) LP f v1 hH.1 v2 hH.2.1) zyR_divide (z_good co_R_divide) nl_N_129 (zb in_R) (zb st_R_divide) rfl rfl (by decide) rfl rfl (Nat.le_of_ble_eq_true rfl) ⟨Nat.zero_le _, Nat.zero_le _⟩ dN_divideOrRemainReal_25 (z_kv (fun w1 tys1 hp => ?_))
    obtain ⟨f25_2, rfl, rfl, p25_2⟩ := hp
    refine z_iload_n (pc := 28) hZ 1 dN_divideOrRemainReal_28 rfl rfl ?_
    refine z_iconst (pc := 29) hZ 4 dN_divideOrRemainReal_29 (by decide) ?_
    refine z_icmp_ne (pc := 30) hZ 40 dN_divideOrRemainReal_30 (by decide) (fun c30_3 => ?_) (fun c30_3 => ?_)
    · exact z_retv (pc := 40) hZ dN_divideOrRemainReal_40 rfl ⟨rfl, _, rfl, rfl, (by first | exact dr_r c2_1 nokey_ | exact dr_q c2_1 c30_3 p25_2 nokey_ | exact dr_d c2_1 c30_3 p25_2)⟩
    · refine z_aload_n (pc := 33) hZ 0 dN_divideOrRemainReal_33 rfl rfl ?_
      refine z_get (pc := 34) (ci := 1) hZ 0 rfl rfl uc_N 1 (by decide) (zb fl_N_16) rfl dN_divideOrRemainReal_34 ?_
      obtain ⟨q37_4, hq37_4⟩ := zp_at (X := CX h0 ra v1 v2 v3 cR g Y) (f := f25_2) hH.1
      refine z_callVN (pc := 37) (As := []) (rest := []) hZ (cV_roundDown l D (TY cR c1 c2 c3) (CX h0 ra v1 v2 v3 cR g Y) LP f25_2 v1 hH.1) zyV_roundDown (z_good co_V_roundDown) nl_N_132 (zb in_V) (zb im_V_roundDown) (zb se_V_roundDown) q37_4 hq37_4 rfl rfl rfl (by decide) rfl rfl (Nat.le_of_ble_eq_true rfl) ⟨Nat.zero_le _, Nat.zero_le _⟩ dN_divideOrRemainReal_37 (z_kv (fun w1 tys1 hp => ?_))
      obtain ⟨f37_4, rfl, rfl, p37_4⟩ := hp
      exact z_retv (pc := 40) hZ dN_divideOrRemainReal_40 rfl ⟨rfl, _, rfl, rfl, (by first | exact dr_r c2_1 nokey_ | exact dr_q c2_1 c30_3 p25_2 p37_4 | exact dr_d c2_1 c30_3 p25_2)⟩
  · refine z_aload_n (pc := 5) hZ 0 dN_divideOrRemainReal_5 rfl rfl ?_
    refine z_get (pc := 6) (ci := 1) hZ 0 rfl rfl uc_N 1 (by decide) (zb fl_N_16) rfl dN_divideOrRemainReal_6 ?_
    refine z_aload_n (pc := 9) hZ 0 dN_divideOrRemainReal_9 rfl rfl ?_
    refine z_get (pc := 10) (ci := 1) hZ 0 rfl rfl uc_N 2 (by decide) (zb fl_N_20) rfl dN_divideOrRemainReal_10 ?_
    refine z_callSN (pc := 13) (As := [.ref v1, .ref v2]) (rest := []) hZ (cR_remainder l D (TY cR c1 c2 c3) (CX h0 ra v1 v2 v3 cR g Y) LP f v1 hH.1 v2 hH.2.1) zyR_remainder (z_good co_R_remainder) nl_N_126 (zb in_R) (zb st_R_remainder) rfl rfl (by decide) rfl rfl (Nat.le_of_ble_eq_true rfl) ⟨Nat.zero_le _, Nat.zero_le _⟩ dN_divideOrRemainReal_13 (z_kv (fun w1 tys1 hp => ?_))
    obtain ⟨f13_5, rfl, rfl, p13_5⟩ := hp
    exact z_retv (pc := 16) hZ dN_divideOrRemainReal_16 rfl ⟨rfl, _, rfl, rfl, (by first | exact dr_r c2_1 p13_5 | exact dr_q c2_1 nokey_ nokey_ nokey_ | exact dr_d c2_1 nokey_ nokey_)⟩
set_option maxHeartbeats 4000000 in
set_option maxRecDepth 100000 in
theorem cN_divideOrRemain (l : Launch) (D : va_G) (cR c1 c2 c3 : ClassId) (h0 ra v1 v2 v3 : Nat) (Y : va_W) (LP : List Nat) (f : Nat → V3) (g : Nat → Option Nat) (hH : zH LP v1 v2 v3 g) (p1 : Int32) : zM l D vwCl zNF zNM yN_divideOrRemain wsN_divideOrRemain { frames := 6, cells := 0, slots := 0, locals := 149 } [.ref h0, .int p1] (CX h0 ra v1 v2 v3 cR g Y ++ PL LP f) (TY cR c1 c2 c3) (qI (fun r w' tys' => ∃ f' : Nat → V3, CX h0 ra v1 v2 v3 cR g Y ++ PL LP f' = w' ∧ (TY cR c1 c2 c3) = tys' ∧ (OPP f f' v1 v2 v3 r (divE p1) (divA p1)))) := by
  refine z_met (cc := bN_divideOrRemain) (maxL := 2) (ret := (some .int)) (isI := false) (own := RN) (by decide +kernel) rfl rfl (fun h => by cases h) (Nat.le_of_ble_eq_true rfl) (fun Z hZ => ?_)
  show Z 0 0 (TY cR c1 c2 c3) 0 [(0, .ref h0), (1, .int p1)] [] (CX h0 ra v1 v2 v3 cR g Y ++ PL LP f)
  refine z_iload_n (pc := 0) hZ 1 dN_divideOrRemain_0 rfl rfl ?_
  refine z_iconst (pc := 1) hZ 3 dN_divideOrRemain_1 (by decide) ?_
  refine z_icmp_eq (pc := 2) hZ 12 dN_divideOrRemain_2 (by decide) (fun c2_1 => ?_) (fun c2_1 => ?_)
  · refine z_aload_n (pc := 12) hZ 0 dN_divideOrRemain_12 rfl rfl ?_
    refine z_callV (pc := 13) (As := []) (rest := []) hZ (cN_makeReals l D cR c1 c2 c3 h0 ra v1 v2 v3 Y LP f g hH ) zyN_makeReals (z_goodV ml_N_99 im_N_makeReals se_N_makeReals in_N co_N_makeReals) 0 rfl rfl rfl rfl (by decide) rfl rfl (Nat.le_of_ble_eq_true rfl) ⟨Nat.zero_le _, Nat.zero_le _⟩ dN_divideOrRemain_13 (z_kv (fun w1 tys1 hp => ?_))
    obtain ⟨f13_2, rfl, rfl, p13_2⟩ := hp
    refine z_aload_n (pc := 16) hZ 0 dN_divideOrRemain_16 rfl rfl ?_
    refine z_iload_n (pc := 17) hZ 1 dN_divideOrRemain_17 rfl rfl ?_
    refine z_callV (pc := 18) (As := [.int p1]) (rest := []) hZ (cN_divideOrRemainReal l D cR c1 c2 c3 h0 ra v1 v2 v3 Y LP f13_2 g hH p1) zyN_divideOrRemainReal (z_goodV ml_N_114 im_N_divideOrRemainReal se_N_divideOrRemainReal in_N co_N_divideOrRemainReal) 0 rfl rfl rfl rfl (by decide) rfl rfl (Nat.le_of_ble_eq_true rfl) ⟨Nat.zero_le _, Nat.zero_le _⟩ dN_divideOrRemain_18 (z_kv (fun w1 tys1 hp => ?_))
    obtain ⟨f18_3, rfl, rfl, p18_3⟩ := hp
    refine z_iconst (pc := 21) hZ 0 dN_divideOrRemain_21 (by decide) ?_
    exact z_reti (pc := 22) hZ dN_divideOrRemain_22 .int rfl rfl ⟨_, rfl, _, rfl, rfl, (by first | exact dq_r (Or.inl c2_1) p13_2 p18_3 | exact dq_r (Or.inr ⟨_, nokey_, nokey_⟩) p13_2 p18_3)⟩
  · refine z_aload_n (pc := 5) hZ 0 dN_divideOrRemain_5 rfl rfl ?_
    refine z_callV (pc := 6) (As := []) (rest := []) hZ (cN_areWhole l D cR c1 c2 c3 h0 ra v1 v2 v3 Y LP f g hH ) zyN_areWhole (z_goodV ml_N_95 im_N_areWhole se_N_areWhole in_N co_N_areWhole) 0 rfl rfl rfl rfl (by decide) rfl rfl (Nat.le_of_ble_eq_true rfl) ⟨Nat.zero_le _, Nat.zero_le _⟩ dN_divideOrRemain_6 (z_ki (fun r6_4 w1 tys1 hp => ?_))
    obtain ⟨rfl, rfl, p6_4⟩ := hp
    refine z_if_ne (pc := 9) hZ 23 dN_divideOrRemain_9 (by decide) (fun c9_5 => ?_) (fun c9_5 => ?_)
    · refine z_aload_n (pc := 23) hZ 0 dN_divideOrRemain_23 rfl rfl ?_
      refine z_get (pc := 24) (ci := 1) hZ 0 rfl rfl uc_N 2 (by decide) (zb fl_N_20) rfl dN_divideOrRemain_24 ?_
      refine z_pg1N (pc := 27) hZ hH.2.1 uc_V nf_N_38 dN_divideOrRemain_27 (fun v27_6 ev27_6 => ?_)
      refine z_lconst (pc := 30) hZ 0 dN_divideOrRemain_30 (by decide) ?_
      refine z_lif_ne (pc := 31) hZ 37 dN_divideOrRemain_31 dN_divideOrRemain_32 (by decide) (fun c32_7 => ?_) (fun c32_7 => ?_)
      · refine z_aload_n (pc := 37) hZ 0 dN_divideOrRemain_37 rfl rfl ?_
        refine z_get (pc := 38) (ci := 1) hZ 0 rfl rfl uc_N 1 (by decide) (zb fl_N_16) rfl dN_divideOrRemain_38 ?_
        refine z_iload_n (pc := 41) hZ 1 dN_divideOrRemain_41 rfl rfl ?_
        refine z_iconst (pc := 42) hZ 4 dN_divideOrRemain_42 (by decide) ?_
        refine z_icmp_ne (pc := 43) hZ 66 dN_divideOrRemain_43 (by decide) (fun c43_8 => ?_) (fun c43_8 => ?_)
        · refine z_aload_n (pc := 66) hZ 0 dN_divideOrRemain_66 rfl rfl ?_
          refine z_get (pc := 67) (ci := 1) hZ 0 rfl rfl uc_N 1 (by decide) (zb fl_N_16) rfl dN_divideOrRemain_67 ?_
          refine z_pg1N (pc := 70) hZ hH.1 uc_V nf_N_38 dN_divideOrRemain_70 (fun v70_9 ev70_9 => ?_)
          refine z_aload_n (pc := 73) hZ 0 dN_divideOrRemain_73 rfl rfl ?_
          refine z_get (pc := 74) (ci := 1) hZ 0 rfl rfl uc_N 2 (by decide) (zb fl_N_20) rfl dN_divideOrRemain_74 ?_
          refine z_pg1N (pc := 77) hZ hH.2.1 uc_V nf_N_38 dN_divideOrRemain_77 (fun v77_10 ev77_10 => ?_)
          refine z_callS (pc := 80) (As := [.long v70_9, .long v77_10]) (rest := [.ref v1]) hZ (cJM_floorMod l D (TY cR c1 c2 c3) (CX h0 ra v1 v2 v3 cR g Y ++ PL LP f) v70_9 v77_10 (by exact ne_of (by assumption) (by assumption) (by assumption))) zyJM_floorMod (z_goodS ml_N_123 st_JM_floorMod in_JM co_JM_floorMod) rfl rfl (by decide) rfl rfl (Nat.le_of_ble_eq_true rfl) ⟨Nat.zero_le _, Nat.zero_le _⟩ dN_divideOrRemain_80 (z_kl (fun r80_11 w1 tys1 hp => ?_))
          obtain ⟨rfl, rfl, p80_11⟩ := hp
          obtain ⟨q83_12, hq83_12⟩ := zp_at (X := CX h0 ra v1 v2 v3 cR g Y) (f := f) hH.1
          refine z_callVN (pc := 83) (As := [.long r80_11]) (rest := []) hZ (cV_setWhole l D (TY cR c1 c2 c3) (CX h0 ra v1 v2 v3 cR g Y) LP f v1 hH.1 r80_11) zyV_setWhole (z_good co_V_setWhole) nl_N_30 (zb in_V) (zb im_V_setWhole) (zb se_V_setWhole) q83_12 hq83_12 rfl rfl rfl (by decide) rfl rfl (Nat.le_of_ble_eq_true rfl) ⟨Nat.zero_le _, Nat.zero_le _⟩ dN_divideOrRemain_83 (z_kv (fun w1 tys1 hp => ?_))
          obtain ⟨f83_12, rfl, rfl, p83_12⟩ := hp
          refine z_iconst (pc := 86) hZ 0 dN_divideOrRemain_86 (by decide) ?_
          exact z_reti (pc := 87) hZ dN_divideOrRemain_87 .int rfl rfl ⟨_, rfl, _, rfl, rfl, (by first | exact dq_w c2_1 p6_4 c9_5 ev27_6 c32_7 nokey_ nokey_ (Or.inl ⟨c43_8, nokey_⟩) p83_12 | exact dq_w c2_1 p6_4 c9_5 ev27_6 c32_7 ev70_9 ev77_10 (Or.inr ⟨c43_8, p80_11⟩) p83_12)⟩
        · refine z_aload_n (pc := 46) hZ 0 dN_divideOrRemain_46 rfl rfl ?_
          refine z_get (pc := 47) (ci := 1) hZ 0 rfl rfl uc_N 1 (by decide) (zb fl_N_16) rfl dN_divideOrRemain_47 ?_
          refine z_pg1N (pc := 50) hZ hH.1 uc_V nf_N_38 dN_divideOrRemain_50 (fun v50_13 ev50_13 => ?_)
          refine z_aload_n (pc := 53) hZ 0 dN_divideOrRemain_53 rfl rfl ?_
          refine z_get (pc := 54) (ci := 1) hZ 0 rfl rfl uc_N 2 (by decide) (zb fl_N_20) rfl dN_divideOrRemain_54 ?_
          refine z_pg1N (pc := 57) hZ hH.2.1 uc_V nf_N_38 dN_divideOrRemain_57 (fun v57_14 ev57_14 => ?_)
          refine z_callS (pc := 60) (As := [.long v50_13, .long v57_14]) (rest := [.ref v1]) hZ (cJM_floorDiv l D (TY cR c1 c2 c3) (CX h0 ra v1 v2 v3 cR g Y ++ PL LP f) v50_13 v57_14 (by exact ne_of (by assumption) (by assumption) (by assumption))) zyJM_floorDiv (z_goodS ml_N_117 st_JM_floorDiv in_JM co_JM_floorDiv) rfl rfl (by decide) rfl rfl (Nat.le_of_ble_eq_true rfl) ⟨Nat.zero_le _, Nat.zero_le _⟩ dN_divideOrRemain_60 (z_kl (fun r60_15 w1 tys1 hp => ?_))
          obtain ⟨rfl, rfl, p60_15⟩ := hp
          refine z_goto (pc := 63) hZ 83 dN_divideOrRemain_63 (by decide) ?_
          obtain ⟨q83_16, hq83_16⟩ := zp_at (X := CX h0 ra v1 v2 v3 cR g Y) (f := f) hH.1
          refine z_callVN (pc := 83) (As := [.long r60_15]) (rest := []) hZ (cV_setWhole l D (TY cR c1 c2 c3) (CX h0 ra v1 v2 v3 cR g Y) LP f v1 hH.1 r60_15) zyV_setWhole (z_good co_V_setWhole) nl_N_30 (zb in_V) (zb im_V_setWhole) (zb se_V_setWhole) q83_16 hq83_16 rfl rfl rfl (by decide) rfl rfl (Nat.le_of_ble_eq_true rfl) ⟨Nat.zero_le _, Nat.zero_le _⟩ dN_divideOrRemain_83 (z_kv (fun w1 tys1 hp => ?_))
          obtain ⟨f83_16, rfl, rfl, p83_16⟩ := hp
          refine z_iconst (pc := 86) hZ 0 dN_divideOrRemain_86 (by decide) ?_
          exact z_reti (pc := 87) hZ dN_divideOrRemain_87 .int rfl rfl ⟨_, rfl, _, rfl, rfl, (by first | exact dq_w c2_1 p6_4 c9_5 ev27_6 c32_7 ev50_13 ev57_14 (Or.inl ⟨c43_8, p60_15⟩) p83_16 | exact dq_w c2_1 p6_4 c9_5 ev27_6 c32_7 nokey_ nokey_ (Or.inr ⟨c43_8, nokey_⟩) p83_16)⟩
      · refine z_iconst (pc := 35) hZ 1 dN_divideOrRemain_35 (by decide) ?_
        exact z_reti (pc := 36) hZ dN_divideOrRemain_36 .int rfl rfl ⟨_, rfl, _, rfl, rfl, (by exact dq_z c2_1 p6_4 c9_5 ev27_6 c32_7)⟩
    · refine z_aload_n (pc := 12) hZ 0 dN_divideOrRemain_12 rfl rfl ?_
      refine z_callV (pc := 13) (As := []) (rest := []) hZ (cN_makeReals l D cR c1 c2 c3 h0 ra v1 v2 v3 Y LP f g hH ) zyN_makeReals (z_goodV ml_N_99 im_N_makeReals se_N_makeReals in_N co_N_makeReals) 0 rfl rfl rfl rfl (by decide) rfl rfl (Nat.le_of_ble_eq_true rfl) ⟨Nat.zero_le _, Nat.zero_le _⟩ dN_divideOrRemain_13 (z_kv (fun w1 tys1 hp => ?_))
      obtain ⟨f13_17, rfl, rfl, p13_17⟩ := hp
      refine z_aload_n (pc := 16) hZ 0 dN_divideOrRemain_16 rfl rfl ?_
      refine z_iload_n (pc := 17) hZ 1 dN_divideOrRemain_17 rfl rfl ?_
      refine z_callV (pc := 18) (As := [.int p1]) (rest := []) hZ (cN_divideOrRemainReal l D cR c1 c2 c3 h0 ra v1 v2 v3 Y LP f13_17 g hH p1) zyN_divideOrRemainReal (z_goodV ml_N_114 im_N_divideOrRemainReal se_N_divideOrRemainReal in_N co_N_divideOrRemainReal) 0 rfl rfl rfl rfl (by decide) rfl rfl (Nat.le_of_ble_eq_true rfl) ⟨Nat.zero_le _, Nat.zero_le _⟩ dN_divideOrRemain_18 (z_kv (fun w1 tys1 hp => ?_))
      obtain ⟨f18_18, rfl, rfl, p18_18⟩ := hp
      refine z_iconst (pc := 21) hZ 0 dN_divideOrRemain_21 (by decide) ?_
      exact z_reti (pc := 22) hZ dN_divideOrRemain_22 .int rfl rfl ⟨_, rfl, _, rfl, rfl, (by first | exact dq_r (Or.inl c2_1) p13_17 p18_18 | exact dq_r (Or.inr ⟨_, p6_4, c9_5⟩) p13_17 p18_18)⟩
set_option maxHeartbeats 4000000 in
set_option maxRecDepth 100000 in
theorem cN_raise (l : Launch) (D : va_G) (cR c1 c2 c3 : ClassId) (h0 ra v1 v2 v3 : Nat) (Y : va_W) (LP : List Nat) (f : Nat → V3) (g : Nat → Option Nat) (hH : zH LP v1 v2 v3 g) (p1 : Int32) : zM l D vwCl zNF zNM yN_raise wsN_raise { frames := 5, cells := 0, slots := 0, locals := 137 } [.ref h0, .int p1] (CX h0 ra v1 v2 v3 cR g Y ++ PL LP f) (TY cR c1 c2 c3) (qV (fun w' tys' => ∃ f' : Nat → V3, CX h0 ra v1 v2 v3 cR g Y ++ PL LP f' = w' ∧ (TY cR c1 c2 c3) = tys' ∧ (zV v1 v2 v3 → 0 ≤ p1.toInt → p1.toInt ≤ 65536 → ∀ a, CA (f v1) a → (CA (f' v1) (pw 32 p1.toInt.toNat (turn a) (.inr (.inl W1))) ∧ nW (pw 32 p1.toInt.toNat (turn a) (.inr (.inl W1)))) ∧ FRM f f' v1 v2 v3))) := by
  refine z_met (cc := bN_raise) (maxL := 4) (ret := none) (isI := false) (own := RN) (by decide +kernel) rfl rfl (fun h => by cases h) (Nat.le_of_ble_eq_true rfl) (fun Z hZ => ?_)
  show Z 0 0 (TY cR c1 c2 c3) 0 [(0, .ref h0), (1, .int p1)] [] (CX h0 ra v1 v2 v3 cR g Y ++ PL LP f)
  refine z_bipush (pc := 0) hZ 32 dN_raise_0 (by decide) ?_
  refine z_iload_n (pc := 2) hZ 1 dN_raise_2 rfl rfl ?_
  refine z_callS (pc := 3) (As := [.int p1]) (rest := [.int 32]) hZ (cJI_numberOfLeadingZeros l D (TY cR c1 c2 c3) (CX h0 ra v1 v2 v3 cR g Y ++ PL LP f) p1) zyJI_numberOfLeadingZeros (z_goodS ml_N_151 st_JI_numberOfLeadingZeros in_JI co_JI_numberOfLeadingZeros) rfl rfl (by decide) rfl rfl (Nat.le_of_ble_eq_true rfl) ⟨Nat.zero_le _, Nat.zero_le _⟩ dN_raise_3 (z_ki (fun r3_1 w1 tys1 hp => ?_))
  obtain ⟨rfl, rfl, p3_1⟩ := hp
  refine z_isub (pc := 6) hZ dN_raise_6 (fun v6_2 ev6_2 => ?_)
  refine z_istore_n (pc := 7) hZ [(2, .int v6_2), (0, .ref h0), (1, .int p1)] dN_raise_7 rfl (by decide) rfl ?_
  refine z_aload_n (pc := 8) hZ 1 dN_raise_8 rfl rfl ?_
  refine z_get (pc := 9) (ci := 1) hZ 0 rfl rfl uc_N 3 (by decide) (zb fl_N_23) rfl dN_raise_9 ?_
  refine z_aload_n (pc := 12) hZ 1 dN_raise_12 rfl rfl ?_
  refine z_get (pc := 13) (ci := 1) hZ 0 rfl rfl uc_N 1 (by decide) (zb fl_N_16) rfl dN_raise_13 ?_
  obtain ⟨q16_3, hq16_3⟩ := zp_at (X := CX h0 ra v1 v2 v3 cR g Y) (f := f) hH.2.2.1
  refine z_callVN (pc := 16) (As := [.ref v1]) (rest := []) hZ (cV_become l D (TY cR c1 c2 c3) (CX h0 ra v1 v2 v3 cR g Y) LP f v3 hH.2.2.1 v1 hH.1) zyV_become (z_good co_V_become) nl_N_46 (zb in_V) (zb im_V_become) (zb se_V_become) q16_3 hq16_3 rfl rfl rfl (by decide) rfl rfl (Nat.le_of_ble_eq_true rfl) ⟨Nat.zero_le _, Nat.zero_le _⟩ dN_raise_16 (z_kv (fun w1 tys1 hp => ?_))
  obtain ⟨f16_3, rfl, rfl, p16_3⟩ := hp
  refine z_aload_n (pc := 19) hZ 1 dN_raise_19 rfl rfl ?_
  refine z_get (pc := 20) (ci := 1) hZ 0 rfl rfl uc_N 3 (by decide) (zb fl_N_23) rfl dN_raise_20 ?_
  obtain ⟨q23_4, hq23_4⟩ := zp_at (X := CX h0 ra v1 v2 v3 cR g Y) (f := f16_3) hH.2.2.1
  refine z_callVN (pc := 23) (As := []) (rest := []) hZ (cV_turnReal l D (TY cR c1 c2 c3) (CX h0 ra v1 v2 v3 cR g Y) LP f16_3 v3 hH.2.2.1) zyV_turnReal (z_good co_V_turnReal) nl_N_92 (zb in_V) (zb im_V_turnReal) (zb se_V_turnReal) q23_4 hq23_4 rfl rfl rfl (by decide) rfl rfl (Nat.le_of_ble_eq_true rfl) ⟨Nat.zero_le _, Nat.zero_le _⟩ dN_raise_23 (z_kv (fun w1 tys1 hp => ?_))
  obtain ⟨f23_4, rfl, rfl, p23_4⟩ := hp
  refine z_aload_n (pc := 26) hZ 1 dN_raise_26 rfl rfl ?_
  refine z_get (pc := 27) (ci := 1) hZ 0 rfl rfl uc_N 1 (by decide) (zb fl_N_16) rfl dN_raise_27 ?_
  refine z_lconst (pc := 30) hZ 1 dN_raise_30 (by decide) ?_
  refine z_iconst (pc := 31) hZ 0 dN_raise_31 (by decide) ?_
  obtain ⟨q32_5, hq32_5⟩ := zp_at (X := CX h0 ra v1 v2 v3 cR g Y) (f := f23_4) hH.1
  refine z_callVN (pc := 32) (As := [.long 1, .int 0]) (rest := []) hZ (cV_setReal l D (TY cR c1 c2 c3) (CX h0 ra v1 v2 v3 cR g Y) LP f23_4 v1 hH.1 1 0) zyV_setReal (z_good co_V_setReal) nl_N_34 (zb in_V) (zb im_V_setReal) (zb se_V_setReal) q32_5 hq32_5 rfl rfl rfl (by decide) rfl rfl (Nat.le_of_ble_eq_true rfl) ⟨Nat.zero_le _, Nat.zero_le _⟩ dN_raise_32 (z_kv (fun w1 tys1 hp => ?_))
  obtain ⟨f32_5, rfl, rfl, p32_5⟩ := hp
  refine z_iconst (pc := 35) hZ 0 dN_raise_35 (by decide) ?_
  refine z_istore_n (pc := 36) hZ [(3, .int 0), (2, .int v6_2), (0, .ref h0), (1, .int p1)] dN_raise_36 rfl (by decide) rfl ?_
  have L37 : ∀ (N37 : Nat) (x3_37 : Int32) (f_37 : Nat → V3), ((v6_2).toInt - x3_37.toInt).toNat < N37 → (RSI f f_37 v1 v2 v3 p1 x3_37) → Z 0 0 (TY cR c1 c2 c3) 37 [(3, .int x3_37), (2, .int v6_2), (0, .ref h0), (1, .int p1)] [] (CX h0 ra v1 v2 v3 cR g Y ++ PL LP f_37) := by
    intro N37
    induction N37 with
    | zero => intro x3_37 f_37 m37; exact absurd m37 (Nat.not_lt_zero _)
    | succ N37 ih37 =>
      intro x3_37 f_37 m37 r37
      refine z_iload_n (pc := 37) hZ 0 dN_raise_37 rfl rfl ?_
      refine z_iload_n (pc := 38) hZ 1 dN_raise_38 rfl rfl ?_
      refine z_icmp_ge (pc := 39) hZ 86 dN_raise_39 (by decide) (fun c39_6 => ?_) (fun c39_6 => ?_)
      · exact z_retv (pc := 86) hZ dN_raise_86 rfl ⟨rfl, _, rfl, rfl, (by exact rsi_e r37 p3_1 ev6_2 c39_6)⟩
      · refine z_iload_n (pc := 42) hZ 3 dN_raise_42 rfl rfl ?_
        refine z_iload_n (pc := 43) hZ 0 dN_raise_43 rfl rfl ?_
        refine z_ishr (pc := 44) hZ dN_raise_44 (fun v44_7 ev44_7 => ?_)
        refine z_iconst (pc := 45) hZ 1 dN_raise_45 (by decide) ?_
        refine z_iand (pc := 46) hZ dN_raise_46 (fun v46_8 ev46_8 => ?_)
        refine z_iconst (pc := 47) hZ 1 dN_raise_47 (by decide) ?_
        refine z_icmp_ne (pc := 48) hZ 62 dN_raise_48 (by decide) (fun c48_9 => ?_) (fun c48_9 => ?_)
        · refine z_iload_n (pc := 62) hZ 0 dN_raise_62 rfl rfl ?_
          refine z_iconst (pc := 63) hZ 1 dN_raise_63 (by decide) ?_
          refine z_iadd (pc := 64) hZ dN_raise_64 (fun v64_10 ev64_10 => ?_)
          refine z_iload_n (pc := 65) hZ 1 dN_raise_65 rfl rfl ?_
          refine z_icmp_ge (pc := 66) hZ 80 dN_raise_66 (by decide) (fun c66_11 => ?_) (fun c66_11 => ?_)
          · refine z_iinc (pc := 80) hZ 0 (fun v9 => [(3, .int v9), (2, .int v6_2), (0, .ref h0), (1, .int p1)]) dN_raise_80 rfl (by decide) (fun _ => rfl) (fun v80_12 ev80_12 => ?_)
            refine z_goto (pc := 83) hZ 37 dN_raise_83 (by decide) ?_
            exact z_sub (pc := 37) hZ [0, 1, 2, 3] rfl (ih37 v80_12 f_37 (by exact Nat.lt_of_lt_of_le (dec_up (x := x3_37) (b := v6_2) (by assumption) (by assumption)) (Nat.le_of_lt_succ m37)) (by first | exact rsi_s r37 p3_1 ev6_2 c39_6 ev44_7 ev46_8 (Or.inl ⟨c48_9, nokey_⟩) ev64_10 (Or.inr ⟨c66_11, nokey_⟩) ev80_12 | exact rsi_s r37 p3_1 ev6_2 c39_6 ev44_7 ev46_8 (Or.inl ⟨c48_9, nokey_⟩) ev64_10 (Or.inl ⟨c66_11, rfl⟩) ev80_12 | exact rsi_s r37 p3_1 ev6_2 c39_6 ev44_7 ev46_8 (Or.inr ⟨c48_9, rfl⟩) ev64_10 (Or.inr ⟨c66_11, nokey_⟩) ev80_12 | exact rsi_s r37 p3_1 ev6_2 c39_6 ev44_7 ev46_8 (Or.inr ⟨c48_9, rfl⟩) ev64_10 (Or.inl ⟨c66_11, rfl⟩) ev80_12))
          · refine z_aload_n (pc := 69) hZ 2 dN_raise_69 rfl rfl ?_
            refine z_get (pc := 70) (ci := 1) hZ 0 rfl rfl uc_N 3 (by decide) (zb fl_N_23) rfl dN_raise_70 ?_
            refine z_aload_n (pc := 73) hZ 2 dN_raise_73 rfl rfl ?_
            refine z_get (pc := 74) (ci := 1) hZ 0 rfl rfl uc_N 3 (by decide) (zb fl_N_23) rfl dN_raise_74 ?_
            refine z_callSN (pc := 77) (As := [.ref v3, .ref v3]) (rest := []) hZ (cR_multiply l D (TY cR c1 c2 c3) (CX h0 ra v1 v2 v3 cR g Y) LP f_37 v3 hH.2.2.1 v3 hH.2.2.1) zyR_multiply (z_good co_R_multiply) nl_N_102 (zb in_R) (zb st_R_multiply) rfl rfl (by decide) rfl rfl (Nat.le_of_ble_eq_true rfl) ⟨Nat.zero_le _, Nat.zero_le _⟩ dN_raise_77 (z_kv (fun w1 tys1 hp => ?_))
            obtain ⟨f77_13, rfl, rfl, p77_13⟩ := hp
            refine z_iinc (pc := 80) hZ 0 (fun v9 => [(3, .int v9), (2, .int v6_2), (0, .ref h0), (1, .int p1)]) dN_raise_80 rfl (by decide) (fun _ => rfl) (fun v80_14 ev80_14 => ?_)
            refine z_goto (pc := 83) hZ 37 dN_raise_83 (by decide) ?_
            exact z_sub (pc := 37) hZ [0, 1, 2, 3] rfl (ih37 v80_14 f77_13 (by exact Nat.lt_of_lt_of_le (dec_up (x := x3_37) (b := v6_2) (by assumption) (by assumption)) (Nat.le_of_lt_succ m37)) (by first | exact rsi_s r37 p3_1 ev6_2 c39_6 ev44_7 ev46_8 (Or.inl ⟨c48_9, nokey_⟩) ev64_10 (Or.inr ⟨c66_11, p77_13⟩) ev80_14 | exact rsi_s r37 p3_1 ev6_2 c39_6 ev44_7 ev46_8 (Or.inl ⟨c48_9, nokey_⟩) ev64_10 (Or.inl ⟨c66_11, rfl⟩) ev80_14 | exact rsi_s r37 p3_1 ev6_2 c39_6 ev44_7 ev46_8 (Or.inr ⟨c48_9, rfl⟩) ev64_10 (Or.inr ⟨c66_11, p77_13⟩) ev80_14 | exact rsi_s r37 p3_1 ev6_2 c39_6 ev44_7 ev46_8 (Or.inr ⟨c48_9, rfl⟩) ev64_10 (Or.inl ⟨c66_11, rfl⟩) ev80_14))
        · refine z_aload_n (pc := 51) hZ 2 dN_raise_51 rfl rfl ?_
          refine z_get (pc := 52) (ci := 1) hZ 0 rfl rfl uc_N 1 (by decide) (zb fl_N_16) rfl dN_raise_52 ?_
          refine z_aload_n (pc := 55) hZ 2 dN_raise_55 rfl rfl ?_
          refine z_get (pc := 56) (ci := 1) hZ 0 rfl rfl uc_N 3 (by decide) (zb fl_N_23) rfl dN_raise_56 ?_
          refine z_callSN (pc := 59) (As := [.ref v1, .ref v3]) (rest := []) hZ (cR_multiply l D (TY cR c1 c2 c3) (CX h0 ra v1 v2 v3 cR g Y) LP f_37 v1 hH.1 v3 hH.2.2.1) zyR_multiply (z_good co_R_multiply) nl_N_102 (zb in_R) (zb st_R_multiply) rfl rfl (by decide) rfl rfl (Nat.le_of_ble_eq_true rfl) ⟨Nat.zero_le _, Nat.zero_le _⟩ dN_raise_59 (z_kv (fun w1 tys1 hp => ?_))
          obtain ⟨f59_15, rfl, rfl, p59_15⟩ := hp
          refine z_iload_n (pc := 62) hZ 0 dN_raise_62 rfl rfl ?_
          refine z_iconst (pc := 63) hZ 1 dN_raise_63 (by decide) ?_
          refine z_iadd (pc := 64) hZ dN_raise_64 (fun v64_16 ev64_16 => ?_)
          refine z_iload_n (pc := 65) hZ 1 dN_raise_65 rfl rfl ?_
          refine z_icmp_ge (pc := 66) hZ 80 dN_raise_66 (by decide) (fun c66_17 => ?_) (fun c66_17 => ?_)
          · refine z_iinc (pc := 80) hZ 0 (fun v9 => [(3, .int v9), (2, .int v6_2), (0, .ref h0), (1, .int p1)]) dN_raise_80 rfl (by decide) (fun _ => rfl) (fun v80_18 ev80_18 => ?_)
            refine z_goto (pc := 83) hZ 37 dN_raise_83 (by decide) ?_
            exact z_sub (pc := 37) hZ [0, 1, 2, 3] rfl (ih37 v80_18 f59_15 (by exact Nat.lt_of_lt_of_le (dec_up (x := x3_37) (b := v6_2) (by assumption) (by assumption)) (Nat.le_of_lt_succ m37)) (by first | exact rsi_s r37 p3_1 ev6_2 c39_6 ev44_7 ev46_8 (Or.inl ⟨c48_9, p59_15⟩) ev64_16 (Or.inr ⟨c66_17, nokey_⟩) ev80_18 | exact rsi_s r37 p3_1 ev6_2 c39_6 ev44_7 ev46_8 (Or.inl ⟨c48_9, p59_15⟩) ev64_16 (Or.inl ⟨c66_17, rfl⟩) ev80_18 | exact rsi_s r37 p3_1 ev6_2 c39_6 ev44_7 ev46_8 (Or.inr ⟨c48_9, rfl⟩) ev64_16 (Or.inr ⟨c66_17, nokey_⟩) ev80_18 | exact rsi_s r37 p3_1 ev6_2 c39_6 ev44_7 ev46_8 (Or.inr ⟨c48_9, rfl⟩) ev64_16 (Or.inl ⟨c66_17, rfl⟩) ev80_18))
          · refine z_aload_n (pc := 69) hZ 2 dN_raise_69 rfl rfl ?_
            refine z_get (pc := 70) (ci := 1) hZ 0 rfl rfl uc_N 3 (by decide) (zb fl_N_23) rfl dN_raise_70 ?_
            refine z_aload_n (pc := 73) hZ 2 dN_raise_73 rfl rfl ?_
            refine z_get (pc := 74) (ci := 1) hZ 0 rfl rfl uc_N 3 (by decide) (zb fl_N_23) rfl dN_raise_74 ?_
            refine z_callSN (pc := 77) (As := [.ref v3, .ref v3]) (rest := []) hZ (cR_multiply l D (TY cR c1 c2 c3) (CX h0 ra v1 v2 v3 cR g Y) LP f59_15 v3 hH.2.2.1 v3 hH.2.2.1) zyR_multiply (z_good co_R_multiply) nl_N_102 (zb in_R) (zb st_R_multiply) rfl rfl (by decide) rfl rfl (Nat.le_of_ble_eq_true rfl) ⟨Nat.zero_le _, Nat.zero_le _⟩ dN_raise_77 (z_kv (fun w1 tys1 hp => ?_))
            obtain ⟨f77_19, rfl, rfl, p77_19⟩ := hp
            refine z_iinc (pc := 80) hZ 0 (fun v9 => [(3, .int v9), (2, .int v6_2), (0, .ref h0), (1, .int p1)]) dN_raise_80 rfl (by decide) (fun _ => rfl) (fun v80_20 ev80_20 => ?_)
            refine z_goto (pc := 83) hZ 37 dN_raise_83 (by decide) ?_
            exact z_sub (pc := 37) hZ [0, 1, 2, 3] rfl (ih37 v80_20 f77_19 (by exact Nat.lt_of_lt_of_le (dec_up (x := x3_37) (b := v6_2) (by assumption) (by assumption)) (Nat.le_of_lt_succ m37)) (by first | exact rsi_s r37 p3_1 ev6_2 c39_6 ev44_7 ev46_8 (Or.inl ⟨c48_9, p59_15⟩) ev64_16 (Or.inr ⟨c66_17, p77_19⟩) ev80_20 | exact rsi_s r37 p3_1 ev6_2 c39_6 ev44_7 ev46_8 (Or.inl ⟨c48_9, p59_15⟩) ev64_16 (Or.inl ⟨c66_17, rfl⟩) ev80_20 | exact rsi_s r37 p3_1 ev6_2 c39_6 ev44_7 ev46_8 (Or.inr ⟨c48_9, rfl⟩) ev64_16 (Or.inr ⟨c66_17, p77_19⟩) ev80_20 | exact rsi_s r37 p3_1 ev6_2 c39_6 ev44_7 ev46_8 (Or.inr ⟨c48_9, rfl⟩) ev64_16 (Or.inl ⟨c66_17, rfl⟩) ev80_20))
  exact z_sub (pc := 37) hZ [0, 1, 2, 3] rfl (L37 _ 0 f32_5 (Nat.lt_succ_self _) (by exact rsi_0 p16_3 p23_4 p32_5))
set_option maxHeartbeats 4000000 in
set_option maxRecDepth 100000 in
theorem cN_power (l : Launch) (D : va_G) (cR c1 c2 c3 : ClassId) (h0 ra v1 v2 v3 : Nat) (Y : va_W) (LP : List Nat) (f : Nat → V3) (g : Nat → Option Nat) (hH : zH LP v1 v2 v3 g)  : zM l D vwCl zNF zNM yN_power wsN_power { frames := 6, cells := 0, slots := 0, locals := 160 } [.ref h0] (CX h0 ra v1 v2 v3 cR g Y ++ PL LP f) (TY cR c1 c2 c3) (qI (fun r w' tys' => ∃ f' : Nat → V3, CX h0 ra v1 v2 v3 cR g Y ++ PL LP f' = w' ∧ (TY cR c1 c2 c3) = tys' ∧ (OPP f f' v1 v2 v3 r (fun _ b => powE b) powA))) := by
  refine z_met (cc := bN_power) (maxL := 3) (ret := (some .int)) (isI := false) (own := RN) (by decide +kernel) rfl rfl (fun h => by cases h) (Nat.le_of_ble_eq_true rfl) (fun Z hZ => ?_)
  show Z 0 0 (TY cR c1 c2 c3) 0 [(0, .ref h0)] [] (CX h0 ra v1 v2 v3 cR g Y ++ PL LP f)
  refine z_aload_n (pc := 0) hZ 0 dN_power_0 rfl rfl ?_
  refine z_get (pc := 1) (ci := 1) hZ 0 rfl rfl uc_N 2 (by decide) (zb fl_N_20) rfl dN_power_1 ?_
  obtain ⟨q4_1, hq4_1⟩ := zp_at (X := CX h0 ra v1 v2 v3 cR g Y) (f := f) hH.2.1
  refine z_callVN (pc := 4) (As := []) (rest := []) hZ (cV_countsAsWhole l D (TY cR c1 c2 c3) (CX h0 ra v1 v2 v3 cR g Y) LP f v2 hH.2.1) zyV_countsAsWhole (z_good co_V_countsAsWhole) nl_N_135 (zb in_V) (zb im_V_countsAsWhole) (zb se_V_countsAsWhole) q4_1 hq4_1 rfl rfl rfl (by decide) rfl rfl (Nat.le_of_ble_eq_true rfl) ⟨Nat.zero_le _, Nat.zero_le _⟩ dN_power_4 (z_ki (fun r4_1 w1 tys1 hp => ?_))
  obtain ⟨rfl, rfl, p4_1⟩ := hp
  refine z_if_eq (pc := 7) hZ 20 dN_power_7 (by decide) (fun c7_2 => ?_) (fun c7_2 => ?_)
  · refine z_ldc2 (pc := 20) hZ 65537 (zb kc_N_142) dN_power_20 ?_
    refine z_lstore_n (pc := 23) hZ [(1, .long 65537), (0, .ref h0)] dN_power_23 rfl (by decide) rfl ?_
    refine z_lload_n (pc := 24) hZ 0 dN_power_24 rfl rfl ?_
    refine z_ldc2 (pc := 25) hZ (-65536) (zb kc_N_144) dN_power_25 ?_
    refine z_lif_lt (pc := 28) hZ 40 dN_power_28 dN_power_29 (by decide) (fun c9 => False.elim (absurd c9 (by decide))) (fun c29 => ?_)
    refine z_lload_n (pc := 32) hZ 0 dN_power_32 rfl rfl ?_
    refine z_ldc2 (pc := 33) hZ 65536 (zb kc_N_146) dN_power_33 ?_
    refine z_lif_le (pc := 36) hZ 42 dN_power_36 dN_power_37 (by decide) (fun c9 => False.elim (absurd c9 (by decide))) (fun c37 => ?_)
    refine z_iconst (pc := 40) hZ 3 dN_power_40 (by decide) ?_
    exact z_reti (pc := 41) hZ dN_power_41 .int rfl rfl ⟨_, rfl, _, rfl, rfl, (by first | exact po_1 p4_1 c7_2 | exact po_2 p4_1 c7_2 nokey_ (Or.inl c29) | exact po_2 p4_1 c7_2 nokey_ (Or.inr c37))⟩
  · refine z_aload_n (pc := 10) hZ 0 dN_power_10 rfl rfl ?_
    refine z_get (pc := 11) (ci := 1) hZ 0 rfl rfl uc_N 2 (by decide) (zb fl_N_20) rfl dN_power_11 ?_
    obtain ⟨q14_3, hq14_3⟩ := zp_at (X := CX h0 ra v1 v2 v3 cR g Y) (f := f) hH.2.1
    refine z_callVN (pc := 14) (As := []) (rest := []) hZ (cV_asWhole l D (TY cR c1 c2 c3) (CX h0 ra v1 v2 v3 cR g Y) LP f v2 hH.2.1) zyV_asWhole (z_good co_V_asWhole) nl_N_138 (zb in_V) (zb im_V_asWhole) (zb se_V_asWhole) q14_3 hq14_3 rfl rfl rfl (by decide) rfl rfl (Nat.le_of_ble_eq_true rfl) ⟨Nat.zero_le _, Nat.zero_le _⟩ dN_power_14 (z_kl (fun r14_3 w1 tys1 hp => ?_))
    obtain ⟨rfl, rfl, p14_3⟩ := hp
    refine z_goto (pc := 17) hZ 23 dN_power_17 (by decide) ?_
    refine z_lstore_n (pc := 23) hZ [(1, .long r14_3), (0, .ref h0)] dN_power_23 rfl (by decide) rfl ?_
    refine z_lload_n (pc := 24) hZ 0 dN_power_24 rfl rfl ?_
    refine z_ldc2 (pc := 25) hZ (-65536) (zb kc_N_144) dN_power_25 ?_
    refine z_lif_lt (pc := 28) hZ 40 dN_power_28 dN_power_29 (by decide) (fun c29_4 => ?_) (fun c29_4 => ?_)
    · refine z_iconst (pc := 40) hZ 3 dN_power_40 (by decide) ?_
      exact z_reti (pc := 41) hZ dN_power_41 .int rfl rfl ⟨_, rfl, _, rfl, rfl, (by first | exact po_1 p4_1 c7_2 | exact po_2 p4_1 c7_2 p14_3 (Or.inl c29_4) | exact po_2 p4_1 c7_2 p14_3 (Or.inr nokey_))⟩
    · refine z_lload_n (pc := 32) hZ 0 dN_power_32 rfl rfl ?_
      refine z_ldc2 (pc := 33) hZ 65536 (zb kc_N_146) dN_power_33 ?_
      refine z_lif_le (pc := 36) hZ 42 dN_power_36 dN_power_37 (by decide) (fun c37_5 => ?_) (fun c37_5 => ?_)
      · refine z_aload_n (pc := 42) hZ 1 dN_power_42 rfl rfl ?_
        refine z_lload_n (pc := 43) hZ 0 dN_power_43 rfl rfl ?_
        refine z_lconst (pc := 44) hZ 0 dN_power_44 (by decide) ?_
        refine z_lif_ge (pc := 45) hZ 54 dN_power_45 dN_power_46 (by decide) (fun c46_6 => ?_) (fun c46_6 => ?_)
        · refine z_lload_n (pc := 54) hZ 0 dN_power_54 rfl rfl ?_
          refine z_l2i (pc := 55) hZ dN_power_55 (fun v55_7 ev55_7 => ?_)
          refine z_callV (pc := 56) (As := [.int v55_7]) (rest := []) hZ (cN_raise l D cR c1 c2 c3 h0 ra v1 v2 v3 Y LP f g hH v55_7) zyN_raise (z_goodV ml_N_148 im_N_raise se_N_raise in_N co_N_raise) 0 rfl rfl rfl rfl (by decide) rfl rfl (Nat.le_of_ble_eq_true rfl) ⟨Nat.zero_le _, Nat.zero_le _⟩ dN_power_56 (z_kv (fun w1 tys1 hp => ?_))
          obtain ⟨f56_8, rfl, rfl, p56_8⟩ := hp
          refine z_lload_n (pc := 59) hZ 0 dN_power_59 rfl rfl ?_
          refine z_lconst (pc := 60) hZ 0 dN_power_60 (by decide) ?_
          refine z_lif_ge (pc := 61) hZ 96 dN_power_61 dN_power_62 (by decide) (fun c62 => ?_) (fun c9 => False.elim (by first | exact absurd c9 c46_6 | exact absurd c46_6 c9 | exact absurd c9 (Int64.not_lt.mpr c46_6) | exact absurd c9 (Int64.not_le.mpr c46_6) | exact c9 ((Int64.not_lt).mp c46_6) | exact c9 ((Int64.not_le).mp c46_6)))
          refine z_iconst (pc := 96) hZ 0 dN_power_96 (by decide) ?_
          exact z_reti (pc := 97) hZ dN_power_97 .int rfl rfl ⟨_, rfl, _, rfl, rfl, (by first | exact po_3 p4_1 c7_2 p14_3 c29_4 c37_5 c46_6 ev55_7 p56_8 | exact po_4 p4_1 c7_2 p14_3 c29_4 c46_6 nokey_ ev55_7 p56_8 nokey_ nokey_ nokey_)⟩
        · refine z_lload_n (pc := 49) hZ 0 dN_power_49 rfl rfl ?_
          refine z_lneg (pc := 50) hZ dN_power_50 (fun v50_9 ev50_9 => ?_)
          refine z_goto (pc := 51) hZ 55 dN_power_51 (by decide) ?_
          refine z_l2i (pc := 55) hZ dN_power_55 (fun v55_10 ev55_10 => ?_)
          refine z_callV (pc := 56) (As := [.int v55_10]) (rest := []) hZ (cN_raise l D cR c1 c2 c3 h0 ra v1 v2 v3 Y LP f g hH v55_10) zyN_raise (z_goodV ml_N_148 im_N_raise se_N_raise in_N co_N_raise) 0 rfl rfl rfl rfl (by decide) rfl rfl (Nat.le_of_ble_eq_true rfl) ⟨Nat.zero_le _, Nat.zero_le _⟩ dN_power_56 (z_kv (fun w1 tys1 hp => ?_))
          obtain ⟨f56_11, rfl, rfl, p56_11⟩ := hp
          refine z_lload_n (pc := 59) hZ 0 dN_power_59 rfl rfl ?_
          refine z_lconst (pc := 60) hZ 0 dN_power_60 (by decide) ?_
          refine z_lif_ge (pc := 61) hZ 96 dN_power_61 dN_power_62 (by decide) (fun c9 => False.elim (by first | exact absurd c9 c46_6 | exact absurd c46_6 c9 | exact absurd c9 (Int64.not_lt.mpr c46_6) | exact absurd c9 (Int64.not_le.mpr c46_6) | exact c9 ((Int64.not_lt).mp c46_6) | exact c9 ((Int64.not_le).mp c46_6))) (fun c62 => ?_)
          refine z_aload_n (pc := 65) hZ 1 dN_power_65 rfl rfl ?_
          refine z_get (pc := 66) (ci := 1) hZ 0 rfl rfl uc_N 3 (by decide) (zb fl_N_23) rfl dN_power_66 ?_
          refine z_lconst (pc := 69) hZ 1 dN_power_69 (by decide) ?_
          refine z_iconst (pc := 70) hZ 0 dN_power_70 (by decide) ?_
          obtain ⟨q71_12, hq71_12⟩ := zp_at (X := CX h0 ra v1 v2 v3 cR g Y) (f := f56_11) hH.2.2.1
          refine z_callVN (pc := 71) (As := [.long 1, .int 0]) (rest := []) hZ (cV_setReal l D (TY cR c1 c2 c3) (CX h0 ra v1 v2 v3 cR g Y) LP f56_11 v3 hH.2.2.1 1 0) zyV_setReal (z_good co_V_setReal) nl_N_34 (zb in_V) (zb im_V_setReal) (zb se_V_setReal) q71_12 hq71_12 rfl rfl rfl (by decide) rfl rfl (Nat.le_of_ble_eq_true rfl) ⟨Nat.zero_le _, Nat.zero_le _⟩ dN_power_71 (z_kv (fun w1 tys1 hp => ?_))
          obtain ⟨f71_12, rfl, rfl, p71_12⟩ := hp
          refine z_aload_n (pc := 74) hZ 1 dN_power_74 rfl rfl ?_
          refine z_get (pc := 75) (ci := 1) hZ 0 rfl rfl uc_N 3 (by decide) (zb fl_N_23) rfl dN_power_75 ?_
          refine z_aload_n (pc := 78) hZ 1 dN_power_78 rfl rfl ?_
          refine z_get (pc := 79) (ci := 1) hZ 0 rfl rfl uc_N 1 (by decide) (zb fl_N_16) rfl dN_power_79 ?_
          refine z_callSN (pc := 82) (As := [.ref v3, .ref v1]) (rest := []) hZ (cR_divide l D (TY cR c1 c2 c3) (CX h0 ra v1 v2 v3 cR g Y) LP f71_12 v3 hH.2.2.1 v1 hH.1) zyR_divide (z_good co_R_divide) nl_N_129 (zb in_R) (zb st_R_divide) rfl rfl (by decide) rfl rfl (Nat.le_of_ble_eq_true rfl) ⟨Nat.zero_le _, Nat.zero_le _⟩ dN_power_82 (z_kv (fun w1 tys1 hp => ?_))
          obtain ⟨f82_13, rfl, rfl, p82_13⟩ := hp
          refine z_aload_n (pc := 85) hZ 1 dN_power_85 rfl rfl ?_
          refine z_get (pc := 86) (ci := 1) hZ 0 rfl rfl uc_N 1 (by decide) (zb fl_N_16) rfl dN_power_86 ?_
          refine z_aload_n (pc := 89) hZ 1 dN_power_89 rfl rfl ?_
          refine z_get (pc := 90) (ci := 1) hZ 0 rfl rfl uc_N 3 (by decide) (zb fl_N_23) rfl dN_power_90 ?_
          obtain ⟨q93_14, hq93_14⟩ := zp_at (X := CX h0 ra v1 v2 v3 cR g Y) (f := f82_13) hH.1
          refine z_callVN (pc := 93) (As := [.ref v3]) (rest := []) hZ (cV_become l D (TY cR c1 c2 c3) (CX h0 ra v1 v2 v3 cR g Y) LP f82_13 v1 hH.1 v3 hH.2.2.1) zyV_become (z_good co_V_become) nl_N_46 (zb in_V) (zb im_V_become) (zb se_V_become) q93_14 hq93_14 rfl rfl rfl (by decide) rfl rfl (Nat.le_of_ble_eq_true rfl) ⟨Nat.zero_le _, Nat.zero_le _⟩ dN_power_93 (z_kv (fun w1 tys1 hp => ?_))
          obtain ⟨f93_14, rfl, rfl, p93_14⟩ := hp
          refine z_iconst (pc := 96) hZ 0 dN_power_96 (by decide) ?_
          exact z_reti (pc := 97) hZ dN_power_97 .int rfl rfl ⟨_, rfl, _, rfl, rfl, (by first | exact po_3 p4_1 c7_2 p14_3 c29_4 c37_5 c46_6 ev55_10 p56_11 | exact po_4 p4_1 c7_2 p14_3 c29_4 c46_6 ev50_9 ev55_10 p56_11 p71_12 p82_13 p93_14)⟩
      · refine z_iconst (pc := 40) hZ 3 dN_power_40 (by decide) ?_
        exact z_reti (pc := 41) hZ dN_power_41 .int rfl rfl ⟨_, rfl, _, rfl, rfl, (by first | exact po_1 p4_1 c7_2 | exact po_2 p4_1 c7_2 p14_3 (Or.inl c29_4) | exact po_2 p4_1 c7_2 p14_3 (Or.inr c37_5))⟩
set_option maxHeartbeats 4000000 in
set_option maxRecDepth 100000 in
theorem cN_combineBits (l : Launch) (D : va_G) (cR c1 c2 c3 : ClassId) (h0 ra v1 v2 v3 : Nat) (Y : va_W) (LP : List Nat) (f : Nat → V3) (g : Nat → Option Nat) (hH : zH LP v1 v2 v3 g) (p1 : Int32) : zM l D vwCl zNF zNM yN_combineBits wsN_combineBits { frames := 1, cells := 0, slots := 0, locals := 23 } [.ref h0, .int p1] (CX h0 ra v1 v2 v3 cR g Y ++ PL LP f) (TY cR c1 c2 c3) (qI (fun r w' tys' => ∃ f' : Nat → V3, CX h0 ra v1 v2 v3 cR g Y ++ PL LP f' = w' ∧ (TY cR c1 c2 c3) = tys' ∧ (OPP f f' v1 v2 v3 r bitE (bitA p1)))) := by
  refine z_met (cc := bN_combineBits) (maxL := 6) (ret := (some .int)) (isI := false) (own := RN) (by decide +kernel) rfl rfl (fun h => by cases h) (Nat.le_of_ble_eq_true rfl) (fun Z hZ => ?_)
  show Z 0 0 (TY cR c1 c2 c3) 0 [(0, .ref h0), (1, .int p1)] [] (CX h0 ra v1 v2 v3 cR g Y ++ PL LP f)
  refine z_aload_n (pc := 0) hZ 0 dN_combineBits_0 rfl rfl ?_
  refine z_get (pc := 1) (ci := 1) hZ 0 rfl rfl uc_N 1 (by decide) (zb fl_N_16) rfl dN_combineBits_1 ?_
  obtain ⟨q4_1, hq4_1⟩ := zp_at (X := CX h0 ra v1 v2 v3 cR g Y) (f := f) hH.1
  refine z_callVN (pc := 4) (As := []) (rest := []) hZ (cV_countsAsWhole l D (TY cR c1 c2 c3) (CX h0 ra v1 v2 v3 cR g Y) LP f v1 hH.1) zyV_countsAsWhole (z_good co_V_countsAsWhole) nl_N_135 (zb in_V) (zb im_V_countsAsWhole) (zb se_V_countsAsWhole) q4_1 hq4_1 rfl rfl rfl (by decide) rfl rfl (Nat.le_of_ble_eq_true rfl) ⟨Nat.zero_le _, Nat.zero_le _⟩ dN_combineBits_4 (z_ki (fun r4_1 w1 tys1 hp => ?_))
  obtain ⟨rfl, rfl, p4_1⟩ := hp
  refine z_if_eq (pc := 7) hZ 20 dN_combineBits_7 (by decide) (fun c7_2 => ?_) (fun c7_2 => ?_)
  · refine z_iconst (pc := 20) hZ 2 dN_combineBits_20 (by decide) ?_
    exact z_reti (pc := 21) hZ dN_combineBits_21 .int rfl rfl ⟨_, rfl, _, rfl, rfl, (by first | exact bi_1 (Or.inl p4_1) c7_2 | exact bi_1 (Or.inr nokey_) nokey_)⟩
  · refine z_aload_n (pc := 10) hZ 0 dN_combineBits_10 rfl rfl ?_
    refine z_get (pc := 11) (ci := 1) hZ 0 rfl rfl uc_N 2 (by decide) (zb fl_N_20) rfl dN_combineBits_11 ?_
    obtain ⟨q14_3, hq14_3⟩ := zp_at (X := CX h0 ra v1 v2 v3 cR g Y) (f := f) hH.2.1
    refine z_callVN (pc := 14) (As := []) (rest := []) hZ (cV_countsAsWhole l D (TY cR c1 c2 c3) (CX h0 ra v1 v2 v3 cR g Y) LP f v2 hH.2.1) zyV_countsAsWhole (z_good co_V_countsAsWhole) nl_N_135 (zb in_V) (zb im_V_countsAsWhole) (zb se_V_countsAsWhole) q14_3 hq14_3 rfl rfl rfl (by decide) rfl rfl (Nat.le_of_ble_eq_true rfl) ⟨Nat.zero_le _, Nat.zero_le _⟩ dN_combineBits_14 (z_ki (fun r14_3 w1 tys1 hp => ?_))
    obtain ⟨rfl, rfl, p14_3⟩ := hp
    refine z_if_ne (pc := 17) hZ 22 dN_combineBits_17 (by decide) (fun c17_4 => ?_) (fun c17_4 => ?_)
    · refine z_aload_n (pc := 22) hZ 0 dN_combineBits_22 rfl rfl ?_
      refine z_get (pc := 23) (ci := 1) hZ 0 rfl rfl uc_N 1 (by decide) (zb fl_N_16) rfl dN_combineBits_23 ?_
      obtain ⟨q26_5, hq26_5⟩ := zp_at (X := CX h0 ra v1 v2 v3 cR g Y) (f := f) hH.1
      refine z_callVN (pc := 26) (As := []) (rest := []) hZ (cV_asWhole l D (TY cR c1 c2 c3) (CX h0 ra v1 v2 v3 cR g Y) LP f v1 hH.1) zyV_asWhole (z_good co_V_asWhole) nl_N_138 (zb in_V) (zb im_V_asWhole) (zb se_V_asWhole) q26_5 hq26_5 rfl rfl rfl (by decide) rfl rfl (Nat.le_of_ble_eq_true rfl) ⟨Nat.zero_le _, Nat.zero_le _⟩ dN_combineBits_26 (z_kl (fun r26_5 w1 tys1 hp => ?_))
      obtain ⟨rfl, rfl, p26_5⟩ := hp
      refine z_lstore_n (pc := 29) hZ [(2, .long r26_5), (0, .ref h0), (1, .int p1)] dN_combineBits_29 rfl (by decide) rfl ?_
      refine z_aload_n (pc := 30) hZ 1 dN_combineBits_30 rfl rfl ?_
      refine z_get (pc := 31) (ci := 1) hZ 0 rfl rfl uc_N 2 (by decide) (zb fl_N_20) rfl dN_combineBits_31 ?_
      obtain ⟨q34_6, hq34_6⟩ := zp_at (X := CX h0 ra v1 v2 v3 cR g Y) (f := f) hH.2.1
      refine z_callVN (pc := 34) (As := []) (rest := []) hZ (cV_asWhole l D (TY cR c1 c2 c3) (CX h0 ra v1 v2 v3 cR g Y) LP f v2 hH.2.1) zyV_asWhole (z_good co_V_asWhole) nl_N_138 (zb in_V) (zb im_V_asWhole) (zb se_V_asWhole) q34_6 hq34_6 rfl rfl rfl (by decide) rfl rfl (Nat.le_of_ble_eq_true rfl) ⟨Nat.zero_le _, Nat.zero_le _⟩ dN_combineBits_34 (z_kl (fun r34_6 w1 tys1 hp => ?_))
      obtain ⟨rfl, rfl, p34_6⟩ := hp
      refine z_lstore (pc := 37) hZ [(4, .long r34_6), (2, .long r26_5), (0, .ref h0), (1, .int p1)] dN_combineBits_37 (by decide) rfl ?_
      refine z_iload_n (pc := 39) hZ 3 dN_combineBits_39 rfl rfl ?_
      by_cases w40_7 : p1 = 7
      · refine z_tabAt (pc := 40) hZ 7 72 w40_7 dN_combineBits_40 (by decide) (by decide) rfl (by decide) ?_
        refine z_aload_n (pc := 72) hZ 2 dN_combineBits_72 rfl rfl ?_
        refine z_get (pc := 73) (ci := 1) hZ 0 rfl rfl uc_N 1 (by decide) (zb fl_N_16) rfl dN_combineBits_73 ?_
        refine z_lload_n (pc := 76) hZ 1 dN_combineBits_76 rfl rfl ?_
        refine z_lload (pc := 77) hZ 0 dN_combineBits_77 rfl ?_
        refine z_land (pc := 79) hZ dN_combineBits_79 (fun v79_7 ev79_7 => ?_)
        obtain ⟨q80_8, hq80_8⟩ := zp_at (X := CX h0 ra v1 v2 v3 cR g Y) (f := f) hH.1
        refine z_callVN (pc := 80) (As := [.long v79_7]) (rest := []) hZ (cV_setWhole l D (TY cR c1 c2 c3) (CX h0 ra v1 v2 v3 cR g Y) LP f v1 hH.1 v79_7) zyV_setWhole (z_good co_V_setWhole) nl_N_30 (zb in_V) (zb im_V_setWhole) (zb se_V_setWhole) q80_8 hq80_8 rfl rfl rfl (by decide) rfl rfl (Nat.le_of_ble_eq_true rfl) ⟨Nat.zero_le _, Nat.zero_le _⟩ dN_combineBits_80 (z_kv (fun w1 tys1 hp => ?_))
        obtain ⟨f80_8, rfl, rfl, p80_8⟩ := hp
        refine z_goto (pc := 83) hZ 144 dN_combineBits_83 (by decide) ?_
        refine z_iconst (pc := 144) hZ 0 dN_combineBits_144 (by decide) ?_
        exact z_reti (pc := 145) hZ dN_combineBits_145 .int rfl rfl ⟨_, rfl, _, rfl, rfl, (by first | exact bi_2 p4_1 c7_2 p14_3 c17_4 p26_5 p34_6 (by rw [if_pos w40_7]; exact ev79_7) p80_8 | exact bi_2 p4_1 c7_2 p14_3 c17_4 p26_5 p34_6 (by rw [if_neg w40_7, if_pos w40_8]; exact nokey_) nokey_ | exact bi_2 p4_1 c7_2 p14_3 c17_4 p26_5 p34_6 (by rw [if_neg w40_7, if_neg w40_8, if_pos w40_9]; exact nokey_) nokey_ | exact bi_2 p4_1 c7_2 p14_3 c17_4 p26_5 p34_6 (by rw [if_neg w40_7, if_neg w40_8, if_neg w40_9, if_pos w40_10]; exact nokey_) nokey_ | exact bi_2 p4_1 c7_2 p14_3 c17_4 p26_5 p34_6 (by rw [if_neg w40_7, if_neg w40_8, if_neg w40_9, if_neg w40_10]; exact nokey_ ▸ nokey_) nokey_)⟩
      by_cases w40_8 : p1 = 8
      · refine z_tabAt (pc := 40) hZ 8 86 w40_8 dN_combineBits_40 (by decide) (by decide) rfl (by decide) ?_
        refine z_aload_n (pc := 86) hZ 2 dN_combineBits_86 rfl rfl ?_
        refine z_get (pc := 87) (ci := 1) hZ 0 rfl rfl uc_N 1 (by decide) (zb fl_N_16) rfl dN_combineBits_87 ?_
        refine z_lload_n (pc := 90) hZ 1 dN_combineBits_90 rfl rfl ?_
        refine z_lload (pc := 91) hZ 0 dN_combineBits_91 rfl ?_
        refine z_lor (pc := 93) hZ dN_combineBits_93 (fun v93_9 ev93_9 => ?_)
        obtain ⟨q94_10, hq94_10⟩ := zp_at (X := CX h0 ra v1 v2 v3 cR g Y) (f := f) hH.1
        refine z_callVN (pc := 94) (As := [.long v93_9]) (rest := []) hZ (cV_setWhole l D (TY cR c1 c2 c3) (CX h0 ra v1 v2 v3 cR g Y) LP f v1 hH.1 v93_9) zyV_setWhole (z_good co_V_setWhole) nl_N_30 (zb in_V) (zb im_V_setWhole) (zb se_V_setWhole) q94_10 hq94_10 rfl rfl rfl (by decide) rfl rfl (Nat.le_of_ble_eq_true rfl) ⟨Nat.zero_le _, Nat.zero_le _⟩ dN_combineBits_94 (z_kv (fun w1 tys1 hp => ?_))
        obtain ⟨f94_10, rfl, rfl, p94_10⟩ := hp
        refine z_goto (pc := 97) hZ 144 dN_combineBits_97 (by decide) ?_
        refine z_iconst (pc := 144) hZ 0 dN_combineBits_144 (by decide) ?_
        exact z_reti (pc := 145) hZ dN_combineBits_145 .int rfl rfl ⟨_, rfl, _, rfl, rfl, (by first | exact bi_2 p4_1 c7_2 p14_3 c17_4 p26_5 p34_6 (by rw [if_pos w40_7]; exact nokey_) nokey_ | exact bi_2 p4_1 c7_2 p14_3 c17_4 p26_5 p34_6 (by rw [if_neg w40_7, if_pos w40_8]; exact ev93_9) p94_10 | exact bi_2 p4_1 c7_2 p14_3 c17_4 p26_5 p34_6 (by rw [if_neg w40_7, if_neg w40_8, if_pos w40_9]; exact nokey_) nokey_ | exact bi_2 p4_1 c7_2 p14_3 c17_4 p26_5 p34_6 (by rw [if_neg w40_7, if_neg w40_8, if_neg w40_9, if_pos w40_10]; exact nokey_) nokey_ | exact bi_2 p4_1 c7_2 p14_3 c17_4 p26_5 p34_6 (by rw [if_neg w40_7, if_neg w40_8, if_neg w40_9, if_neg w40_10]; exact nokey_ ▸ nokey_) nokey_)⟩
      by_cases w40_9 : p1 = 9
      · refine z_tabAt (pc := 40) hZ 9 100 w40_9 dN_combineBits_40 (by decide) (by decide) rfl (by decide) ?_
        refine z_aload_n (pc := 100) hZ 2 dN_combineBits_100 rfl rfl ?_
        refine z_get (pc := 101) (ci := 1) hZ 0 rfl rfl uc_N 1 (by decide) (zb fl_N_16) rfl dN_combineBits_101 ?_
        refine z_lload_n (pc := 104) hZ 1 dN_combineBits_104 rfl rfl ?_
        refine z_lload (pc := 105) hZ 0 dN_combineBits_105 rfl ?_
        refine z_lxor (pc := 107) hZ dN_combineBits_107 (fun v107_11 ev107_11 => ?_)
        obtain ⟨q108_12, hq108_12⟩ := zp_at (X := CX h0 ra v1 v2 v3 cR g Y) (f := f) hH.1
        refine z_callVN (pc := 108) (As := [.long v107_11]) (rest := []) hZ (cV_setWhole l D (TY cR c1 c2 c3) (CX h0 ra v1 v2 v3 cR g Y) LP f v1 hH.1 v107_11) zyV_setWhole (z_good co_V_setWhole) nl_N_30 (zb in_V) (zb im_V_setWhole) (zb se_V_setWhole) q108_12 hq108_12 rfl rfl rfl (by decide) rfl rfl (Nat.le_of_ble_eq_true rfl) ⟨Nat.zero_le _, Nat.zero_le _⟩ dN_combineBits_108 (z_kv (fun w1 tys1 hp => ?_))
        obtain ⟨f108_12, rfl, rfl, p108_12⟩ := hp
        refine z_goto (pc := 111) hZ 144 dN_combineBits_111 (by decide) ?_
        refine z_iconst (pc := 144) hZ 0 dN_combineBits_144 (by decide) ?_
        exact z_reti (pc := 145) hZ dN_combineBits_145 .int rfl rfl ⟨_, rfl, _, rfl, rfl, (by first | exact bi_2 p4_1 c7_2 p14_3 c17_4 p26_5 p34_6 (by rw [if_pos w40_7]; exact nokey_) nokey_ | exact bi_2 p4_1 c7_2 p14_3 c17_4 p26_5 p34_6 (by rw [if_neg w40_7, if_pos w40_8]; exact nokey_) nokey_ | exact bi_2 p4_1 c7_2 p14_3 c17_4 p26_5 p34_6 (by rw [if_neg w40_7, if_neg w40_8, if_pos w40_9]; exact ev107_11) p108_12 | exact bi_2 p4_1 c7_2 p14_3 c17_4 p26_5 p34_6 (by rw [if_neg w40_7, if_neg w40_8, if_neg w40_9, if_pos w40_10]; exact nokey_) nokey_ | exact bi_2 p4_1 c7_2 p14_3 c17_4 p26_5 p34_6 (by rw [if_neg w40_7, if_neg w40_8, if_neg w40_9, if_neg w40_10]; exact nokey_ ▸ nokey_) nokey_)⟩
      by_cases w40_10 : p1 = 10
      · refine z_tabAt (pc := 40) hZ 10 114 w40_10 dN_combineBits_40 (by decide) (by decide) rfl (by decide) ?_
        refine z_aload_n (pc := 114) hZ 2 dN_combineBits_114 rfl rfl ?_
        refine z_get (pc := 115) (ci := 1) hZ 0 rfl rfl uc_N 1 (by decide) (zb fl_N_16) rfl dN_combineBits_115 ?_
        refine z_lload_n (pc := 118) hZ 1 dN_combineBits_118 rfl rfl ?_
        refine z_lload (pc := 119) hZ 0 dN_combineBits_119 rfl ?_
        refine z_callS (pc := 121) (As := [.long r26_5, .long r34_6]) (rest := [.ref v1]) hZ (cN_shiftLeft l D (TY cR c1 c2 c3) (CX h0 ra v1 v2 v3 cR g Y ++ PL LP f) r26_5 r34_6) zyN_shiftLeft (z_goodS ml_N_156 st_N_shiftLeft in_N co_N_shiftLeft) rfl rfl (by decide) rfl rfl (Nat.le_of_ble_eq_true rfl) ⟨Nat.zero_le _, Nat.zero_le _⟩ dN_combineBits_121 (z_kl (fun r121_13 w1 tys1 hp => ?_))
        obtain ⟨rfl, rfl, p121_13⟩ := hp
        obtain ⟨q124_14, hq124_14⟩ := zp_at (X := CX h0 ra v1 v2 v3 cR g Y) (f := f) hH.1
        refine z_callVN (pc := 124) (As := [.long r121_13]) (rest := []) hZ (cV_setWhole l D (TY cR c1 c2 c3) (CX h0 ra v1 v2 v3 cR g Y) LP f v1 hH.1 r121_13) zyV_setWhole (z_good co_V_setWhole) nl_N_30 (zb in_V) (zb im_V_setWhole) (zb se_V_setWhole) q124_14 hq124_14 rfl rfl rfl (by decide) rfl rfl (Nat.le_of_ble_eq_true rfl) ⟨Nat.zero_le _, Nat.zero_le _⟩ dN_combineBits_124 (z_kv (fun w1 tys1 hp => ?_))
        obtain ⟨f124_14, rfl, rfl, p124_14⟩ := hp
        refine z_goto (pc := 127) hZ 144 dN_combineBits_127 (by decide) ?_
        refine z_iconst (pc := 144) hZ 0 dN_combineBits_144 (by decide) ?_
        exact z_reti (pc := 145) hZ dN_combineBits_145 .int rfl rfl ⟨_, rfl, _, rfl, rfl, (by first | exact bi_2 p4_1 c7_2 p14_3 c17_4 p26_5 p34_6 (by rw [if_pos w40_7]; exact nokey_) nokey_ | exact bi_2 p4_1 c7_2 p14_3 c17_4 p26_5 p34_6 (by rw [if_neg w40_7, if_pos w40_8]; exact nokey_) nokey_ | exact bi_2 p4_1 c7_2 p14_3 c17_4 p26_5 p34_6 (by rw [if_neg w40_7, if_neg w40_8, if_pos w40_9]; exact nokey_) nokey_ | exact bi_2 p4_1 c7_2 p14_3 c17_4 p26_5 p34_6 (by rw [if_neg w40_7, if_neg w40_8, if_neg w40_9, if_pos w40_10]; exact p121_13) p124_14 | exact bi_2 p4_1 c7_2 p14_3 c17_4 p26_5 p34_6 (by rw [if_neg w40_7, if_neg w40_8, if_neg w40_9, if_neg w40_10]; exact nokey_ ▸ nokey_) nokey_)⟩
      refine z_tabOut (pc := 40) hZ 130 dN_combineBits_40 (by have n7 := lv_neT w40_7 (a := 7) (by decide); have n8 := lv_neT w40_8 (a := 8) (by decide); have n9 := lv_neT w40_9 (a := 9) (by decide); have n10 := lv_neT w40_10 (a := 10) (by decide); omega) (by decide) ?_
      refine z_aload_n (pc := 130) hZ 2 dN_combineBits_130 rfl rfl ?_
      refine z_get (pc := 131) (ci := 1) hZ 0 rfl rfl uc_N 1 (by decide) (zb fl_N_16) rfl dN_combineBits_131 ?_
      refine z_lload_n (pc := 134) hZ 1 dN_combineBits_134 rfl rfl ?_
      refine z_lload (pc := 135) hZ 0 dN_combineBits_135 rfl ?_
      refine z_lneg (pc := 137) hZ dN_combineBits_137 (fun v137_15 ev137_15 => ?_)
      refine z_callS (pc := 138) (As := [.long r26_5, .long v137_15]) (rest := [.ref v1]) hZ (cN_shiftLeft l D (TY cR c1 c2 c3) (CX h0 ra v1 v2 v3 cR g Y ++ PL LP f) r26_5 v137_15) zyN_shiftLeft (z_goodS ml_N_156 st_N_shiftLeft in_N co_N_shiftLeft) rfl rfl (by decide) rfl rfl (Nat.le_of_ble_eq_true rfl) ⟨Nat.zero_le _, Nat.zero_le _⟩ dN_combineBits_138 (z_kl (fun r138_16 w1 tys1 hp => ?_))
      obtain ⟨rfl, rfl, p138_16⟩ := hp
      obtain ⟨q141_17, hq141_17⟩ := zp_at (X := CX h0 ra v1 v2 v3 cR g Y) (f := f) hH.1
      refine z_callVN (pc := 141) (As := [.long r138_16]) (rest := []) hZ (cV_setWhole l D (TY cR c1 c2 c3) (CX h0 ra v1 v2 v3 cR g Y) LP f v1 hH.1 r138_16) zyV_setWhole (z_good co_V_setWhole) nl_N_30 (zb in_V) (zb im_V_setWhole) (zb se_V_setWhole) q141_17 hq141_17 rfl rfl rfl (by decide) rfl rfl (Nat.le_of_ble_eq_true rfl) ⟨Nat.zero_le _, Nat.zero_le _⟩ dN_combineBits_141 (z_kv (fun w1 tys1 hp => ?_))
      obtain ⟨f141_17, rfl, rfl, p141_17⟩ := hp
      refine z_iconst (pc := 144) hZ 0 dN_combineBits_144 (by decide) ?_
      exact z_reti (pc := 145) hZ dN_combineBits_145 .int rfl rfl ⟨_, rfl, _, rfl, rfl, (by first | exact bi_2 p4_1 c7_2 p14_3 c17_4 p26_5 p34_6 (by rw [if_pos w40_7]; exact nokey_) nokey_ | exact bi_2 p4_1 c7_2 p14_3 c17_4 p26_5 p34_6 (by rw [if_neg w40_7, if_pos w40_8]; exact nokey_) nokey_ | exact bi_2 p4_1 c7_2 p14_3 c17_4 p26_5 p34_6 (by rw [if_neg w40_7, if_neg w40_8, if_pos w40_9]; exact nokey_) nokey_ | exact bi_2 p4_1 c7_2 p14_3 c17_4 p26_5 p34_6 (by rw [if_neg w40_7, if_neg w40_8, if_neg w40_9, if_pos w40_10]; exact nokey_) nokey_ | exact bi_2 p4_1 c7_2 p14_3 c17_4 p26_5 p34_6 (by rw [if_neg w40_7, if_neg w40_8, if_neg w40_9, if_neg w40_10]; exact ev137_15 ▸ p138_16) p141_17)⟩
    · refine z_iconst (pc := 20) hZ 2 dN_combineBits_20 (by decide) ?_
      exact z_reti (pc := 21) hZ dN_combineBits_21 .int rfl rfl ⟨_, rfl, _, rfl, rfl, (by first | exact bi_1 (Or.inl p4_1) c7_2 | exact bi_1 (Or.inr p14_3) c17_4)⟩
set_option maxHeartbeats 4000000 in
set_option maxRecDepth 100000 in
theorem cN_applyToOne (l : Launch) (D : va_G) (cR c1 c2 c3 : ClassId) (h0 ra v1 v2 v3 : Nat) (Y : va_W) (LP : List Nat) (f : Nat → V3) (g : Nat → Option Nat) (hH : zH LP v1 v2 v3 g) (p1 : Int32) : zM l D vwCl zNF zNM yN_applyToOne wsN_applyToOne { frames := 5, cells := 0, slots := 0, locals := 117 } [.ref h0, .int p1] (CX h0 ra v1 v2 v3 cR g Y ++ PL LP f) (TY cR c1 c2 c3) (qI (fun r w' tys' => ∃ f' : Nat → V3, CX h0 ra v1 v2 v3 cR g Y ++ PL LP f' = w' ∧ (TY cR c1 c2 c3) = tys' ∧ (OP1 f f' v1 v2 v3 r p1))) := by
  refine z_met (cc := bN_applyToOne) (maxL := 2) (ret := (some .int)) (isI := false) (own := RN) (by decide +kernel) rfl rfl (fun h => by cases h) (Nat.le_of_ble_eq_true rfl) (fun Z hZ => ?_)
  show Z 0 0 (TY cR c1 c2 c3) 0 [(0, .ref h0), (1, .int p1)] [] (CX h0 ra v1 v2 v3 cR g Y ++ PL LP f)
  refine z_iload_n (pc := 0) hZ 1 dN_applyToOne_0 rfl rfl ?_
  refine z_bipush (pc := 1) hZ 13 dN_applyToOne_1 (by decide) ?_
  refine z_icmp_eq (pc := 3) hZ 12 dN_applyToOne_3 (by decide) (fun c3_1 => ?_) (fun c3_1 => ?_)
  · refine z_aload_n (pc := 12) hZ 0 dN_applyToOne_12 rfl rfl ?_
    refine z_get (pc := 13) (ci := 1) hZ 0 rfl rfl uc_N 1 (by decide) (zb fl_N_16) rfl dN_applyToOne_13 ?_
    obtain ⟨q16_2, hq16_2⟩ := zp_at (X := CX h0 ra v1 v2 v3 cR g Y) (f := f) hH.1
    refine z_callVN (pc := 16) (As := []) (rest := []) hZ (cV_countsAsWhole l D (TY cR c1 c2 c3) (CX h0 ra v1 v2 v3 cR g Y) LP f v1 hH.1) zyV_countsAsWhole (z_good co_V_countsAsWhole) nl_N_135 (zb in_V) (zb im_V_countsAsWhole) (zb se_V_countsAsWhole) q16_2 hq16_2 rfl rfl rfl (by decide) rfl rfl (Nat.le_of_ble_eq_true rfl) ⟨Nat.zero_le _, Nat.zero_le _⟩ dN_applyToOne_16 (z_ki (fun r16_2 w1 tys1 hp => ?_))
    obtain ⟨rfl, rfl, p16_2⟩ := hp
    refine z_if_ne (pc := 19) hZ 24 dN_applyToOne_19 (by decide) (fun c19_3 => ?_) (fun c19_3 => ?_)
    · refine z_iload_n (pc := 24) hZ 1 dN_applyToOne_24 rfl rfl ?_
      by_cases w25_12 : p1 = 12
      · refine z_tabAt (pc := 25) hZ 12 60 w25_12 dN_applyToOne_25 (by decide) (by decide) rfl (by decide) ?_
        refine z_aload_n (pc := 60) hZ 0 dN_applyToOne_60 rfl rfl ?_
        refine z_get (pc := 61) (ci := 1) hZ 0 rfl rfl uc_N 1 (by decide) (zb fl_N_16) rfl dN_applyToOne_61 ?_
        obtain ⟨q64_4, hq64_4⟩ := zp_at (X := CX h0 ra v1 v2 v3 cR g Y) (f := f) hH.1
        refine z_callVN (pc := 64) (As := []) (rest := []) hZ (cV_negate l D (TY cR c1 c2 c3) (CX h0 ra v1 v2 v3 cR g Y) LP f v1 hH.1) zyV_negate (z_good co_V_negate) nl_N_108 (zb in_V) (zb im_V_negate) (zb se_V_negate) q64_4 hq64_4 rfl rfl rfl (by decide) rfl rfl (Nat.le_of_ble_eq_true rfl) ⟨Nat.zero_le _, Nat.zero_le _⟩ dN_applyToOne_64 (z_kv (fun w1 tys1 hp => ?_))
        obtain ⟨f64_4, rfl, rfl, p64_4⟩ := hp
        refine z_goto (pc := 67) hZ 169 dN_applyToOne_67 (by decide) ?_
        refine z_iconst (pc := 169) hZ 0 dN_applyToOne_169 (by decide) ?_
        exact z_reti (pc := 170) hZ dN_applyToOne_170 .int rfl rfl ⟨_, rfl, _, rfl, rfl, (by first | exact o_e (fun a ha => oE_n c3_1 nokey_) (o12 w25_12 p64_4) | exact o_e (fun a ha => oE_c ha p16_2 c19_3) (o12 w25_12 p64_4) | exact o_e (fun a ha => oE_n c3_1 nokey_) (o13 w25_13 p16_2 c19_3 nokey_ nokey_ nokey_) | exact o_e (fun a ha => oE_c ha p16_2 c19_3) (o13 w25_13 p16_2 c19_3 nokey_ nokey_ nokey_) | exact o_e (fun a ha => oE_n c3_1 nokey_) (o14 w25_14 nokey_ nokey_ (Or.inl ⟨nokey_, rfl⟩)) | exact o_e (fun a ha => oE_c ha p16_2 c19_3) (o14 w25_14 nokey_ nokey_ (Or.inl ⟨nokey_, rfl⟩)) | exact o_e (fun a ha => oE_n c3_1 nokey_) (o14 w25_14 nokey_ nokey_ (Or.inr ⟨nokey_, _, nokey_, nokey_⟩)) | exact o_e (fun a ha => oE_c ha p16_2 c19_3) (o14 w25_14 nokey_ nokey_ (Or.inr ⟨nokey_, _, nokey_, nokey_⟩)) | exact o_e (fun a ha => oE_n c3_1 nokey_) (o15 w25_15 nokey_) | exact o_e (fun a ha => oE_c ha p16_2 c19_3) (o15 w25_15 nokey_) | exact o_e (fun a ha => oE_n c3_1 nokey_) (o16 w25_16 p16_2 c19_3 nokey_ nokey_) | exact o_e (fun a ha => oE_c ha p16_2 c19_3) (o16 w25_16 p16_2 c19_3 nokey_ nokey_) | exact o_e (fun a ha => oE_n c3_1 nokey_) (o17 ⟨w25_12, w25_13, w25_14, w25_15, w25_16⟩ nokey_ (Or.inl ⟨nokey_, rfl⟩)) | exact o_e (fun a ha => oE_c ha p16_2 c19_3) (o17 ⟨w25_12, w25_13, w25_14, w25_15, w25_16⟩ nokey_ (Or.inl ⟨nokey_, rfl⟩)) | exact o_e (fun a ha => oE_n c3_1 nokey_) (o17 ⟨w25_12, w25_13, w25_14, w25_15, w25_16⟩ nokey_ (Or.inr ⟨nokey_, nokey_⟩)) | exact o_e (fun a ha => oE_c ha p16_2 c19_3) (o17 ⟨w25_12, w25_13, w25_14, w25_15, w25_16⟩ nokey_ (Or.inr ⟨nokey_, nokey_⟩)) | exact absurd w25_13 c3_1 | exact absurd w25_16 nokey_)⟩
      by_cases w25_13 : p1 = 13
      · refine z_tabAt (pc := 25) hZ 13 70 w25_13 dN_applyToOne_25 (by decide) (by decide) rfl (by decide) ?_
        refine z_aload_n (pc := 70) hZ 0 dN_applyToOne_70 rfl rfl ?_
        refine z_get (pc := 71) (ci := 1) hZ 0 rfl rfl uc_N 1 (by decide) (zb fl_N_16) rfl dN_applyToOne_71 ?_
        refine z_aload_n (pc := 74) hZ 0 dN_applyToOne_74 rfl rfl ?_
        refine z_get (pc := 75) (ci := 1) hZ 0 rfl rfl uc_N 1 (by decide) (zb fl_N_16) rfl dN_applyToOne_75 ?_
        obtain ⟨q78_5, hq78_5⟩ := zp_at (X := CX h0 ra v1 v2 v3 cR g Y) (f := f) hH.1
        refine z_callVN (pc := 78) (As := []) (rest := [.ref v1]) hZ (cV_asWhole l D (TY cR c1 c2 c3) (CX h0 ra v1 v2 v3 cR g Y) LP f v1 hH.1) zyV_asWhole (z_good co_V_asWhole) nl_N_138 (zb in_V) (zb im_V_asWhole) (zb se_V_asWhole) q78_5 hq78_5 rfl rfl rfl (by decide) rfl rfl (Nat.le_of_ble_eq_true rfl) ⟨Nat.zero_le _, Nat.zero_le _⟩ dN_applyToOne_78 (z_kl (fun r78_5 w1 tys1 hp => ?_))
        obtain ⟨rfl, rfl, p78_5⟩ := hp
        refine z_ldc2 (pc := 81) hZ (-1) (zb kc_N_163) dN_applyToOne_81 ?_
        refine z_lxor (pc := 84) hZ dN_applyToOne_84 (fun v84_6 ev84_6 => ?_)
        obtain ⟨q85_7, hq85_7⟩ := zp_at (X := CX h0 ra v1 v2 v3 cR g Y) (f := f) hH.1
        refine z_callVN (pc := 85) (As := [.long v84_6]) (rest := []) hZ (cV_setWhole l D (TY cR c1 c2 c3) (CX h0 ra v1 v2 v3 cR g Y) LP f v1 hH.1 v84_6) zyV_setWhole (z_good co_V_setWhole) nl_N_30 (zb in_V) (zb im_V_setWhole) (zb se_V_setWhole) q85_7 hq85_7 rfl rfl rfl (by decide) rfl rfl (Nat.le_of_ble_eq_true rfl) ⟨Nat.zero_le _, Nat.zero_le _⟩ dN_applyToOne_85 (z_kv (fun w1 tys1 hp => ?_))
        obtain ⟨f85_7, rfl, rfl, p85_7⟩ := hp
        refine z_goto (pc := 88) hZ 169 dN_applyToOne_88 (by decide) ?_
        refine z_iconst (pc := 169) hZ 0 dN_applyToOne_169 (by decide) ?_
        exact z_reti (pc := 170) hZ dN_applyToOne_170 .int rfl rfl ⟨_, rfl, _, rfl, rfl, (by first | exact o_e (fun a ha => oE_n c3_1 nokey_) (o12 w25_12 nokey_) | exact o_e (fun a ha => oE_c ha p16_2 c19_3) (o12 w25_12 nokey_) | exact o_e (fun a ha => oE_n c3_1 nokey_) (o13 w25_13 p16_2 c19_3 p78_5 ev84_6 p85_7) | exact o_e (fun a ha => oE_c ha p16_2 c19_3) (o13 w25_13 p16_2 c19_3 p78_5 ev84_6 p85_7) | exact o_e (fun a ha => oE_n c3_1 nokey_) (o14 w25_14 nokey_ nokey_ (Or.inl ⟨nokey_, rfl⟩)) | exact o_e (fun a ha => oE_c ha p16_2 c19_3) (o14 w25_14 nokey_ nokey_ (Or.inl ⟨nokey_, rfl⟩)) | exact o_e (fun a ha => oE_n c3_1 nokey_) (o14 w25_14 nokey_ nokey_ (Or.inr ⟨nokey_, _, nokey_, nokey_⟩)) | exact o_e (fun a ha => oE_c ha p16_2 c19_3) (o14 w25_14 nokey_ nokey_ (Or.inr ⟨nokey_, _, nokey_, nokey_⟩)) | exact o_e (fun a ha => oE_n c3_1 nokey_) (o15 w25_15 nokey_) | exact o_e (fun a ha => oE_c ha p16_2 c19_3) (o15 w25_15 nokey_) | exact o_e (fun a ha => oE_n c3_1 nokey_) (o16 w25_16 p16_2 c19_3 nokey_ nokey_) | exact o_e (fun a ha => oE_c ha p16_2 c19_3) (o16 w25_16 p16_2 c19_3 nokey_ nokey_) | exact o_e (fun a ha => oE_n c3_1 nokey_) (o17 ⟨w25_12, w25_13, w25_14, w25_15, w25_16⟩ nokey_ (Or.inl ⟨nokey_, rfl⟩)) | exact o_e (fun a ha => oE_c ha p16_2 c19_3) (o17 ⟨w25_12, w25_13, w25_14, w25_15, w25_16⟩ nokey_ (Or.inl ⟨nokey_, rfl⟩)) | exact o_e (fun a ha => oE_n c3_1 nokey_) (o17 ⟨w25_12, w25_13, w25_14, w25_15, w25_16⟩ nokey_ (Or.inr ⟨nokey_, nokey_⟩)) | exact o_e (fun a ha => oE_c ha p16_2 c19_3) (o17 ⟨w25_12, w25_13, w25_14, w25_15, w25_16⟩ nokey_ (Or.inr ⟨nokey_, nokey_⟩)) | exact absurd w25_13 c3_1 | exact absurd w25_16 nokey_)⟩
      by_cases w25_14 : p1 = 14
      · refine z_tabAt (pc := 25) hZ 14 91 w25_14 dN_applyToOne_25 (by decide) (by decide) rfl (by decide) ?_
        refine z_aload_n (pc := 91) hZ 0 dN_applyToOne_91 rfl rfl ?_
        refine z_get (pc := 92) (ci := 1) hZ 0 rfl rfl uc_N 1 (by decide) (zb fl_N_16) rfl dN_applyToOne_92 ?_
        obtain ⟨q95_8, hq95_8⟩ := zp_at (X := CX h0 ra v1 v2 v3 cR g Y) (f := f) hH.1
        refine z_callVN (pc := 95) (As := []) (rest := []) hZ (cV_roundDown l D (TY cR c1 c2 c3) (CX h0 ra v1 v2 v3 cR g Y) LP f v1 hH.1) zyV_roundDown (z_good co_V_roundDown) nl_N_132 (zb in_V) (zb im_V_roundDown) (zb se_V_roundDown) q95_8 hq95_8 rfl rfl rfl (by decide) rfl rfl (Nat.le_of_ble_eq_true rfl) ⟨Nat.zero_le _, Nat.zero_le _⟩ dN_applyToOne_95 (z_kv (fun w1 tys1 hp => ?_))
        obtain ⟨f95_8, rfl, rfl, p95_8⟩ := hp
        refine z_aload_n (pc := 98) hZ 0 dN_applyToOne_98 rfl rfl ?_
        refine z_get (pc := 99) (ci := 1) hZ 0 rfl rfl uc_N 1 (by decide) (zb fl_N_16) rfl dN_applyToOne_99 ?_
        obtain ⟨q102_9, hq102_9⟩ := zp_at (X := CX h0 ra v1 v2 v3 cR g Y) (f := f95_8) hH.1
        refine z_callVN (pc := 102) (As := []) (rest := []) hZ (cV_countsAsWhole l D (TY cR c1 c2 c3) (CX h0 ra v1 v2 v3 cR g Y) LP f95_8 v1 hH.1) zyV_countsAsWhole (z_good co_V_countsAsWhole) nl_N_135 (zb in_V) (zb im_V_countsAsWhole) (zb se_V_countsAsWhole) q102_9 hq102_9 rfl rfl rfl (by decide) rfl rfl (Nat.le_of_ble_eq_true rfl) ⟨Nat.zero_le _, Nat.zero_le _⟩ dN_applyToOne_102 (z_ki (fun r102_9 w1 tys1 hp => ?_))
        obtain ⟨rfl, rfl, p102_9⟩ := hp
        refine z_if_eq (pc := 105) hZ 169 dN_applyToOne_105 (by decide) (fun c105_10 => ?_) (fun c105_10 => ?_)
        · refine z_iconst (pc := 169) hZ 0 dN_applyToOne_169 (by decide) ?_
          exact z_reti (pc := 170) hZ dN_applyToOne_170 .int rfl rfl ⟨_, rfl, _, rfl, rfl, (by first | exact o_e (fun a ha => oE_n c3_1 nokey_) (o12 w25_12 nokey_) | exact o_e (fun a ha => oE_c ha p16_2 c19_3) (o12 w25_12 nokey_) | exact o_e (fun a ha => oE_n c3_1 nokey_) (o13 w25_13 p16_2 c19_3 nokey_ nokey_ nokey_) | exact o_e (fun a ha => oE_c ha p16_2 c19_3) (o13 w25_13 p16_2 c19_3 nokey_ nokey_ nokey_) | exact o_e (fun a ha => oE_n c3_1 nokey_) (o14 w25_14 p95_8 p102_9 (Or.inl ⟨c105_10, rfl⟩)) | exact o_e (fun a ha => oE_c ha p16_2 c19_3) (o14 w25_14 p95_8 p102_9 (Or.inl ⟨c105_10, rfl⟩)) | exact o_e (fun a ha => oE_n c3_1 nokey_) (o14 w25_14 p95_8 p102_9 (Or.inr ⟨c105_10, _, nokey_, nokey_⟩)) | exact o_e (fun a ha => oE_c ha p16_2 c19_3) (o14 w25_14 p95_8 p102_9 (Or.inr ⟨c105_10, _, nokey_, nokey_⟩)) | exact o_e (fun a ha => oE_n c3_1 nokey_) (o15 w25_15 nokey_) | exact o_e (fun a ha => oE_c ha p16_2 c19_3) (o15 w25_15 nokey_) | exact o_e (fun a ha => oE_n c3_1 nokey_) (o16 w25_16 p16_2 c19_3 nokey_ nokey_) | exact o_e (fun a ha => oE_c ha p16_2 c19_3) (o16 w25_16 p16_2 c19_3 nokey_ nokey_) | exact o_e (fun a ha => oE_n c3_1 nokey_) (o17 ⟨w25_12, w25_13, w25_14, w25_15, w25_16⟩ nokey_ (Or.inl ⟨nokey_, rfl⟩)) | exact o_e (fun a ha => oE_c ha p16_2 c19_3) (o17 ⟨w25_12, w25_13, w25_14, w25_15, w25_16⟩ nokey_ (Or.inl ⟨nokey_, rfl⟩)) | exact o_e (fun a ha => oE_n c3_1 nokey_) (o17 ⟨w25_12, w25_13, w25_14, w25_15, w25_16⟩ nokey_ (Or.inr ⟨nokey_, nokey_⟩)) | exact o_e (fun a ha => oE_c ha p16_2 c19_3) (o17 ⟨w25_12, w25_13, w25_14, w25_15, w25_16⟩ nokey_ (Or.inr ⟨nokey_, nokey_⟩)) | exact absurd w25_13 c3_1 | exact absurd w25_16 nokey_)⟩
        · refine z_aload_n (pc := 108) hZ 0 dN_applyToOne_108 rfl rfl ?_
          refine z_get (pc := 109) (ci := 1) hZ 0 rfl rfl uc_N 1 (by decide) (zb fl_N_16) rfl dN_applyToOne_109 ?_
          refine z_aload_n (pc := 112) hZ 0 dN_applyToOne_112 rfl rfl ?_
          refine z_get (pc := 113) (ci := 1) hZ 0 rfl rfl uc_N 1 (by decide) (zb fl_N_16) rfl dN_applyToOne_113 ?_
          obtain ⟨q116_11, hq116_11⟩ := zp_at (X := CX h0 ra v1 v2 v3 cR g Y) (f := f95_8) hH.1
          refine z_callVN (pc := 116) (As := []) (rest := [.ref v1]) hZ (cV_asWhole l D (TY cR c1 c2 c3) (CX h0 ra v1 v2 v3 cR g Y) LP f95_8 v1 hH.1) zyV_asWhole (z_good co_V_asWhole) nl_N_138 (zb in_V) (zb im_V_asWhole) (zb se_V_asWhole) q116_11 hq116_11 rfl rfl rfl (by decide) rfl rfl (Nat.le_of_ble_eq_true rfl) ⟨Nat.zero_le _, Nat.zero_le _⟩ dN_applyToOne_116 (z_kl (fun r116_11 w1 tys1 hp => ?_))
          obtain ⟨rfl, rfl, p116_11⟩ := hp
          obtain ⟨q119_12, hq119_12⟩ := zp_at (X := CX h0 ra v1 v2 v3 cR g Y) (f := f95_8) hH.1
          refine z_callVN (pc := 119) (As := [.long r116_11]) (rest := []) hZ (cV_setWhole l D (TY cR c1 c2 c3) (CX h0 ra v1 v2 v3 cR g Y) LP f95_8 v1 hH.1 r116_11) zyV_setWhole (z_good co_V_setWhole) nl_N_30 (zb in_V) (zb im_V_setWhole) (zb se_V_setWhole) q119_12 hq119_12 rfl rfl rfl (by decide) rfl rfl (Nat.le_of_ble_eq_true rfl) ⟨Nat.zero_le _, Nat.zero_le _⟩ dN_applyToOne_119 (z_kv (fun w1 tys1 hp => ?_))
          obtain ⟨f119_12, rfl, rfl, p119_12⟩ := hp
          refine z_goto (pc := 122) hZ 169 dN_applyToOne_122 (by decide) ?_
          refine z_iconst (pc := 169) hZ 0 dN_applyToOne_169 (by decide) ?_
          exact z_reti (pc := 170) hZ dN_applyToOne_170 .int rfl rfl ⟨_, rfl, _, rfl, rfl, (by first | exact o_e (fun a ha => oE_n c3_1 nokey_) (o12 w25_12 nokey_) | exact o_e (fun a ha => oE_c ha p16_2 c19_3) (o12 w25_12 nokey_) | exact o_e (fun a ha => oE_n c3_1 nokey_) (o13 w25_13 p16_2 c19_3 nokey_ nokey_ nokey_) | exact o_e (fun a ha => oE_c ha p16_2 c19_3) (o13 w25_13 p16_2 c19_3 nokey_ nokey_ nokey_) | exact o_e (fun a ha => oE_n c3_1 nokey_) (o14 w25_14 p95_8 p102_9 (Or.inl ⟨c105_10, rfl⟩)) | exact o_e (fun a ha => oE_c ha p16_2 c19_3) (o14 w25_14 p95_8 p102_9 (Or.inl ⟨c105_10, rfl⟩)) | exact o_e (fun a ha => oE_n c3_1 nokey_) (o14 w25_14 p95_8 p102_9 (Or.inr ⟨c105_10, _, p116_11, p119_12⟩)) | exact o_e (fun a ha => oE_c ha p16_2 c19_3) (o14 w25_14 p95_8 p102_9 (Or.inr ⟨c105_10, _, p116_11, p119_12⟩)) | exact o_e (fun a ha => oE_n c3_1 nokey_) (o15 w25_15 nokey_) | exact o_e (fun a ha => oE_c ha p16_2 c19_3) (o15 w25_15 nokey_) | exact o_e (fun a ha => oE_n c3_1 nokey_) (o16 w25_16 p16_2 c19_3 nokey_ nokey_) | exact o_e (fun a ha => oE_c ha p16_2 c19_3) (o16 w25_16 p16_2 c19_3 nokey_ nokey_) | exact o_e (fun a ha => oE_n c3_1 nokey_) (o17 ⟨w25_12, w25_13, w25_14, w25_15, w25_16⟩ nokey_ (Or.inl ⟨nokey_, rfl⟩)) | exact o_e (fun a ha => oE_c ha p16_2 c19_3) (o17 ⟨w25_12, w25_13, w25_14, w25_15, w25_16⟩ nokey_ (Or.inl ⟨nokey_, rfl⟩)) | exact o_e (fun a ha => oE_n c3_1 nokey_) (o17 ⟨w25_12, w25_13, w25_14, w25_15, w25_16⟩ nokey_ (Or.inr ⟨nokey_, nokey_⟩)) | exact o_e (fun a ha => oE_c ha p16_2 c19_3) (o17 ⟨w25_12, w25_13, w25_14, w25_15, w25_16⟩ nokey_ (Or.inr ⟨nokey_, nokey_⟩)) | exact absurd w25_13 c3_1 | exact absurd w25_16 nokey_)⟩
      by_cases w25_15 : p1 = 15
      · refine z_tabAt (pc := 25) hZ 15 125 w25_15 dN_applyToOne_25 (by decide) (by decide) rfl (by decide) ?_
        refine z_aload_n (pc := 125) hZ 0 dN_applyToOne_125 rfl rfl ?_
        refine z_get (pc := 126) (ci := 1) hZ 0 rfl rfl uc_N 1 (by decide) (zb fl_N_16) rfl dN_applyToOne_126 ?_
        obtain ⟨q129_13, hq129_13⟩ := zp_at (X := CX h0 ra v1 v2 v3 cR g Y) (f := f) hH.1
        refine z_callVN (pc := 129) (As := []) (rest := []) hZ (cV_turnReal l D (TY cR c1 c2 c3) (CX h0 ra v1 v2 v3 cR g Y) LP f v1 hH.1) zyV_turnReal (z_good co_V_turnReal) nl_N_92 (zb in_V) (zb im_V_turnReal) (zb se_V_turnReal) q129_13 hq129_13 rfl rfl rfl (by decide) rfl rfl (Nat.le_of_ble_eq_true rfl) ⟨Nat.zero_le _, Nat.zero_le _⟩ dN_applyToOne_129 (z_kv (fun w1 tys1 hp => ?_))
        obtain ⟨f129_13, rfl, rfl, p129_13⟩ := hp
        refine z_goto (pc := 132) hZ 169 dN_applyToOne_132 (by decide) ?_
        refine z_iconst (pc := 169) hZ 0 dN_applyToOne_169 (by decide) ?_
        exact z_reti (pc := 170) hZ dN_applyToOne_170 .int rfl rfl ⟨_, rfl, _, rfl, rfl, (by first | exact o_e (fun a ha => oE_n c3_1 nokey_) (o12 w25_12 nokey_) | exact o_e (fun a ha => oE_c ha p16_2 c19_3) (o12 w25_12 nokey_) | exact o_e (fun a ha => oE_n c3_1 nokey_) (o13 w25_13 p16_2 c19_3 nokey_ nokey_ nokey_) | exact o_e (fun a ha => oE_c ha p16_2 c19_3) (o13 w25_13 p16_2 c19_3 nokey_ nokey_ nokey_) | exact o_e (fun a ha => oE_n c3_1 nokey_) (o14 w25_14 nokey_ nokey_ (Or.inl ⟨nokey_, rfl⟩)) | exact o_e (fun a ha => oE_c ha p16_2 c19_3) (o14 w25_14 nokey_ nokey_ (Or.inl ⟨nokey_, rfl⟩)) | exact o_e (fun a ha => oE_n c3_1 nokey_) (o14 w25_14 nokey_ nokey_ (Or.inr ⟨nokey_, _, nokey_, nokey_⟩)) | exact o_e (fun a ha => oE_c ha p16_2 c19_3) (o14 w25_14 nokey_ nokey_ (Or.inr ⟨nokey_, _, nokey_, nokey_⟩)) | exact o_e (fun a ha => oE_n c3_1 nokey_) (o15 w25_15 p129_13) | exact o_e (fun a ha => oE_c ha p16_2 c19_3) (o15 w25_15 p129_13) | exact o_e (fun a ha => oE_n c3_1 nokey_) (o16 w25_16 p16_2 c19_3 nokey_ nokey_) | exact o_e (fun a ha => oE_c ha p16_2 c19_3) (o16 w25_16 p16_2 c19_3 nokey_ nokey_) | exact o_e (fun a ha => oE_n c3_1 nokey_) (o17 ⟨w25_12, w25_13, w25_14, w25_15, w25_16⟩ nokey_ (Or.inl ⟨nokey_, rfl⟩)) | exact o_e (fun a ha => oE_c ha p16_2 c19_3) (o17 ⟨w25_12, w25_13, w25_14, w25_15, w25_16⟩ nokey_ (Or.inl ⟨nokey_, rfl⟩)) | exact o_e (fun a ha => oE_n c3_1 nokey_) (o17 ⟨w25_12, w25_13, w25_14, w25_15, w25_16⟩ nokey_ (Or.inr ⟨nokey_, nokey_⟩)) | exact o_e (fun a ha => oE_c ha p16_2 c19_3) (o17 ⟨w25_12, w25_13, w25_14, w25_15, w25_16⟩ nokey_ (Or.inr ⟨nokey_, nokey_⟩)) | exact absurd w25_13 c3_1 | exact absurd w25_16 nokey_)⟩
      by_cases w25_16 : p1 = 16
      · refine z_tabAt (pc := 25) hZ 16 135 w25_16 dN_applyToOne_25 (by decide) (by decide) rfl (by decide) ?_
        refine z_aload_n (pc := 135) hZ 0 dN_applyToOne_135 rfl rfl ?_
        refine z_get (pc := 136) (ci := 1) hZ 0 rfl rfl uc_N 1 (by decide) (zb fl_N_16) rfl dN_applyToOne_136 ?_
        refine z_aload_n (pc := 139) hZ 0 dN_applyToOne_139 rfl rfl ?_
        refine z_get (pc := 140) (ci := 1) hZ 0 rfl rfl uc_N 1 (by decide) (zb fl_N_16) rfl dN_applyToOne_140 ?_
        obtain ⟨q143_14, hq143_14⟩ := zp_at (X := CX h0 ra v1 v2 v3 cR g Y) (f := f) hH.1
        refine z_callVN (pc := 143) (As := []) (rest := [.ref v1]) hZ (cV_asWhole l D (TY cR c1 c2 c3) (CX h0 ra v1 v2 v3 cR g Y) LP f v1 hH.1) zyV_asWhole (z_good co_V_asWhole) nl_N_138 (zb in_V) (zb im_V_asWhole) (zb se_V_asWhole) q143_14 hq143_14 rfl rfl rfl (by decide) rfl rfl (Nat.le_of_ble_eq_true rfl) ⟨Nat.zero_le _, Nat.zero_le _⟩ dN_applyToOne_143 (z_kl (fun r143_14 w1 tys1 hp => ?_))
        obtain ⟨rfl, rfl, p143_14⟩ := hp
        obtain ⟨q146_15, hq146_15⟩ := zp_at (X := CX h0 ra v1 v2 v3 cR g Y) (f := f) hH.1
        refine z_callVN (pc := 146) (As := [.long r143_14]) (rest := []) hZ (cV_setWhole l D (TY cR c1 c2 c3) (CX h0 ra v1 v2 v3 cR g Y) LP f v1 hH.1 r143_14) zyV_setWhole (z_good co_V_setWhole) nl_N_30 (zb in_V) (zb im_V_setWhole) (zb se_V_setWhole) q146_15 hq146_15 rfl rfl rfl (by decide) rfl rfl (Nat.le_of_ble_eq_true rfl) ⟨Nat.zero_le _, Nat.zero_le _⟩ dN_applyToOne_146 (z_kv (fun w1 tys1 hp => ?_))
        obtain ⟨f146_15, rfl, rfl, p146_15⟩ := hp
        refine z_goto (pc := 149) hZ 169 dN_applyToOne_149 (by decide) ?_
        refine z_iconst (pc := 169) hZ 0 dN_applyToOne_169 (by decide) ?_
        exact z_reti (pc := 170) hZ dN_applyToOne_170 .int rfl rfl ⟨_, rfl, _, rfl, rfl, (by first | exact o_e (fun a ha => oE_n c3_1 nokey_) (o12 w25_12 nokey_) | exact o_e (fun a ha => oE_c ha p16_2 c19_3) (o12 w25_12 nokey_) | exact o_e (fun a ha => oE_n c3_1 nokey_) (o13 w25_13 p16_2 c19_3 nokey_ nokey_ nokey_) | exact o_e (fun a ha => oE_c ha p16_2 c19_3) (o13 w25_13 p16_2 c19_3 nokey_ nokey_ nokey_) | exact o_e (fun a ha => oE_n c3_1 nokey_) (o14 w25_14 nokey_ nokey_ (Or.inl ⟨nokey_, rfl⟩)) | exact o_e (fun a ha => oE_c ha p16_2 c19_3) (o14 w25_14 nokey_ nokey_ (Or.inl ⟨nokey_, rfl⟩)) | exact o_e (fun a ha => oE_n c3_1 nokey_) (o14 w25_14 nokey_ nokey_ (Or.inr ⟨nokey_, _, nokey_, nokey_⟩)) | exact o_e (fun a ha => oE_c ha p16_2 c19_3) (o14 w25_14 nokey_ nokey_ (Or.inr ⟨nokey_, _, nokey_, nokey_⟩)) | exact o_e (fun a ha => oE_n c3_1 nokey_) (o15 w25_15 nokey_) | exact o_e (fun a ha => oE_c ha p16_2 c19_3) (o15 w25_15 nokey_) | exact o_e (fun a ha => oE_n c3_1 nokey_) (o16 w25_16 p16_2 c19_3 p143_14 p146_15) | exact o_e (fun a ha => oE_c ha p16_2 c19_3) (o16 w25_16 p16_2 c19_3 p143_14 p146_15) | exact o_e (fun a ha => oE_n c3_1 nokey_) (o17 ⟨w25_12, w25_13, w25_14, w25_15, w25_16⟩ nokey_ (Or.inl ⟨nokey_, rfl⟩)) | exact o_e (fun a ha => oE_c ha p16_2 c19_3) (o17 ⟨w25_12, w25_13, w25_14, w25_15, w25_16⟩ nokey_ (Or.inl ⟨nokey_, rfl⟩)) | exact o_e (fun a ha => oE_n c3_1 nokey_) (o17 ⟨w25_12, w25_13, w25_14, w25_15, w25_16⟩ nokey_ (Or.inr ⟨nokey_, nokey_⟩)) | exact o_e (fun a ha => oE_c ha p16_2 c19_3) (o17 ⟨w25_12, w25_13, w25_14, w25_15, w25_16⟩ nokey_ (Or.inr ⟨nokey_, nokey_⟩)) | exact absurd w25_13 c3_1 | exact absurd w25_16 nokey_)⟩
      refine z_tabOut (pc := 25) hZ 152 dN_applyToOne_25 (by have n12 := lv_neT w25_12 (a := 12) (by decide); have n13 := lv_neT w25_13 (a := 13) (by decide); have n14 := lv_neT w25_14 (a := 14) (by decide); have n15 := lv_neT w25_15 (a := 15) (by decide); have n16 := lv_neT w25_16 (a := 16) (by decide); omega) (by decide) ?_
      refine z_aload_n (pc := 152) hZ 0 dN_applyToOne_152 rfl rfl ?_
      refine z_get (pc := 153) (ci := 1) hZ 0 rfl rfl uc_N 1 (by decide) (zb fl_N_16) rfl dN_applyToOne_153 ?_
      obtain ⟨q156_16, hq156_16⟩ := zp_at (X := CX h0 ra v1 v2 v3 cR g Y) (f := f) hH.1
      refine z_callVN (pc := 156) (As := []) (rest := []) hZ (cV_sign l D (TY cR c1 c2 c3) (CX h0 ra v1 v2 v3 cR g Y) LP f v1 hH.1) zyV_sign (z_good co_V_sign) nl_N_165 (zb in_V) (zb im_V_sign) (zb se_V_sign) q156_16 hq156_16 rfl rfl rfl (by decide) rfl rfl (Nat.le_of_ble_eq_true rfl) ⟨Nat.zero_le _, Nat.zero_le _⟩ dN_applyToOne_156 (z_ki (fun r156_16 w1 tys1 hp => ?_))
      obtain ⟨rfl, rfl, p156_16⟩ := hp
      refine z_if_ge (pc := 159) hZ 169 dN_applyToOne_159 (by decide) (fun c159_17 => ?_) (fun c159_17 => ?_)
      · refine z_iconst (pc := 169) hZ 0 dN_applyToOne_169 (by decide) ?_
        exact z_reti (pc := 170) hZ dN_applyToOne_170 .int rfl rfl ⟨_, rfl, _, rfl, rfl, (by first | exact o_e (fun a ha => oE_n c3_1 nokey_) (o12 w25_12 nokey_) | exact o_e (fun a ha => oE_c ha p16_2 c19_3) (o12 w25_12 nokey_) | exact o_e (fun a ha => oE_n c3_1 nokey_) (o13 w25_13 p16_2 c19_3 nokey_ nokey_ nokey_) | exact o_e (fun a ha => oE_c ha p16_2 c19_3) (o13 w25_13 p16_2 c19_3 nokey_ nokey_ nokey_) | exact o_e (fun a ha => oE_n c3_1 nokey_) (o14 w25_14 nokey_ nokey_ (Or.inl ⟨nokey_, rfl⟩)) | exact o_e (fun a ha => oE_c ha p16_2 c19_3) (o14 w25_14 nokey_ nokey_ (Or.inl ⟨nokey_, rfl⟩)) | exact o_e (fun a ha => oE_n c3_1 nokey_) (o14 w25_14 nokey_ nokey_ (Or.inr ⟨nokey_, _, nokey_, nokey_⟩)) | exact o_e (fun a ha => oE_c ha p16_2 c19_3) (o14 w25_14 nokey_ nokey_ (Or.inr ⟨nokey_, _, nokey_, nokey_⟩)) | exact o_e (fun a ha => oE_n c3_1 nokey_) (o15 w25_15 nokey_) | exact o_e (fun a ha => oE_c ha p16_2 c19_3) (o15 w25_15 nokey_) | exact o_e (fun a ha => oE_n c3_1 nokey_) (o16 w25_16 p16_2 c19_3 nokey_ nokey_) | exact o_e (fun a ha => oE_c ha p16_2 c19_3) (o16 w25_16 p16_2 c19_3 nokey_ nokey_) | exact o_e (fun a ha => oE_n c3_1 nokey_) (o17 ⟨w25_12, w25_13, w25_14, w25_15, w25_16⟩ p156_16 (Or.inl ⟨c159_17, rfl⟩)) | exact o_e (fun a ha => oE_c ha p16_2 c19_3) (o17 ⟨w25_12, w25_13, w25_14, w25_15, w25_16⟩ p156_16 (Or.inl ⟨c159_17, rfl⟩)) | exact o_e (fun a ha => oE_n c3_1 nokey_) (o17 ⟨w25_12, w25_13, w25_14, w25_15, w25_16⟩ p156_16 (Or.inr ⟨c159_17, nokey_⟩)) | exact o_e (fun a ha => oE_c ha p16_2 c19_3) (o17 ⟨w25_12, w25_13, w25_14, w25_15, w25_16⟩ p156_16 (Or.inr ⟨c159_17, nokey_⟩)) | exact absurd w25_13 c3_1 | exact absurd w25_16 nokey_)⟩
      · refine z_aload_n (pc := 162) hZ 0 dN_applyToOne_162 rfl rfl ?_
        refine z_get (pc := 163) (ci := 1) hZ 0 rfl rfl uc_N 1 (by decide) (zb fl_N_16) rfl dN_applyToOne_163 ?_
        obtain ⟨q166_18, hq166_18⟩ := zp_at (X := CX h0 ra v1 v2 v3 cR g Y) (f := f) hH.1
        refine z_callVN (pc := 166) (As := []) (rest := []) hZ (cV_negate l D (TY cR c1 c2 c3) (CX h0 ra v1 v2 v3 cR g Y) LP f v1 hH.1) zyV_negate (z_good co_V_negate) nl_N_108 (zb in_V) (zb im_V_negate) (zb se_V_negate) q166_18 hq166_18 rfl rfl rfl (by decide) rfl rfl (Nat.le_of_ble_eq_true rfl) ⟨Nat.zero_le _, Nat.zero_le _⟩ dN_applyToOne_166 (z_kv (fun w1 tys1 hp => ?_))
        obtain ⟨f166_18, rfl, rfl, p166_18⟩ := hp
        refine z_iconst (pc := 169) hZ 0 dN_applyToOne_169 (by decide) ?_
        exact z_reti (pc := 170) hZ dN_applyToOne_170 .int rfl rfl ⟨_, rfl, _, rfl, rfl, (by first | exact o_e (fun a ha => oE_n c3_1 nokey_) (o12 w25_12 nokey_) | exact o_e (fun a ha => oE_c ha p16_2 c19_3) (o12 w25_12 nokey_) | exact o_e (fun a ha => oE_n c3_1 nokey_) (o13 w25_13 p16_2 c19_3 nokey_ nokey_ nokey_) | exact o_e (fun a ha => oE_c ha p16_2 c19_3) (o13 w25_13 p16_2 c19_3 nokey_ nokey_ nokey_) | exact o_e (fun a ha => oE_n c3_1 nokey_) (o14 w25_14 nokey_ nokey_ (Or.inl ⟨nokey_, rfl⟩)) | exact o_e (fun a ha => oE_c ha p16_2 c19_3) (o14 w25_14 nokey_ nokey_ (Or.inl ⟨nokey_, rfl⟩)) | exact o_e (fun a ha => oE_n c3_1 nokey_) (o14 w25_14 nokey_ nokey_ (Or.inr ⟨nokey_, _, nokey_, nokey_⟩)) | exact o_e (fun a ha => oE_c ha p16_2 c19_3) (o14 w25_14 nokey_ nokey_ (Or.inr ⟨nokey_, _, nokey_, nokey_⟩)) | exact o_e (fun a ha => oE_n c3_1 nokey_) (o15 w25_15 nokey_) | exact o_e (fun a ha => oE_c ha p16_2 c19_3) (o15 w25_15 nokey_) | exact o_e (fun a ha => oE_n c3_1 nokey_) (o16 w25_16 p16_2 c19_3 nokey_ nokey_) | exact o_e (fun a ha => oE_c ha p16_2 c19_3) (o16 w25_16 p16_2 c19_3 nokey_ nokey_) | exact o_e (fun a ha => oE_n c3_1 nokey_) (o17 ⟨w25_12, w25_13, w25_14, w25_15, w25_16⟩ p156_16 (Or.inl ⟨c159_17, rfl⟩)) | exact o_e (fun a ha => oE_c ha p16_2 c19_3) (o17 ⟨w25_12, w25_13, w25_14, w25_15, w25_16⟩ p156_16 (Or.inl ⟨c159_17, rfl⟩)) | exact o_e (fun a ha => oE_n c3_1 nokey_) (o17 ⟨w25_12, w25_13, w25_14, w25_15, w25_16⟩ p156_16 (Or.inr ⟨c159_17, p166_18⟩)) | exact o_e (fun a ha => oE_c ha p16_2 c19_3) (o17 ⟨w25_12, w25_13, w25_14, w25_15, w25_16⟩ p156_16 (Or.inr ⟨c159_17, p166_18⟩)) | exact absurd w25_13 c3_1 | exact absurd w25_16 nokey_)⟩
    · refine z_iconst (pc := 22) hZ 2 dN_applyToOne_22 (by decide) ?_
      exact z_reti (pc := 23) hZ dN_applyToOne_23 .int rfl rfl ⟨_, rfl, _, rfl, rfl, (by first | exact o_2 (Or.inl c3_1) p16_2 c19_3 | exact o_2 (Or.inr nokey_) p16_2 c19_3)⟩
  · refine z_iload_n (pc := 6) hZ 1 dN_applyToOne_6 rfl rfl ?_
    refine z_bipush (pc := 7) hZ 16 dN_applyToOne_7 (by decide) ?_
    refine z_icmp_ne (pc := 9) hZ 24 dN_applyToOne_9 (by decide) (fun c9_19 => ?_) (fun c9_19 => ?_)
    · refine z_iload_n (pc := 24) hZ 1 dN_applyToOne_24 rfl rfl ?_
      by_cases w25_12 : p1 = 12
      · refine z_tabAt (pc := 25) hZ 12 60 w25_12 dN_applyToOne_25 (by decide) (by decide) rfl (by decide) ?_
        refine z_aload_n (pc := 60) hZ 0 dN_applyToOne_60 rfl rfl ?_
        refine z_get (pc := 61) (ci := 1) hZ 0 rfl rfl uc_N 1 (by decide) (zb fl_N_16) rfl dN_applyToOne_61 ?_
        obtain ⟨q64_20, hq64_20⟩ := zp_at (X := CX h0 ra v1 v2 v3 cR g Y) (f := f) hH.1
        refine z_callVN (pc := 64) (As := []) (rest := []) hZ (cV_negate l D (TY cR c1 c2 c3) (CX h0 ra v1 v2 v3 cR g Y) LP f v1 hH.1) zyV_negate (z_good co_V_negate) nl_N_108 (zb in_V) (zb im_V_negate) (zb se_V_negate) q64_20 hq64_20 rfl rfl rfl (by decide) rfl rfl (Nat.le_of_ble_eq_true rfl) ⟨Nat.zero_le _, Nat.zero_le _⟩ dN_applyToOne_64 (z_kv (fun w1 tys1 hp => ?_))
        obtain ⟨f64_20, rfl, rfl, p64_20⟩ := hp
        refine z_goto (pc := 67) hZ 169 dN_applyToOne_67 (by decide) ?_
        refine z_iconst (pc := 169) hZ 0 dN_applyToOne_169 (by decide) ?_
        exact z_reti (pc := 170) hZ dN_applyToOne_170 .int rfl rfl ⟨_, rfl, _, rfl, rfl, (by first | exact o_e (fun a ha => oE_n c3_1 c9_19) (o12 w25_12 p64_20) | exact o_e (fun a ha => oE_c ha nokey_ nokey_) (o12 w25_12 p64_20) | exact o_e (fun a ha => oE_n c3_1 c9_19) (o13 w25_13 nokey_ nokey_ nokey_ nokey_ nokey_) | exact o_e (fun a ha => oE_c ha nokey_ nokey_) (o13 w25_13 nokey_ nokey_ nokey_ nokey_ nokey_) | exact o_e (fun a ha => oE_n c3_1 c9_19) (o14 w25_14 nokey_ nokey_ (Or.inl ⟨nokey_, rfl⟩)) | exact o_e (fun a ha => oE_c ha nokey_ nokey_) (o14 w25_14 nokey_ nokey_ (Or.inl ⟨nokey_, rfl⟩)) | exact o_e (fun a ha => oE_n c3_1 c9_19) (o14 w25_14 nokey_ nokey_ (Or.inr ⟨nokey_, _, nokey_, nokey_⟩)) | exact o_e (fun a ha => oE_c ha nokey_ nokey_) (o14 w25_14 nokey_ nokey_ (Or.inr ⟨nokey_, _, nokey_, nokey_⟩)) | exact o_e (fun a ha => oE_n c3_1 c9_19) (o15 w25_15 nokey_) | exact o_e (fun a ha => oE_c ha nokey_ nokey_) (o15 w25_15 nokey_) | exact o_e (fun a ha => oE_n c3_1 c9_19) (o16 w25_16 nokey_ nokey_ nokey_ nokey_) | exact o_e (fun a ha => oE_c ha nokey_ nokey_) (o16 w25_16 nokey_ nokey_ nokey_ nokey_) | exact o_e (fun a ha => oE_n c3_1 c9_19) (o17 ⟨w25_12, w25_13, w25_14, w25_15, w25_16⟩ nokey_ (Or.inl ⟨nokey_, rfl⟩)) | exact o_e (fun a ha => oE_c ha nokey_ nokey_) (o17 ⟨w25_12, w25_13, w25_14, w25_15, w25_16⟩ nokey_ (Or.inl ⟨nokey_, rfl⟩)) | exact o_e (fun a ha => oE_n c3_1 c9_19) (o17 ⟨w25_12, w25_13, w25_14, w25_15, w25_16⟩ nokey_ (Or.inr ⟨nokey_, nokey_⟩)) | exact o_e (fun a ha => oE_c ha nokey_ nokey_) (o17 ⟨w25_12, w25_13, w25_14, w25_15, w25_16⟩ nokey_ (Or.inr ⟨nokey_, nokey_⟩)) | exact absurd w25_13 c3_1 | exact absurd w25_16 c9_19)⟩
      by_cases w25_13 : p1 = 13
      · refine z_tabAt (pc := 25) hZ 13 70 w25_13 dN_applyToOne_25 (by decide) (by decide) rfl (by decide) ?_
        refine z_aload_n (pc := 70) hZ 0 dN_applyToOne_70 rfl rfl ?_
        refine z_get (pc := 71) (ci := 1) hZ 0 rfl rfl uc_N 1 (by decide) (zb fl_N_16) rfl dN_applyToOne_71 ?_
        refine z_aload_n (pc := 74) hZ 0 dN_applyToOne_74 rfl rfl ?_
        refine z_get (pc := 75) (ci := 1) hZ 0 rfl rfl uc_N 1 (by decide) (zb fl_N_16) rfl dN_applyToOne_75 ?_
        obtain ⟨q78_21, hq78_21⟩ := zp_at (X := CX h0 ra v1 v2 v3 cR g Y) (f := f) hH.1
        refine z_callVN (pc := 78) (As := []) (rest := [.ref v1]) hZ (cV_asWhole l D (TY cR c1 c2 c3) (CX h0 ra v1 v2 v3 cR g Y) LP f v1 hH.1) zyV_asWhole (z_good co_V_asWhole) nl_N_138 (zb in_V) (zb im_V_asWhole) (zb se_V_asWhole) q78_21 hq78_21 rfl rfl rfl (by decide) rfl rfl (Nat.le_of_ble_eq_true rfl) ⟨Nat.zero_le _, Nat.zero_le _⟩ dN_applyToOne_78 (z_kl (fun r78_21 w1 tys1 hp => ?_))
        obtain ⟨rfl, rfl, p78_21⟩ := hp
        refine z_ldc2 (pc := 81) hZ (-1) (zb kc_N_163) dN_applyToOne_81 ?_
        refine z_lxor (pc := 84) hZ dN_applyToOne_84 (fun v84_22 ev84_22 => ?_)
        obtain ⟨q85_23, hq85_23⟩ := zp_at (X := CX h0 ra v1 v2 v3 cR g Y) (f := f) hH.1
        refine z_callVN (pc := 85) (As := [.long v84_22]) (rest := []) hZ (cV_setWhole l D (TY cR c1 c2 c3) (CX h0 ra v1 v2 v3 cR g Y) LP f v1 hH.1 v84_22) zyV_setWhole (z_good co_V_setWhole) nl_N_30 (zb in_V) (zb im_V_setWhole) (zb se_V_setWhole) q85_23 hq85_23 rfl rfl rfl (by decide) rfl rfl (Nat.le_of_ble_eq_true rfl) ⟨Nat.zero_le _, Nat.zero_le _⟩ dN_applyToOne_85 (z_kv (fun w1 tys1 hp => ?_))
        obtain ⟨f85_23, rfl, rfl, p85_23⟩ := hp
        refine z_goto (pc := 88) hZ 169 dN_applyToOne_88 (by decide) ?_
        refine z_iconst (pc := 169) hZ 0 dN_applyToOne_169 (by decide) ?_
        exact z_reti (pc := 170) hZ dN_applyToOne_170 .int rfl rfl ⟨_, rfl, _, rfl, rfl, (by first | exact o_e (fun a ha => oE_n c3_1 c9_19) (o12 w25_12 nokey_) | exact o_e (fun a ha => oE_c ha nokey_ nokey_) (o12 w25_12 nokey_) | exact o_e (fun a ha => oE_n c3_1 c9_19) (o13 w25_13 nokey_ nokey_ p78_21 ev84_22 p85_23) | exact o_e (fun a ha => oE_c ha nokey_ nokey_) (o13 w25_13 nokey_ nokey_ p78_21 ev84_22 p85_23) | exact o_e (fun a ha => oE_n c3_1 c9_19) (o14 w25_14 nokey_ nokey_ (Or.inl ⟨nokey_, rfl⟩)) | exact o_e (fun a ha => oE_c ha nokey_ nokey_) (o14 w25_14 nokey_ nokey_ (Or.inl ⟨nokey_, rfl⟩)) | exact o_e (fun a ha => oE_n c3_1 c9_19) (o14 w25_14 nokey_ nokey_ (Or.inr ⟨nokey_, _, nokey_, nokey_⟩)) | exact o_e (fun a ha => oE_c ha nokey_ nokey_) (o14 w25_14 nokey_ nokey_ (Or.inr ⟨nokey_, _, nokey_, nokey_⟩)) | exact o_e (fun a ha => oE_n c3_1 c9_19) (o15 w25_15 nokey_) | exact o_e (fun a ha => oE_c ha nokey_ nokey_) (o15 w25_15 nokey_) | exact o_e (fun a ha => oE_n c3_1 c9_19) (o16 w25_16 nokey_ nokey_ nokey_ nokey_) | exact o_e (fun a ha => oE_c ha nokey_ nokey_) (o16 w25_16 nokey_ nokey_ nokey_ nokey_) | exact o_e (fun a ha => oE_n c3_1 c9_19) (o17 ⟨w25_12, w25_13, w25_14, w25_15, w25_16⟩ nokey_ (Or.inl ⟨nokey_, rfl⟩)) | exact o_e (fun a ha => oE_c ha nokey_ nokey_) (o17 ⟨w25_12, w25_13, w25_14, w25_15, w25_16⟩ nokey_ (Or.inl ⟨nokey_, rfl⟩)) | exact o_e (fun a ha => oE_n c3_1 c9_19) (o17 ⟨w25_12, w25_13, w25_14, w25_15, w25_16⟩ nokey_ (Or.inr ⟨nokey_, nokey_⟩)) | exact o_e (fun a ha => oE_c ha nokey_ nokey_) (o17 ⟨w25_12, w25_13, w25_14, w25_15, w25_16⟩ nokey_ (Or.inr ⟨nokey_, nokey_⟩)) | exact absurd w25_13 c3_1 | exact absurd w25_16 c9_19)⟩
      by_cases w25_14 : p1 = 14
      · refine z_tabAt (pc := 25) hZ 14 91 w25_14 dN_applyToOne_25 (by decide) (by decide) rfl (by decide) ?_
        refine z_aload_n (pc := 91) hZ 0 dN_applyToOne_91 rfl rfl ?_
        refine z_get (pc := 92) (ci := 1) hZ 0 rfl rfl uc_N 1 (by decide) (zb fl_N_16) rfl dN_applyToOne_92 ?_
        obtain ⟨q95_24, hq95_24⟩ := zp_at (X := CX h0 ra v1 v2 v3 cR g Y) (f := f) hH.1
        refine z_callVN (pc := 95) (As := []) (rest := []) hZ (cV_roundDown l D (TY cR c1 c2 c3) (CX h0 ra v1 v2 v3 cR g Y) LP f v1 hH.1) zyV_roundDown (z_good co_V_roundDown) nl_N_132 (zb in_V) (zb im_V_roundDown) (zb se_V_roundDown) q95_24 hq95_24 rfl rfl rfl (by decide) rfl rfl (Nat.le_of_ble_eq_true rfl) ⟨Nat.zero_le _, Nat.zero_le _⟩ dN_applyToOne_95 (z_kv (fun w1 tys1 hp => ?_))
        obtain ⟨f95_24, rfl, rfl, p95_24⟩ := hp
        refine z_aload_n (pc := 98) hZ 0 dN_applyToOne_98 rfl rfl ?_
        refine z_get (pc := 99) (ci := 1) hZ 0 rfl rfl uc_N 1 (by decide) (zb fl_N_16) rfl dN_applyToOne_99 ?_
        obtain ⟨q102_25, hq102_25⟩ := zp_at (X := CX h0 ra v1 v2 v3 cR g Y) (f := f95_24) hH.1
        refine z_callVN (pc := 102) (As := []) (rest := []) hZ (cV_countsAsWhole l D (TY cR c1 c2 c3) (CX h0 ra v1 v2 v3 cR g Y) LP f95_24 v1 hH.1) zyV_countsAsWhole (z_good co_V_countsAsWhole) nl_N_135 (zb in_V) (zb im_V_countsAsWhole) (zb se_V_countsAsWhole) q102_25 hq102_25 rfl rfl rfl (by decide) rfl rfl (Nat.le_of_ble_eq_true rfl) ⟨Nat.zero_le _, Nat.zero_le _⟩ dN_applyToOne_102 (z_ki (fun r102_25 w1 tys1 hp => ?_))
        obtain ⟨rfl, rfl, p102_25⟩ := hp
        refine z_if_eq (pc := 105) hZ 169 dN_applyToOne_105 (by decide) (fun c105_26 => ?_) (fun c105_26 => ?_)
        · refine z_iconst (pc := 169) hZ 0 dN_applyToOne_169 (by decide) ?_
          exact z_reti (pc := 170) hZ dN_applyToOne_170 .int rfl rfl ⟨_, rfl, _, rfl, rfl, (by first | exact o_e (fun a ha => oE_n c3_1 c9_19) (o12 w25_12 nokey_) | exact o_e (fun a ha => oE_c ha nokey_ nokey_) (o12 w25_12 nokey_) | exact o_e (fun a ha => oE_n c3_1 c9_19) (o13 w25_13 nokey_ nokey_ nokey_ nokey_ nokey_) | exact o_e (fun a ha => oE_c ha nokey_ nokey_) (o13 w25_13 nokey_ nokey_ nokey_ nokey_ nokey_) | exact o_e (fun a ha => oE_n c3_1 c9_19) (o14 w25_14 p95_24 p102_25 (Or.inl ⟨c105_26, rfl⟩)) | exact o_e (fun a ha => oE_c ha nokey_ nokey_) (o14 w25_14 p95_24 p102_25 (Or.inl ⟨c105_26, rfl⟩)) | exact o_e (fun a ha => oE_n c3_1 c9_19) (o14 w25_14 p95_24 p102_25 (Or.inr ⟨c105_26, _, nokey_, nokey_⟩)) | exact o_e (fun a ha => oE_c ha nokey_ nokey_) (o14 w25_14 p95_24 p102_25 (Or.inr ⟨c105_26, _, nokey_, nokey_⟩)) | exact o_e (fun a ha => oE_n c3_1 c9_19) (o15 w25_15 nokey_) | exact o_e (fun a ha => oE_c ha nokey_ nokey_) (o15 w25_15 nokey_) | exact o_e (fun a ha => oE_n c3_1 c9_19) (o16 w25_16 nokey_ nokey_ nokey_ nokey_) | exact o_e (fun a ha => oE_c ha nokey_ nokey_) (o16 w25_16 nokey_ nokey_ nokey_ nokey_) | exact o_e (fun a ha => oE_n c3_1 c9_19) (o17 ⟨w25_12, w25_13, w25_14, w25_15, w25_16⟩ nokey_ (Or.inl ⟨nokey_, rfl⟩)) | exact o_e (fun a ha => oE_c ha nokey_ nokey_) (o17 ⟨w25_12, w25_13, w25_14, w25_15, w25_16⟩ nokey_ (Or.inl ⟨nokey_, rfl⟩)) | exact o_e (fun a ha => oE_n c3_1 c9_19) (o17 ⟨w25_12, w25_13, w25_14, w25_15, w25_16⟩ nokey_ (Or.inr ⟨nokey_, nokey_⟩)) | exact o_e (fun a ha => oE_c ha nokey_ nokey_) (o17 ⟨w25_12, w25_13, w25_14, w25_15, w25_16⟩ nokey_ (Or.inr ⟨nokey_, nokey_⟩)) | exact absurd w25_13 c3_1 | exact absurd w25_16 c9_19)⟩
        · refine z_aload_n (pc := 108) hZ 0 dN_applyToOne_108 rfl rfl ?_
          refine z_get (pc := 109) (ci := 1) hZ 0 rfl rfl uc_N 1 (by decide) (zb fl_N_16) rfl dN_applyToOne_109 ?_
          refine z_aload_n (pc := 112) hZ 0 dN_applyToOne_112 rfl rfl ?_
          refine z_get (pc := 113) (ci := 1) hZ 0 rfl rfl uc_N 1 (by decide) (zb fl_N_16) rfl dN_applyToOne_113 ?_
          obtain ⟨q116_27, hq116_27⟩ := zp_at (X := CX h0 ra v1 v2 v3 cR g Y) (f := f95_24) hH.1
          refine z_callVN (pc := 116) (As := []) (rest := [.ref v1]) hZ (cV_asWhole l D (TY cR c1 c2 c3) (CX h0 ra v1 v2 v3 cR g Y) LP f95_24 v1 hH.1) zyV_asWhole (z_good co_V_asWhole) nl_N_138 (zb in_V) (zb im_V_asWhole) (zb se_V_asWhole) q116_27 hq116_27 rfl rfl rfl (by decide) rfl rfl (Nat.le_of_ble_eq_true rfl) ⟨Nat.zero_le _, Nat.zero_le _⟩ dN_applyToOne_116 (z_kl (fun r116_27 w1 tys1 hp => ?_))
          obtain ⟨rfl, rfl, p116_27⟩ := hp
          obtain ⟨q119_28, hq119_28⟩ := zp_at (X := CX h0 ra v1 v2 v3 cR g Y) (f := f95_24) hH.1
          refine z_callVN (pc := 119) (As := [.long r116_27]) (rest := []) hZ (cV_setWhole l D (TY cR c1 c2 c3) (CX h0 ra v1 v2 v3 cR g Y) LP f95_24 v1 hH.1 r116_27) zyV_setWhole (z_good co_V_setWhole) nl_N_30 (zb in_V) (zb im_V_setWhole) (zb se_V_setWhole) q119_28 hq119_28 rfl rfl rfl (by decide) rfl rfl (Nat.le_of_ble_eq_true rfl) ⟨Nat.zero_le _, Nat.zero_le _⟩ dN_applyToOne_119 (z_kv (fun w1 tys1 hp => ?_))
          obtain ⟨f119_28, rfl, rfl, p119_28⟩ := hp
          refine z_goto (pc := 122) hZ 169 dN_applyToOne_122 (by decide) ?_
          refine z_iconst (pc := 169) hZ 0 dN_applyToOne_169 (by decide) ?_
          exact z_reti (pc := 170) hZ dN_applyToOne_170 .int rfl rfl ⟨_, rfl, _, rfl, rfl, (by first | exact o_e (fun a ha => oE_n c3_1 c9_19) (o12 w25_12 nokey_) | exact o_e (fun a ha => oE_c ha nokey_ nokey_) (o12 w25_12 nokey_) | exact o_e (fun a ha => oE_n c3_1 c9_19) (o13 w25_13 nokey_ nokey_ nokey_ nokey_ nokey_) | exact o_e (fun a ha => oE_c ha nokey_ nokey_) (o13 w25_13 nokey_ nokey_ nokey_ nokey_ nokey_) | exact o_e (fun a ha => oE_n c3_1 c9_19) (o14 w25_14 p95_24 p102_25 (Or.inl ⟨c105_26, rfl⟩)) | exact o_e (fun a ha => oE_c ha nokey_ nokey_) (o14 w25_14 p95_24 p102_25 (Or.inl ⟨c105_26, rfl⟩)) | exact o_e (fun a ha => oE_n c3_1 c9_19) (o14 w25_14 p95_24 p102_25 (Or.inr ⟨c105_26, _, p116_27, p119_28⟩)) | exact o_e (fun a ha => oE_c ha nokey_ nokey_) (o14 w25_14 p95_24 p102_25 (Or.inr ⟨c105_26, _, p116_27, p119_28⟩)) | exact o_e (fun a ha => oE_n c3_1 c9_19) (o15 w25_15 nokey_) | exact o_e (fun a ha => oE_c ha nokey_ nokey_) (o15 w25_15 nokey_) | exact o_e (fun a ha => oE_n c3_1 c9_19) (o16 w25_16 nokey_ nokey_ nokey_ nokey_) | exact o_e (fun a ha => oE_c ha nokey_ nokey_) (o16 w25_16 nokey_ nokey_ nokey_ nokey_) | exact o_e (fun a ha => oE_n c3_1 c9_19) (o17 ⟨w25_12, w25_13, w25_14, w25_15, w25_16⟩ nokey_ (Or.inl ⟨nokey_, rfl⟩)) | exact o_e (fun a ha => oE_c ha nokey_ nokey_) (o17 ⟨w25_12, w25_13, w25_14, w25_15, w25_16⟩ nokey_ (Or.inl ⟨nokey_, rfl⟩)) | exact o_e (fun a ha => oE_n c3_1 c9_19) (o17 ⟨w25_12, w25_13, w25_14, w25_15, w25_16⟩ nokey_ (Or.inr ⟨nokey_, nokey_⟩)) | exact o_e (fun a ha => oE_c ha nokey_ nokey_) (o17 ⟨w25_12, w25_13, w25_14, w25_15, w25_16⟩ nokey_ (Or.inr ⟨nokey_, nokey_⟩)) | exact absurd w25_13 c3_1 | exact absurd w25_16 c9_19)⟩
      by_cases w25_15 : p1 = 15
      · refine z_tabAt (pc := 25) hZ 15 125 w25_15 dN_applyToOne_25 (by decide) (by decide) rfl (by decide) ?_
        refine z_aload_n (pc := 125) hZ 0 dN_applyToOne_125 rfl rfl ?_
        refine z_get (pc := 126) (ci := 1) hZ 0 rfl rfl uc_N 1 (by decide) (zb fl_N_16) rfl dN_applyToOne_126 ?_
        obtain ⟨q129_29, hq129_29⟩ := zp_at (X := CX h0 ra v1 v2 v3 cR g Y) (f := f) hH.1
        refine z_callVN (pc := 129) (As := []) (rest := []) hZ (cV_turnReal l D (TY cR c1 c2 c3) (CX h0 ra v1 v2 v3 cR g Y) LP f v1 hH.1) zyV_turnReal (z_good co_V_turnReal) nl_N_92 (zb in_V) (zb im_V_turnReal) (zb se_V_turnReal) q129_29 hq129_29 rfl rfl rfl (by decide) rfl rfl (Nat.le_of_ble_eq_true rfl) ⟨Nat.zero_le _, Nat.zero_le _⟩ dN_applyToOne_129 (z_kv (fun w1 tys1 hp => ?_))
        obtain ⟨f129_29, rfl, rfl, p129_29⟩ := hp
        refine z_goto (pc := 132) hZ 169 dN_applyToOne_132 (by decide) ?_
        refine z_iconst (pc := 169) hZ 0 dN_applyToOne_169 (by decide) ?_
        exact z_reti (pc := 170) hZ dN_applyToOne_170 .int rfl rfl ⟨_, rfl, _, rfl, rfl, (by first | exact o_e (fun a ha => oE_n c3_1 c9_19) (o12 w25_12 nokey_) | exact o_e (fun a ha => oE_c ha nokey_ nokey_) (o12 w25_12 nokey_) | exact o_e (fun a ha => oE_n c3_1 c9_19) (o13 w25_13 nokey_ nokey_ nokey_ nokey_ nokey_) | exact o_e (fun a ha => oE_c ha nokey_ nokey_) (o13 w25_13 nokey_ nokey_ nokey_ nokey_ nokey_) | exact o_e (fun a ha => oE_n c3_1 c9_19) (o14 w25_14 nokey_ nokey_ (Or.inl ⟨nokey_, rfl⟩)) | exact o_e (fun a ha => oE_c ha nokey_ nokey_) (o14 w25_14 nokey_ nokey_ (Or.inl ⟨nokey_, rfl⟩)) | exact o_e (fun a ha => oE_n c3_1 c9_19) (o14 w25_14 nokey_ nokey_ (Or.inr ⟨nokey_, _, nokey_, nokey_⟩)) | exact o_e (fun a ha => oE_c ha nokey_ nokey_) (o14 w25_14 nokey_ nokey_ (Or.inr ⟨nokey_, _, nokey_, nokey_⟩)) | exact o_e (fun a ha => oE_n c3_1 c9_19) (o15 w25_15 p129_29) | exact o_e (fun a ha => oE_c ha nokey_ nokey_) (o15 w25_15 p129_29) | exact o_e (fun a ha => oE_n c3_1 c9_19) (o16 w25_16 nokey_ nokey_ nokey_ nokey_) | exact o_e (fun a ha => oE_c ha nokey_ nokey_) (o16 w25_16 nokey_ nokey_ nokey_ nokey_) | exact o_e (fun a ha => oE_n c3_1 c9_19) (o17 ⟨w25_12, w25_13, w25_14, w25_15, w25_16⟩ nokey_ (Or.inl ⟨nokey_, rfl⟩)) | exact o_e (fun a ha => oE_c ha nokey_ nokey_) (o17 ⟨w25_12, w25_13, w25_14, w25_15, w25_16⟩ nokey_ (Or.inl ⟨nokey_, rfl⟩)) | exact o_e (fun a ha => oE_n c3_1 c9_19) (o17 ⟨w25_12, w25_13, w25_14, w25_15, w25_16⟩ nokey_ (Or.inr ⟨nokey_, nokey_⟩)) | exact o_e (fun a ha => oE_c ha nokey_ nokey_) (o17 ⟨w25_12, w25_13, w25_14, w25_15, w25_16⟩ nokey_ (Or.inr ⟨nokey_, nokey_⟩)) | exact absurd w25_13 c3_1 | exact absurd w25_16 c9_19)⟩
      by_cases w25_16 : p1 = 16
      · refine z_tabAt (pc := 25) hZ 16 135 w25_16 dN_applyToOne_25 (by decide) (by decide) rfl (by decide) ?_
        refine z_aload_n (pc := 135) hZ 0 dN_applyToOne_135 rfl rfl ?_
        refine z_get (pc := 136) (ci := 1) hZ 0 rfl rfl uc_N 1 (by decide) (zb fl_N_16) rfl dN_applyToOne_136 ?_
        refine z_aload_n (pc := 139) hZ 0 dN_applyToOne_139 rfl rfl ?_
        refine z_get (pc := 140) (ci := 1) hZ 0 rfl rfl uc_N 1 (by decide) (zb fl_N_16) rfl dN_applyToOne_140 ?_
        obtain ⟨q143_30, hq143_30⟩ := zp_at (X := CX h0 ra v1 v2 v3 cR g Y) (f := f) hH.1
        refine z_callVN (pc := 143) (As := []) (rest := [.ref v1]) hZ (cV_asWhole l D (TY cR c1 c2 c3) (CX h0 ra v1 v2 v3 cR g Y) LP f v1 hH.1) zyV_asWhole (z_good co_V_asWhole) nl_N_138 (zb in_V) (zb im_V_asWhole) (zb se_V_asWhole) q143_30 hq143_30 rfl rfl rfl (by decide) rfl rfl (Nat.le_of_ble_eq_true rfl) ⟨Nat.zero_le _, Nat.zero_le _⟩ dN_applyToOne_143 (z_kl (fun r143_30 w1 tys1 hp => ?_))
        obtain ⟨rfl, rfl, p143_30⟩ := hp
        obtain ⟨q146_31, hq146_31⟩ := zp_at (X := CX h0 ra v1 v2 v3 cR g Y) (f := f) hH.1
        refine z_callVN (pc := 146) (As := [.long r143_30]) (rest := []) hZ (cV_setWhole l D (TY cR c1 c2 c3) (CX h0 ra v1 v2 v3 cR g Y) LP f v1 hH.1 r143_30) zyV_setWhole (z_good co_V_setWhole) nl_N_30 (zb in_V) (zb im_V_setWhole) (zb se_V_setWhole) q146_31 hq146_31 rfl rfl rfl (by decide) rfl rfl (Nat.le_of_ble_eq_true rfl) ⟨Nat.zero_le _, Nat.zero_le _⟩ dN_applyToOne_146 (z_kv (fun w1 tys1 hp => ?_))
        obtain ⟨f146_31, rfl, rfl, p146_31⟩ := hp
        refine z_goto (pc := 149) hZ 169 dN_applyToOne_149 (by decide) ?_
        refine z_iconst (pc := 169) hZ 0 dN_applyToOne_169 (by decide) ?_
        exact z_reti (pc := 170) hZ dN_applyToOne_170 .int rfl rfl ⟨_, rfl, _, rfl, rfl, (by first | exact o_e (fun a ha => oE_n c3_1 c9_19) (o12 w25_12 nokey_) | exact o_e (fun a ha => oE_c ha nokey_ nokey_) (o12 w25_12 nokey_) | exact o_e (fun a ha => oE_n c3_1 c9_19) (o13 w25_13 nokey_ nokey_ nokey_ nokey_ nokey_) | exact o_e (fun a ha => oE_c ha nokey_ nokey_) (o13 w25_13 nokey_ nokey_ nokey_ nokey_ nokey_) | exact o_e (fun a ha => oE_n c3_1 c9_19) (o14 w25_14 nokey_ nokey_ (Or.inl ⟨nokey_, rfl⟩)) | exact o_e (fun a ha => oE_c ha nokey_ nokey_) (o14 w25_14 nokey_ nokey_ (Or.inl ⟨nokey_, rfl⟩)) | exact o_e (fun a ha => oE_n c3_1 c9_19) (o14 w25_14 nokey_ nokey_ (Or.inr ⟨nokey_, _, nokey_, nokey_⟩)) | exact o_e (fun a ha => oE_c ha nokey_ nokey_) (o14 w25_14 nokey_ nokey_ (Or.inr ⟨nokey_, _, nokey_, nokey_⟩)) | exact o_e (fun a ha => oE_n c3_1 c9_19) (o15 w25_15 nokey_) | exact o_e (fun a ha => oE_c ha nokey_ nokey_) (o15 w25_15 nokey_) | exact o_e (fun a ha => oE_n c3_1 c9_19) (o16 w25_16 nokey_ nokey_ p143_30 p146_31) | exact o_e (fun a ha => oE_c ha nokey_ nokey_) (o16 w25_16 nokey_ nokey_ p143_30 p146_31) | exact o_e (fun a ha => oE_n c3_1 c9_19) (o17 ⟨w25_12, w25_13, w25_14, w25_15, w25_16⟩ nokey_ (Or.inl ⟨nokey_, rfl⟩)) | exact o_e (fun a ha => oE_c ha nokey_ nokey_) (o17 ⟨w25_12, w25_13, w25_14, w25_15, w25_16⟩ nokey_ (Or.inl ⟨nokey_, rfl⟩)) | exact o_e (fun a ha => oE_n c3_1 c9_19) (o17 ⟨w25_12, w25_13, w25_14, w25_15, w25_16⟩ nokey_ (Or.inr ⟨nokey_, nokey_⟩)) | exact o_e (fun a ha => oE_c ha nokey_ nokey_) (o17 ⟨w25_12, w25_13, w25_14, w25_15, w25_16⟩ nokey_ (Or.inr ⟨nokey_, nokey_⟩)) | exact absurd w25_13 c3_1 | exact absurd w25_16 c9_19)⟩
      refine z_tabOut (pc := 25) hZ 152 dN_applyToOne_25 (by have n12 := lv_neT w25_12 (a := 12) (by decide); have n13 := lv_neT w25_13 (a := 13) (by decide); have n14 := lv_neT w25_14 (a := 14) (by decide); have n15 := lv_neT w25_15 (a := 15) (by decide); have n16 := lv_neT w25_16 (a := 16) (by decide); omega) (by decide) ?_
      refine z_aload_n (pc := 152) hZ 0 dN_applyToOne_152 rfl rfl ?_
      refine z_get (pc := 153) (ci := 1) hZ 0 rfl rfl uc_N 1 (by decide) (zb fl_N_16) rfl dN_applyToOne_153 ?_
      obtain ⟨q156_32, hq156_32⟩ := zp_at (X := CX h0 ra v1 v2 v3 cR g Y) (f := f) hH.1
      refine z_callVN (pc := 156) (As := []) (rest := []) hZ (cV_sign l D (TY cR c1 c2 c3) (CX h0 ra v1 v2 v3 cR g Y) LP f v1 hH.1) zyV_sign (z_good co_V_sign) nl_N_165 (zb in_V) (zb im_V_sign) (zb se_V_sign) q156_32 hq156_32 rfl rfl rfl (by decide) rfl rfl (Nat.le_of_ble_eq_true rfl) ⟨Nat.zero_le _, Nat.zero_le _⟩ dN_applyToOne_156 (z_ki (fun r156_32 w1 tys1 hp => ?_))
      obtain ⟨rfl, rfl, p156_32⟩ := hp
      refine z_if_ge (pc := 159) hZ 169 dN_applyToOne_159 (by decide) (fun c159_33 => ?_) (fun c159_33 => ?_)
      · refine z_iconst (pc := 169) hZ 0 dN_applyToOne_169 (by decide) ?_
        exact z_reti (pc := 170) hZ dN_applyToOne_170 .int rfl rfl ⟨_, rfl, _, rfl, rfl, (by first | exact o_e (fun a ha => oE_n c3_1 c9_19) (o12 w25_12 nokey_) | exact o_e (fun a ha => oE_c ha nokey_ nokey_) (o12 w25_12 nokey_) | exact o_e (fun a ha => oE_n c3_1 c9_19) (o13 w25_13 nokey_ nokey_ nokey_ nokey_ nokey_) | exact o_e (fun a ha => oE_c ha nokey_ nokey_) (o13 w25_13 nokey_ nokey_ nokey_ nokey_ nokey_) | exact o_e (fun a ha => oE_n c3_1 c9_19) (o14 w25_14 nokey_ nokey_ (Or.inl ⟨nokey_, rfl⟩)) | exact o_e (fun a ha => oE_c ha nokey_ nokey_) (o14 w25_14 nokey_ nokey_ (Or.inl ⟨nokey_, rfl⟩)) | exact o_e (fun a ha => oE_n c3_1 c9_19) (o14 w25_14 nokey_ nokey_ (Or.inr ⟨nokey_, _, nokey_, nokey_⟩)) | exact o_e (fun a ha => oE_c ha nokey_ nokey_) (o14 w25_14 nokey_ nokey_ (Or.inr ⟨nokey_, _, nokey_, nokey_⟩)) | exact o_e (fun a ha => oE_n c3_1 c9_19) (o15 w25_15 nokey_) | exact o_e (fun a ha => oE_c ha nokey_ nokey_) (o15 w25_15 nokey_) | exact o_e (fun a ha => oE_n c3_1 c9_19) (o16 w25_16 nokey_ nokey_ nokey_ nokey_) | exact o_e (fun a ha => oE_c ha nokey_ nokey_) (o16 w25_16 nokey_ nokey_ nokey_ nokey_) | exact o_e (fun a ha => oE_n c3_1 c9_19) (o17 ⟨w25_12, w25_13, w25_14, w25_15, w25_16⟩ p156_32 (Or.inl ⟨c159_33, rfl⟩)) | exact o_e (fun a ha => oE_c ha nokey_ nokey_) (o17 ⟨w25_12, w25_13, w25_14, w25_15, w25_16⟩ p156_32 (Or.inl ⟨c159_33, rfl⟩)) | exact o_e (fun a ha => oE_n c3_1 c9_19) (o17 ⟨w25_12, w25_13, w25_14, w25_15, w25_16⟩ p156_32 (Or.inr ⟨c159_33, nokey_⟩)) | exact o_e (fun a ha => oE_c ha nokey_ nokey_) (o17 ⟨w25_12, w25_13, w25_14, w25_15, w25_16⟩ p156_32 (Or.inr ⟨c159_33, nokey_⟩)) | exact absurd w25_13 c3_1 | exact absurd w25_16 c9_19)⟩
      · refine z_aload_n (pc := 162) hZ 0 dN_applyToOne_162 rfl rfl ?_
        refine z_get (pc := 163) (ci := 1) hZ 0 rfl rfl uc_N 1 (by decide) (zb fl_N_16) rfl dN_applyToOne_163 ?_
        obtain ⟨q166_34, hq166_34⟩ := zp_at (X := CX h0 ra v1 v2 v3 cR g Y) (f := f) hH.1
        refine z_callVN (pc := 166) (As := []) (rest := []) hZ (cV_negate l D (TY cR c1 c2 c3) (CX h0 ra v1 v2 v3 cR g Y) LP f v1 hH.1) zyV_negate (z_good co_V_negate) nl_N_108 (zb in_V) (zb im_V_negate) (zb se_V_negate) q166_34 hq166_34 rfl rfl rfl (by decide) rfl rfl (Nat.le_of_ble_eq_true rfl) ⟨Nat.zero_le _, Nat.zero_le _⟩ dN_applyToOne_166 (z_kv (fun w1 tys1 hp => ?_))
        obtain ⟨f166_34, rfl, rfl, p166_34⟩ := hp
        refine z_iconst (pc := 169) hZ 0 dN_applyToOne_169 (by decide) ?_
        exact z_reti (pc := 170) hZ dN_applyToOne_170 .int rfl rfl ⟨_, rfl, _, rfl, rfl, (by first | exact o_e (fun a ha => oE_n c3_1 c9_19) (o12 w25_12 nokey_) | exact o_e (fun a ha => oE_c ha nokey_ nokey_) (o12 w25_12 nokey_) | exact o_e (fun a ha => oE_n c3_1 c9_19) (o13 w25_13 nokey_ nokey_ nokey_ nokey_ nokey_) | exact o_e (fun a ha => oE_c ha nokey_ nokey_) (o13 w25_13 nokey_ nokey_ nokey_ nokey_ nokey_) | exact o_e (fun a ha => oE_n c3_1 c9_19) (o14 w25_14 nokey_ nokey_ (Or.inl ⟨nokey_, rfl⟩)) | exact o_e (fun a ha => oE_c ha nokey_ nokey_) (o14 w25_14 nokey_ nokey_ (Or.inl ⟨nokey_, rfl⟩)) | exact o_e (fun a ha => oE_n c3_1 c9_19) (o14 w25_14 nokey_ nokey_ (Or.inr ⟨nokey_, _, nokey_, nokey_⟩)) | exact o_e (fun a ha => oE_c ha nokey_ nokey_) (o14 w25_14 nokey_ nokey_ (Or.inr ⟨nokey_, _, nokey_, nokey_⟩)) | exact o_e (fun a ha => oE_n c3_1 c9_19) (o15 w25_15 nokey_) | exact o_e (fun a ha => oE_c ha nokey_ nokey_) (o15 w25_15 nokey_) | exact o_e (fun a ha => oE_n c3_1 c9_19) (o16 w25_16 nokey_ nokey_ nokey_ nokey_) | exact o_e (fun a ha => oE_c ha nokey_ nokey_) (o16 w25_16 nokey_ nokey_ nokey_ nokey_) | exact o_e (fun a ha => oE_n c3_1 c9_19) (o17 ⟨w25_12, w25_13, w25_14, w25_15, w25_16⟩ p156_32 (Or.inl ⟨c159_33, rfl⟩)) | exact o_e (fun a ha => oE_c ha nokey_ nokey_) (o17 ⟨w25_12, w25_13, w25_14, w25_15, w25_16⟩ p156_32 (Or.inl ⟨c159_33, rfl⟩)) | exact o_e (fun a ha => oE_n c3_1 c9_19) (o17 ⟨w25_12, w25_13, w25_14, w25_15, w25_16⟩ p156_32 (Or.inr ⟨c159_33, p166_34⟩)) | exact o_e (fun a ha => oE_c ha nokey_ nokey_) (o17 ⟨w25_12, w25_13, w25_14, w25_15, w25_16⟩ p156_32 (Or.inr ⟨c159_33, p166_34⟩)) | exact absurd w25_13 c3_1 | exact absurd w25_16 c9_19)⟩
    · refine z_aload_n (pc := 12) hZ 0 dN_applyToOne_12 rfl rfl ?_
      refine z_get (pc := 13) (ci := 1) hZ 0 rfl rfl uc_N 1 (by decide) (zb fl_N_16) rfl dN_applyToOne_13 ?_
      obtain ⟨q16_35, hq16_35⟩ := zp_at (X := CX h0 ra v1 v2 v3 cR g Y) (f := f) hH.1
      refine z_callVN (pc := 16) (As := []) (rest := []) hZ (cV_countsAsWhole l D (TY cR c1 c2 c3) (CX h0 ra v1 v2 v3 cR g Y) LP f v1 hH.1) zyV_countsAsWhole (z_good co_V_countsAsWhole) nl_N_135 (zb in_V) (zb im_V_countsAsWhole) (zb se_V_countsAsWhole) q16_35 hq16_35 rfl rfl rfl (by decide) rfl rfl (Nat.le_of_ble_eq_true rfl) ⟨Nat.zero_le _, Nat.zero_le _⟩ dN_applyToOne_16 (z_ki (fun r16_35 w1 tys1 hp => ?_))
      obtain ⟨rfl, rfl, p16_35⟩ := hp
      refine z_if_ne (pc := 19) hZ 24 dN_applyToOne_19 (by decide) (fun c19_36 => ?_) (fun c19_36 => ?_)
      · refine z_iload_n (pc := 24) hZ 1 dN_applyToOne_24 rfl rfl ?_
        by_cases w25_12 : p1 = 12
        · refine z_tabAt (pc := 25) hZ 12 60 w25_12 dN_applyToOne_25 (by decide) (by decide) rfl (by decide) ?_
          refine z_aload_n (pc := 60) hZ 0 dN_applyToOne_60 rfl rfl ?_
          refine z_get (pc := 61) (ci := 1) hZ 0 rfl rfl uc_N 1 (by decide) (zb fl_N_16) rfl dN_applyToOne_61 ?_
          obtain ⟨q64_37, hq64_37⟩ := zp_at (X := CX h0 ra v1 v2 v3 cR g Y) (f := f) hH.1
          refine z_callVN (pc := 64) (As := []) (rest := []) hZ (cV_negate l D (TY cR c1 c2 c3) (CX h0 ra v1 v2 v3 cR g Y) LP f v1 hH.1) zyV_negate (z_good co_V_negate) nl_N_108 (zb in_V) (zb im_V_negate) (zb se_V_negate) q64_37 hq64_37 rfl rfl rfl (by decide) rfl rfl (Nat.le_of_ble_eq_true rfl) ⟨Nat.zero_le _, Nat.zero_le _⟩ dN_applyToOne_64 (z_kv (fun w1 tys1 hp => ?_))
          obtain ⟨f64_37, rfl, rfl, p64_37⟩ := hp
          refine z_goto (pc := 67) hZ 169 dN_applyToOne_67 (by decide) ?_
          refine z_iconst (pc := 169) hZ 0 dN_applyToOne_169 (by decide) ?_
          exact z_reti (pc := 170) hZ dN_applyToOne_170 .int rfl rfl ⟨_, rfl, _, rfl, rfl, (by first | exact o_e (fun a ha => oE_n c3_1 c9_19) (o12 w25_12 p64_37) | exact o_e (fun a ha => oE_c ha p16_35 c19_36) (o12 w25_12 p64_37) | exact o_e (fun a ha => oE_n c3_1 c9_19) (o13 w25_13 p16_35 c19_36 nokey_ nokey_ nokey_) | exact o_e (fun a ha => oE_c ha p16_35 c19_36) (o13 w25_13 p16_35 c19_36 nokey_ nokey_ nokey_) | exact o_e (fun a ha => oE_n c3_1 c9_19) (o14 w25_14 nokey_ nokey_ (Or.inl ⟨nokey_, rfl⟩)) | exact o_e (fun a ha => oE_c ha p16_35 c19_36) (o14 w25_14 nokey_ nokey_ (Or.inl ⟨nokey_, rfl⟩)) | exact o_e (fun a ha => oE_n c3_1 c9_19) (o14 w25_14 nokey_ nokey_ (Or.inr ⟨nokey_, _, nokey_, nokey_⟩)) | exact o_e (fun a ha => oE_c ha p16_35 c19_36) (o14 w25_14 nokey_ nokey_ (Or.inr ⟨nokey_, _, nokey_, nokey_⟩)) | exact o_e (fun a ha => oE_n c3_1 c9_19) (o15 w25_15 nokey_) | exact o_e (fun a ha => oE_c ha p16_35 c19_36) (o15 w25_15 nokey_) | exact o_e (fun a ha => oE_n c3_1 c9_19) (o16 w25_16 p16_35 c19_36 nokey_ nokey_) | exact o_e (fun a ha => oE_c ha p16_35 c19_36) (o16 w25_16 p16_35 c19_36 nokey_ nokey_) | exact o_e (fun a ha => oE_n c3_1 c9_19) (o17 ⟨w25_12, w25_13, w25_14, w25_15, w25_16⟩ nokey_ (Or.inl ⟨nokey_, rfl⟩)) | exact o_e (fun a ha => oE_c ha p16_35 c19_36) (o17 ⟨w25_12, w25_13, w25_14, w25_15, w25_16⟩ nokey_ (Or.inl ⟨nokey_, rfl⟩)) | exact o_e (fun a ha => oE_n c3_1 c9_19) (o17 ⟨w25_12, w25_13, w25_14, w25_15, w25_16⟩ nokey_ (Or.inr ⟨nokey_, nokey_⟩)) | exact o_e (fun a ha => oE_c ha p16_35 c19_36) (o17 ⟨w25_12, w25_13, w25_14, w25_15, w25_16⟩ nokey_ (Or.inr ⟨nokey_, nokey_⟩)) | exact absurd w25_13 c3_1 | exact absurd w25_16 c9_19)⟩
        by_cases w25_13 : p1 = 13
        · refine z_tabAt (pc := 25) hZ 13 70 w25_13 dN_applyToOne_25 (by decide) (by decide) rfl (by decide) ?_
          refine z_aload_n (pc := 70) hZ 0 dN_applyToOne_70 rfl rfl ?_
          refine z_get (pc := 71) (ci := 1) hZ 0 rfl rfl uc_N 1 (by decide) (zb fl_N_16) rfl dN_applyToOne_71 ?_
          refine z_aload_n (pc := 74) hZ 0 dN_applyToOne_74 rfl rfl ?_
          refine z_get (pc := 75) (ci := 1) hZ 0 rfl rfl uc_N 1 (by decide) (zb fl_N_16) rfl dN_applyToOne_75 ?_
          obtain ⟨q78_38, hq78_38⟩ := zp_at (X := CX h0 ra v1 v2 v3 cR g Y) (f := f) hH.1
          refine z_callVN (pc := 78) (As := []) (rest := [.ref v1]) hZ (cV_asWhole l D (TY cR c1 c2 c3) (CX h0 ra v1 v2 v3 cR g Y) LP f v1 hH.1) zyV_asWhole (z_good co_V_asWhole) nl_N_138 (zb in_V) (zb im_V_asWhole) (zb se_V_asWhole) q78_38 hq78_38 rfl rfl rfl (by decide) rfl rfl (Nat.le_of_ble_eq_true rfl) ⟨Nat.zero_le _, Nat.zero_le _⟩ dN_applyToOne_78 (z_kl (fun r78_38 w1 tys1 hp => ?_))
          obtain ⟨rfl, rfl, p78_38⟩ := hp
          refine z_ldc2 (pc := 81) hZ (-1) (zb kc_N_163) dN_applyToOne_81 ?_
          refine z_lxor (pc := 84) hZ dN_applyToOne_84 (fun v84_39 ev84_39 => ?_)
          obtain ⟨q85_40, hq85_40⟩ := zp_at (X := CX h0 ra v1 v2 v3 cR g Y) (f := f) hH.1
          refine z_callVN (pc := 85) (As := [.long v84_39]) (rest := []) hZ (cV_setWhole l D (TY cR c1 c2 c3) (CX h0 ra v1 v2 v3 cR g Y) LP f v1 hH.1 v84_39) zyV_setWhole (z_good co_V_setWhole) nl_N_30 (zb in_V) (zb im_V_setWhole) (zb se_V_setWhole) q85_40 hq85_40 rfl rfl rfl (by decide) rfl rfl (Nat.le_of_ble_eq_true rfl) ⟨Nat.zero_le _, Nat.zero_le _⟩ dN_applyToOne_85 (z_kv (fun w1 tys1 hp => ?_))
          obtain ⟨f85_40, rfl, rfl, p85_40⟩ := hp
          refine z_goto (pc := 88) hZ 169 dN_applyToOne_88 (by decide) ?_
          refine z_iconst (pc := 169) hZ 0 dN_applyToOne_169 (by decide) ?_
          exact z_reti (pc := 170) hZ dN_applyToOne_170 .int rfl rfl ⟨_, rfl, _, rfl, rfl, (by first | exact o_e (fun a ha => oE_n c3_1 c9_19) (o12 w25_12 nokey_) | exact o_e (fun a ha => oE_c ha p16_35 c19_36) (o12 w25_12 nokey_) | exact o_e (fun a ha => oE_n c3_1 c9_19) (o13 w25_13 p16_35 c19_36 p78_38 ev84_39 p85_40) | exact o_e (fun a ha => oE_c ha p16_35 c19_36) (o13 w25_13 p16_35 c19_36 p78_38 ev84_39 p85_40) | exact o_e (fun a ha => oE_n c3_1 c9_19) (o14 w25_14 nokey_ nokey_ (Or.inl ⟨nokey_, rfl⟩)) | exact o_e (fun a ha => oE_c ha p16_35 c19_36) (o14 w25_14 nokey_ nokey_ (Or.inl ⟨nokey_, rfl⟩)) | exact o_e (fun a ha => oE_n c3_1 c9_19) (o14 w25_14 nokey_ nokey_ (Or.inr ⟨nokey_, _, nokey_, nokey_⟩)) | exact o_e (fun a ha => oE_c ha p16_35 c19_36) (o14 w25_14 nokey_ nokey_ (Or.inr ⟨nokey_, _, nokey_, nokey_⟩)) | exact o_e (fun a ha => oE_n c3_1 c9_19) (o15 w25_15 nokey_) | exact o_e (fun a ha => oE_c ha p16_35 c19_36) (o15 w25_15 nokey_) | exact o_e (fun a ha => oE_n c3_1 c9_19) (o16 w25_16 p16_35 c19_36 nokey_ nokey_) | exact o_e (fun a ha => oE_c ha p16_35 c19_36) (o16 w25_16 p16_35 c19_36 nokey_ nokey_) | exact o_e (fun a ha => oE_n c3_1 c9_19) (o17 ⟨w25_12, w25_13, w25_14, w25_15, w25_16⟩ nokey_ (Or.inl ⟨nokey_, rfl⟩)) | exact o_e (fun a ha => oE_c ha p16_35 c19_36) (o17 ⟨w25_12, w25_13, w25_14, w25_15, w25_16⟩ nokey_ (Or.inl ⟨nokey_, rfl⟩)) | exact o_e (fun a ha => oE_n c3_1 c9_19) (o17 ⟨w25_12, w25_13, w25_14, w25_15, w25_16⟩ nokey_ (Or.inr ⟨nokey_, nokey_⟩)) | exact o_e (fun a ha => oE_c ha p16_35 c19_36) (o17 ⟨w25_12, w25_13, w25_14, w25_15, w25_16⟩ nokey_ (Or.inr ⟨nokey_, nokey_⟩)) | exact absurd w25_13 c3_1 | exact absurd w25_16 c9_19)⟩
        by_cases w25_14 : p1 = 14
        · refine z_tabAt (pc := 25) hZ 14 91 w25_14 dN_applyToOne_25 (by decide) (by decide) rfl (by decide) ?_
          refine z_aload_n (pc := 91) hZ 0 dN_applyToOne_91 rfl rfl ?_
          refine z_get (pc := 92) (ci := 1) hZ 0 rfl rfl uc_N 1 (by decide) (zb fl_N_16) rfl dN_applyToOne_92 ?_
          obtain ⟨q95_41, hq95_41⟩ := zp_at (X := CX h0 ra v1 v2 v3 cR g Y) (f := f) hH.1
          refine z_callVN (pc := 95) (As := []) (rest := []) hZ (cV_roundDown l D (TY cR c1 c2 c3) (CX h0 ra v1 v2 v3 cR g Y) LP f v1 hH.1) zyV_roundDown (z_good co_V_roundDown) nl_N_132 (zb in_V) (zb im_V_roundDown) (zb se_V_roundDown) q95_41 hq95_41 rfl rfl rfl (by decide) rfl rfl (Nat.le_of_ble_eq_true rfl) ⟨Nat.zero_le _, Nat.zero_le _⟩ dN_applyToOne_95 (z_kv (fun w1 tys1 hp => ?_))
          obtain ⟨f95_41, rfl, rfl, p95_41⟩ := hp
          refine z_aload_n (pc := 98) hZ 0 dN_applyToOne_98 rfl rfl ?_
          refine z_get (pc := 99) (ci := 1) hZ 0 rfl rfl uc_N 1 (by decide) (zb fl_N_16) rfl dN_applyToOne_99 ?_
          obtain ⟨q102_42, hq102_42⟩ := zp_at (X := CX h0 ra v1 v2 v3 cR g Y) (f := f95_41) hH.1
          refine z_callVN (pc := 102) (As := []) (rest := []) hZ (cV_countsAsWhole l D (TY cR c1 c2 c3) (CX h0 ra v1 v2 v3 cR g Y) LP f95_41 v1 hH.1) zyV_countsAsWhole (z_good co_V_countsAsWhole) nl_N_135 (zb in_V) (zb im_V_countsAsWhole) (zb se_V_countsAsWhole) q102_42 hq102_42 rfl rfl rfl (by decide) rfl rfl (Nat.le_of_ble_eq_true rfl) ⟨Nat.zero_le _, Nat.zero_le _⟩ dN_applyToOne_102 (z_ki (fun r102_42 w1 tys1 hp => ?_))
          obtain ⟨rfl, rfl, p102_42⟩ := hp
          refine z_if_eq (pc := 105) hZ 169 dN_applyToOne_105 (by decide) (fun c105_43 => ?_) (fun c105_43 => ?_)
          · refine z_iconst (pc := 169) hZ 0 dN_applyToOne_169 (by decide) ?_
            exact z_reti (pc := 170) hZ dN_applyToOne_170 .int rfl rfl ⟨_, rfl, _, rfl, rfl, (by first | exact o_e (fun a ha => oE_n c3_1 c9_19) (o12 w25_12 nokey_) | exact o_e (fun a ha => oE_c ha p16_35 c19_36) (o12 w25_12 nokey_) | exact o_e (fun a ha => oE_n c3_1 c9_19) (o13 w25_13 p16_35 c19_36 nokey_ nokey_ nokey_) | exact o_e (fun a ha => oE_c ha p16_35 c19_36) (o13 w25_13 p16_35 c19_36 nokey_ nokey_ nokey_) | exact o_e (fun a ha => oE_n c3_1 c9_19) (o14 w25_14 p95_41 p102_42 (Or.inl ⟨c105_43, rfl⟩)) | exact o_e (fun a ha => oE_c ha p16_35 c19_36) (o14 w25_14 p95_41 p102_42 (Or.inl ⟨c105_43, rfl⟩)) | exact o_e (fun a ha => oE_n c3_1 c9_19) (o14 w25_14 p95_41 p102_42 (Or.inr ⟨c105_43, _, nokey_, nokey_⟩)) | exact o_e (fun a ha => oE_c ha p16_35 c19_36) (o14 w25_14 p95_41 p102_42 (Or.inr ⟨c105_43, _, nokey_, nokey_⟩)) | exact o_e (fun a ha => oE_n c3_1 c9_19) (o15 w25_15 nokey_) | exact o_e (fun a ha => oE_c ha p16_35 c19_36) (o15 w25_15 nokey_) | exact o_e (fun a ha => oE_n c3_1 c9_19) (o16 w25_16 p16_35 c19_36 nokey_ nokey_) | exact o_e (fun a ha => oE_c ha p16_35 c19_36) (o16 w25_16 p16_35 c19_36 nokey_ nokey_) | exact o_e (fun a ha => oE_n c3_1 c9_19) (o17 ⟨w25_12, w25_13, w25_14, w25_15, w25_16⟩ nokey_ (Or.inl ⟨nokey_, rfl⟩)) | exact o_e (fun a ha => oE_c ha p16_35 c19_36) (o17 ⟨w25_12, w25_13, w25_14, w25_15, w25_16⟩ nokey_ (Or.inl ⟨nokey_, rfl⟩)) | exact o_e (fun a ha => oE_n c3_1 c9_19) (o17 ⟨w25_12, w25_13, w25_14, w25_15, w25_16⟩ nokey_ (Or.inr ⟨nokey_, nokey_⟩)) | exact o_e (fun a ha => oE_c ha p16_35 c19_36) (o17 ⟨w25_12, w25_13, w25_14, w25_15, w25_16⟩ nokey_ (Or.inr ⟨nokey_, nokey_⟩)) | exact absurd w25_13 c3_1 | exact absurd w25_16 c9_19)⟩
          · refine z_aload_n (pc := 108) hZ 0 dN_applyToOne_108 rfl rfl ?_
            refine z_get (pc := 109) (ci := 1) hZ 0 rfl rfl uc_N 1 (by decide) (zb fl_N_16) rfl dN_applyToOne_109 ?_
            refine z_aload_n (pc := 112) hZ 0 dN_applyToOne_112 rfl rfl ?_
            refine z_get (pc := 113) (ci := 1) hZ 0 rfl rfl uc_N 1 (by decide) (zb fl_N_16) rfl dN_applyToOne_113 ?_
            obtain ⟨q116_44, hq116_44⟩ := zp_at (X := CX h0 ra v1 v2 v3 cR g Y) (f := f95_41) hH.1
            refine z_callVN (pc := 116) (As := []) (rest := [.ref v1]) hZ (cV_asWhole l D (TY cR c1 c2 c3) (CX h0 ra v1 v2 v3 cR g Y) LP f95_41 v1 hH.1) zyV_asWhole (z_good co_V_asWhole) nl_N_138 (zb in_V) (zb im_V_asWhole) (zb se_V_asWhole) q116_44 hq116_44 rfl rfl rfl (by decide) rfl rfl (Nat.le_of_ble_eq_true rfl) ⟨Nat.zero_le _, Nat.zero_le _⟩ dN_applyToOne_116 (z_kl (fun r116_44 w1 tys1 hp => ?_))
            obtain ⟨rfl, rfl, p116_44⟩ := hp
            obtain ⟨q119_45, hq119_45⟩ := zp_at (X := CX h0 ra v1 v2 v3 cR g Y) (f := f95_41) hH.1
            refine z_callVN (pc := 119) (As := [.long r116_44]) (rest := []) hZ (cV_setWhole l D (TY cR c1 c2 c3) (CX h0 ra v1 v2 v3 cR g Y) LP f95_41 v1 hH.1 r116_44) zyV_setWhole (z_good co_V_setWhole) nl_N_30 (zb in_V) (zb im_V_setWhole) (zb se_V_setWhole) q119_45 hq119_45 rfl rfl rfl (by decide) rfl rfl (Nat.le_of_ble_eq_true rfl) ⟨Nat.zero_le _, Nat.zero_le _⟩ dN_applyToOne_119 (z_kv (fun w1 tys1 hp => ?_))
            obtain ⟨f119_45, rfl, rfl, p119_45⟩ := hp
            refine z_goto (pc := 122) hZ 169 dN_applyToOne_122 (by decide) ?_
            refine z_iconst (pc := 169) hZ 0 dN_applyToOne_169 (by decide) ?_
            exact z_reti (pc := 170) hZ dN_applyToOne_170 .int rfl rfl ⟨_, rfl, _, rfl, rfl, (by first | exact o_e (fun a ha => oE_n c3_1 c9_19) (o12 w25_12 nokey_) | exact o_e (fun a ha => oE_c ha p16_35 c19_36) (o12 w25_12 nokey_) | exact o_e (fun a ha => oE_n c3_1 c9_19) (o13 w25_13 p16_35 c19_36 nokey_ nokey_ nokey_) | exact o_e (fun a ha => oE_c ha p16_35 c19_36) (o13 w25_13 p16_35 c19_36 nokey_ nokey_ nokey_) | exact o_e (fun a ha => oE_n c3_1 c9_19) (o14 w25_14 p95_41 p102_42 (Or.inl ⟨c105_43, rfl⟩)) | exact o_e (fun a ha => oE_c ha p16_35 c19_36) (o14 w25_14 p95_41 p102_42 (Or.inl ⟨c105_43, rfl⟩)) | exact o_e (fun a ha => oE_n c3_1 c9_19) (o14 w25_14 p95_41 p102_42 (Or.inr ⟨c105_43, _, p116_44, p119_45⟩)) | exact o_e (fun a ha => oE_c ha p16_35 c19_36) (o14 w25_14 p95_41 p102_42 (Or.inr ⟨c105_43, _, p116_44, p119_45⟩)) | exact o_e (fun a ha => oE_n c3_1 c9_19) (o15 w25_15 nokey_) | exact o_e (fun a ha => oE_c ha p16_35 c19_36) (o15 w25_15 nokey_) | exact o_e (fun a ha => oE_n c3_1 c9_19) (o16 w25_16 p16_35 c19_36 nokey_ nokey_) | exact o_e (fun a ha => oE_c ha p16_35 c19_36) (o16 w25_16 p16_35 c19_36 nokey_ nokey_) | exact o_e (fun a ha => oE_n c3_1 c9_19) (o17 ⟨w25_12, w25_13, w25_14, w25_15, w25_16⟩ nokey_ (Or.inl ⟨nokey_, rfl⟩)) | exact o_e (fun a ha => oE_c ha p16_35 c19_36) (o17 ⟨w25_12, w25_13, w25_14, w25_15, w25_16⟩ nokey_ (Or.inl ⟨nokey_, rfl⟩)) | exact o_e (fun a ha => oE_n c3_1 c9_19) (o17 ⟨w25_12, w25_13, w25_14, w25_15, w25_16⟩ nokey_ (Or.inr ⟨nokey_, nokey_⟩)) | exact o_e (fun a ha => oE_c ha p16_35 c19_36) (o17 ⟨w25_12, w25_13, w25_14, w25_15, w25_16⟩ nokey_ (Or.inr ⟨nokey_, nokey_⟩)) | exact absurd w25_13 c3_1 | exact absurd w25_16 c9_19)⟩
        by_cases w25_15 : p1 = 15
        · refine z_tabAt (pc := 25) hZ 15 125 w25_15 dN_applyToOne_25 (by decide) (by decide) rfl (by decide) ?_
          refine z_aload_n (pc := 125) hZ 0 dN_applyToOne_125 rfl rfl ?_
          refine z_get (pc := 126) (ci := 1) hZ 0 rfl rfl uc_N 1 (by decide) (zb fl_N_16) rfl dN_applyToOne_126 ?_
          obtain ⟨q129_46, hq129_46⟩ := zp_at (X := CX h0 ra v1 v2 v3 cR g Y) (f := f) hH.1
          refine z_callVN (pc := 129) (As := []) (rest := []) hZ (cV_turnReal l D (TY cR c1 c2 c3) (CX h0 ra v1 v2 v3 cR g Y) LP f v1 hH.1) zyV_turnReal (z_good co_V_turnReal) nl_N_92 (zb in_V) (zb im_V_turnReal) (zb se_V_turnReal) q129_46 hq129_46 rfl rfl rfl (by decide) rfl rfl (Nat.le_of_ble_eq_true rfl) ⟨Nat.zero_le _, Nat.zero_le _⟩ dN_applyToOne_129 (z_kv (fun w1 tys1 hp => ?_))
          obtain ⟨f129_46, rfl, rfl, p129_46⟩ := hp
          refine z_goto (pc := 132) hZ 169 dN_applyToOne_132 (by decide) ?_
          refine z_iconst (pc := 169) hZ 0 dN_applyToOne_169 (by decide) ?_
          exact z_reti (pc := 170) hZ dN_applyToOne_170 .int rfl rfl ⟨_, rfl, _, rfl, rfl, (by first | exact o_e (fun a ha => oE_n c3_1 c9_19) (o12 w25_12 nokey_) | exact o_e (fun a ha => oE_c ha p16_35 c19_36) (o12 w25_12 nokey_) | exact o_e (fun a ha => oE_n c3_1 c9_19) (o13 w25_13 p16_35 c19_36 nokey_ nokey_ nokey_) | exact o_e (fun a ha => oE_c ha p16_35 c19_36) (o13 w25_13 p16_35 c19_36 nokey_ nokey_ nokey_) | exact o_e (fun a ha => oE_n c3_1 c9_19) (o14 w25_14 nokey_ nokey_ (Or.inl ⟨nokey_, rfl⟩)) | exact o_e (fun a ha => oE_c ha p16_35 c19_36) (o14 w25_14 nokey_ nokey_ (Or.inl ⟨nokey_, rfl⟩)) | exact o_e (fun a ha => oE_n c3_1 c9_19) (o14 w25_14 nokey_ nokey_ (Or.inr ⟨nokey_, _, nokey_, nokey_⟩)) | exact o_e (fun a ha => oE_c ha p16_35 c19_36) (o14 w25_14 nokey_ nokey_ (Or.inr ⟨nokey_, _, nokey_, nokey_⟩)) | exact o_e (fun a ha => oE_n c3_1 c9_19) (o15 w25_15 p129_46) | exact o_e (fun a ha => oE_c ha p16_35 c19_36) (o15 w25_15 p129_46) | exact o_e (fun a ha => oE_n c3_1 c9_19) (o16 w25_16 p16_35 c19_36 nokey_ nokey_) | exact o_e (fun a ha => oE_c ha p16_35 c19_36) (o16 w25_16 p16_35 c19_36 nokey_ nokey_) | exact o_e (fun a ha => oE_n c3_1 c9_19) (o17 ⟨w25_12, w25_13, w25_14, w25_15, w25_16⟩ nokey_ (Or.inl ⟨nokey_, rfl⟩)) | exact o_e (fun a ha => oE_c ha p16_35 c19_36) (o17 ⟨w25_12, w25_13, w25_14, w25_15, w25_16⟩ nokey_ (Or.inl ⟨nokey_, rfl⟩)) | exact o_e (fun a ha => oE_n c3_1 c9_19) (o17 ⟨w25_12, w25_13, w25_14, w25_15, w25_16⟩ nokey_ (Or.inr ⟨nokey_, nokey_⟩)) | exact o_e (fun a ha => oE_c ha p16_35 c19_36) (o17 ⟨w25_12, w25_13, w25_14, w25_15, w25_16⟩ nokey_ (Or.inr ⟨nokey_, nokey_⟩)) | exact absurd w25_13 c3_1 | exact absurd w25_16 c9_19)⟩
        by_cases w25_16 : p1 = 16
        · refine z_tabAt (pc := 25) hZ 16 135 w25_16 dN_applyToOne_25 (by decide) (by decide) rfl (by decide) ?_
          refine z_aload_n (pc := 135) hZ 0 dN_applyToOne_135 rfl rfl ?_
          refine z_get (pc := 136) (ci := 1) hZ 0 rfl rfl uc_N 1 (by decide) (zb fl_N_16) rfl dN_applyToOne_136 ?_
          refine z_aload_n (pc := 139) hZ 0 dN_applyToOne_139 rfl rfl ?_
          refine z_get (pc := 140) (ci := 1) hZ 0 rfl rfl uc_N 1 (by decide) (zb fl_N_16) rfl dN_applyToOne_140 ?_
          obtain ⟨q143_47, hq143_47⟩ := zp_at (X := CX h0 ra v1 v2 v3 cR g Y) (f := f) hH.1
          refine z_callVN (pc := 143) (As := []) (rest := [.ref v1]) hZ (cV_asWhole l D (TY cR c1 c2 c3) (CX h0 ra v1 v2 v3 cR g Y) LP f v1 hH.1) zyV_asWhole (z_good co_V_asWhole) nl_N_138 (zb in_V) (zb im_V_asWhole) (zb se_V_asWhole) q143_47 hq143_47 rfl rfl rfl (by decide) rfl rfl (Nat.le_of_ble_eq_true rfl) ⟨Nat.zero_le _, Nat.zero_le _⟩ dN_applyToOne_143 (z_kl (fun r143_47 w1 tys1 hp => ?_))
          obtain ⟨rfl, rfl, p143_47⟩ := hp
          obtain ⟨q146_48, hq146_48⟩ := zp_at (X := CX h0 ra v1 v2 v3 cR g Y) (f := f) hH.1
          refine z_callVN (pc := 146) (As := [.long r143_47]) (rest := []) hZ (cV_setWhole l D (TY cR c1 c2 c3) (CX h0 ra v1 v2 v3 cR g Y) LP f v1 hH.1 r143_47) zyV_setWhole (z_good co_V_setWhole) nl_N_30 (zb in_V) (zb im_V_setWhole) (zb se_V_setWhole) q146_48 hq146_48 rfl rfl rfl (by decide) rfl rfl (Nat.le_of_ble_eq_true rfl) ⟨Nat.zero_le _, Nat.zero_le _⟩ dN_applyToOne_146 (z_kv (fun w1 tys1 hp => ?_))
          obtain ⟨f146_48, rfl, rfl, p146_48⟩ := hp
          refine z_goto (pc := 149) hZ 169 dN_applyToOne_149 (by decide) ?_
          refine z_iconst (pc := 169) hZ 0 dN_applyToOne_169 (by decide) ?_
          exact z_reti (pc := 170) hZ dN_applyToOne_170 .int rfl rfl ⟨_, rfl, _, rfl, rfl, (by first | exact o_e (fun a ha => oE_n c3_1 c9_19) (o12 w25_12 nokey_) | exact o_e (fun a ha => oE_c ha p16_35 c19_36) (o12 w25_12 nokey_) | exact o_e (fun a ha => oE_n c3_1 c9_19) (o13 w25_13 p16_35 c19_36 nokey_ nokey_ nokey_) | exact o_e (fun a ha => oE_c ha p16_35 c19_36) (o13 w25_13 p16_35 c19_36 nokey_ nokey_ nokey_) | exact o_e (fun a ha => oE_n c3_1 c9_19) (o14 w25_14 nokey_ nokey_ (Or.inl ⟨nokey_, rfl⟩)) | exact o_e (fun a ha => oE_c ha p16_35 c19_36) (o14 w25_14 nokey_ nokey_ (Or.inl ⟨nokey_, rfl⟩)) | exact o_e (fun a ha => oE_n c3_1 c9_19) (o14 w25_14 nokey_ nokey_ (Or.inr ⟨nokey_, _, nokey_, nokey_⟩)) | exact o_e (fun a ha => oE_c ha p16_35 c19_36) (o14 w25_14 nokey_ nokey_ (Or.inr ⟨nokey_, _, nokey_, nokey_⟩)) | exact o_e (fun a ha => oE_n c3_1 c9_19) (o15 w25_15 nokey_) | exact o_e (fun a ha => oE_c ha p16_35 c19_36) (o15 w25_15 nokey_) | exact o_e (fun a ha => oE_n c3_1 c9_19) (o16 w25_16 p16_35 c19_36 p143_47 p146_48) | exact o_e (fun a ha => oE_c ha p16_35 c19_36) (o16 w25_16 p16_35 c19_36 p143_47 p146_48) | exact o_e (fun a ha => oE_n c3_1 c9_19) (o17 ⟨w25_12, w25_13, w25_14, w25_15, w25_16⟩ nokey_ (Or.inl ⟨nokey_, rfl⟩)) | exact o_e (fun a ha => oE_c ha p16_35 c19_36) (o17 ⟨w25_12, w25_13, w25_14, w25_15, w25_16⟩ nokey_ (Or.inl ⟨nokey_, rfl⟩)) | exact o_e (fun a ha => oE_n c3_1 c9_19) (o17 ⟨w25_12, w25_13, w25_14, w25_15, w25_16⟩ nokey_ (Or.inr ⟨nokey_, nokey_⟩)) | exact o_e (fun a ha => oE_c ha p16_35 c19_36) (o17 ⟨w25_12, w25_13, w25_14, w25_15, w25_16⟩ nokey_ (Or.inr ⟨nokey_, nokey_⟩)) | exact absurd w25_13 c3_1 | exact absurd w25_16 c9_19)⟩
        refine z_tabOut (pc := 25) hZ 152 dN_applyToOne_25 (by have n12 := lv_neT w25_12 (a := 12) (by decide); have n13 := lv_neT w25_13 (a := 13) (by decide); have n14 := lv_neT w25_14 (a := 14) (by decide); have n15 := lv_neT w25_15 (a := 15) (by decide); have n16 := lv_neT w25_16 (a := 16) (by decide); omega) (by decide) ?_
        refine z_aload_n (pc := 152) hZ 0 dN_applyToOne_152 rfl rfl ?_
        refine z_get (pc := 153) (ci := 1) hZ 0 rfl rfl uc_N 1 (by decide) (zb fl_N_16) rfl dN_applyToOne_153 ?_
        obtain ⟨q156_49, hq156_49⟩ := zp_at (X := CX h0 ra v1 v2 v3 cR g Y) (f := f) hH.1
        refine z_callVN (pc := 156) (As := []) (rest := []) hZ (cV_sign l D (TY cR c1 c2 c3) (CX h0 ra v1 v2 v3 cR g Y) LP f v1 hH.1) zyV_sign (z_good co_V_sign) nl_N_165 (zb in_V) (zb im_V_sign) (zb se_V_sign) q156_49 hq156_49 rfl rfl rfl (by decide) rfl rfl (Nat.le_of_ble_eq_true rfl) ⟨Nat.zero_le _, Nat.zero_le _⟩ dN_applyToOne_156 (z_ki (fun r156_49 w1 tys1 hp => ?_))
        obtain ⟨rfl, rfl, p156_49⟩ := hp
        refine z_if_ge (pc := 159) hZ 169 dN_applyToOne_159 (by decide) (fun c159_50 => ?_) (fun c159_50 => ?_)
        · refine z_iconst (pc := 169) hZ 0 dN_applyToOne_169 (by decide) ?_
          exact z_reti (pc := 170) hZ dN_applyToOne_170 .int rfl rfl ⟨_, rfl, _, rfl, rfl, (by first | exact o_e (fun a ha => oE_n c3_1 c9_19) (o12 w25_12 nokey_) | exact o_e (fun a ha => oE_c ha p16_35 c19_36) (o12 w25_12 nokey_) | exact o_e (fun a ha => oE_n c3_1 c9_19) (o13 w25_13 p16_35 c19_36 nokey_ nokey_ nokey_) | exact o_e (fun a ha => oE_c ha p16_35 c19_36) (o13 w25_13 p16_35 c19_36 nokey_ nokey_ nokey_) | exact o_e (fun a ha => oE_n c3_1 c9_19) (o14 w25_14 nokey_ nokey_ (Or.inl ⟨nokey_, rfl⟩)) | exact o_e (fun a ha => oE_c ha p16_35 c19_36) (o14 w25_14 nokey_ nokey_ (Or.inl ⟨nokey_, rfl⟩)) | exact o_e (fun a ha => oE_n c3_1 c9_19) (o14 w25_14 nokey_ nokey_ (Or.inr ⟨nokey_, _, nokey_, nokey_⟩)) | exact o_e (fun a ha => oE_c ha p16_35 c19_36) (o14 w25_14 nokey_ nokey_ (Or.inr ⟨nokey_, _, nokey_, nokey_⟩)) | exact o_e (fun a ha => oE_n c3_1 c9_19) (o15 w25_15 nokey_) | exact o_e (fun a ha => oE_c ha p16_35 c19_36) (o15 w25_15 nokey_) | exact o_e (fun a ha => oE_n c3_1 c9_19) (o16 w25_16 p16_35 c19_36 nokey_ nokey_) | exact o_e (fun a ha => oE_c ha p16_35 c19_36) (o16 w25_16 p16_35 c19_36 nokey_ nokey_) | exact o_e (fun a ha => oE_n c3_1 c9_19) (o17 ⟨w25_12, w25_13, w25_14, w25_15, w25_16⟩ p156_49 (Or.inl ⟨c159_50, rfl⟩)) | exact o_e (fun a ha => oE_c ha p16_35 c19_36) (o17 ⟨w25_12, w25_13, w25_14, w25_15, w25_16⟩ p156_49 (Or.inl ⟨c159_50, rfl⟩)) | exact o_e (fun a ha => oE_n c3_1 c9_19) (o17 ⟨w25_12, w25_13, w25_14, w25_15, w25_16⟩ p156_49 (Or.inr ⟨c159_50, nokey_⟩)) | exact o_e (fun a ha => oE_c ha p16_35 c19_36) (o17 ⟨w25_12, w25_13, w25_14, w25_15, w25_16⟩ p156_49 (Or.inr ⟨c159_50, nokey_⟩)) | exact absurd w25_13 c3_1 | exact absurd w25_16 c9_19)⟩
        · refine z_aload_n (pc := 162) hZ 0 dN_applyToOne_162 rfl rfl ?_
          refine z_get (pc := 163) (ci := 1) hZ 0 rfl rfl uc_N 1 (by decide) (zb fl_N_16) rfl dN_applyToOne_163 ?_
          obtain ⟨q166_51, hq166_51⟩ := zp_at (X := CX h0 ra v1 v2 v3 cR g Y) (f := f) hH.1
          refine z_callVN (pc := 166) (As := []) (rest := []) hZ (cV_negate l D (TY cR c1 c2 c3) (CX h0 ra v1 v2 v3 cR g Y) LP f v1 hH.1) zyV_negate (z_good co_V_negate) nl_N_108 (zb in_V) (zb im_V_negate) (zb se_V_negate) q166_51 hq166_51 rfl rfl rfl (by decide) rfl rfl (Nat.le_of_ble_eq_true rfl) ⟨Nat.zero_le _, Nat.zero_le _⟩ dN_applyToOne_166 (z_kv (fun w1 tys1 hp => ?_))
          obtain ⟨f166_51, rfl, rfl, p166_51⟩ := hp
          refine z_iconst (pc := 169) hZ 0 dN_applyToOne_169 (by decide) ?_
          exact z_reti (pc := 170) hZ dN_applyToOne_170 .int rfl rfl ⟨_, rfl, _, rfl, rfl, (by first | exact o_e (fun a ha => oE_n c3_1 c9_19) (o12 w25_12 nokey_) | exact o_e (fun a ha => oE_c ha p16_35 c19_36) (o12 w25_12 nokey_) | exact o_e (fun a ha => oE_n c3_1 c9_19) (o13 w25_13 p16_35 c19_36 nokey_ nokey_ nokey_) | exact o_e (fun a ha => oE_c ha p16_35 c19_36) (o13 w25_13 p16_35 c19_36 nokey_ nokey_ nokey_) | exact o_e (fun a ha => oE_n c3_1 c9_19) (o14 w25_14 nokey_ nokey_ (Or.inl ⟨nokey_, rfl⟩)) | exact o_e (fun a ha => oE_c ha p16_35 c19_36) (o14 w25_14 nokey_ nokey_ (Or.inl ⟨nokey_, rfl⟩)) | exact o_e (fun a ha => oE_n c3_1 c9_19) (o14 w25_14 nokey_ nokey_ (Or.inr ⟨nokey_, _, nokey_, nokey_⟩)) | exact o_e (fun a ha => oE_c ha p16_35 c19_36) (o14 w25_14 nokey_ nokey_ (Or.inr ⟨nokey_, _, nokey_, nokey_⟩)) | exact o_e (fun a ha => oE_n c3_1 c9_19) (o15 w25_15 nokey_) | exact o_e (fun a ha => oE_c ha p16_35 c19_36) (o15 w25_15 nokey_) | exact o_e (fun a ha => oE_n c3_1 c9_19) (o16 w25_16 p16_35 c19_36 nokey_ nokey_) | exact o_e (fun a ha => oE_c ha p16_35 c19_36) (o16 w25_16 p16_35 c19_36 nokey_ nokey_) | exact o_e (fun a ha => oE_n c3_1 c9_19) (o17 ⟨w25_12, w25_13, w25_14, w25_15, w25_16⟩ p156_49 (Or.inl ⟨c159_50, rfl⟩)) | exact o_e (fun a ha => oE_c ha p16_35 c19_36) (o17 ⟨w25_12, w25_13, w25_14, w25_15, w25_16⟩ p156_49 (Or.inl ⟨c159_50, rfl⟩)) | exact o_e (fun a ha => oE_n c3_1 c9_19) (o17 ⟨w25_12, w25_13, w25_14, w25_15, w25_16⟩ p156_49 (Or.inr ⟨c159_50, p166_51⟩)) | exact o_e (fun a ha => oE_c ha p16_35 c19_36) (o17 ⟨w25_12, w25_13, w25_14, w25_15, w25_16⟩ p156_49 (Or.inr ⟨c159_50, p166_51⟩)) | exact absurd w25_13 c3_1 | exact absurd w25_16 c9_19)⟩
      · refine z_iconst (pc := 22) hZ 2 dN_applyToOne_22 (by decide) ?_
        exact z_reti (pc := 23) hZ dN_applyToOne_23 .int rfl rfl ⟨_, rfl, _, rfl, rfl, (by first | exact o_2 (Or.inl c3_1) p16_35 c19_36 | exact o_2 (Or.inr c9_19) p16_35 c19_36)⟩
set_option maxHeartbeats 4000000 in
set_option maxRecDepth 100000 in
theorem cN_operate (l : Launch) (D : va_G) (cR c1 c2 c3 : ClassId) (h0 ra v1 v2 v3 : Nat) (Y : va_W) (LP : List Nat) (f : Nat → V3) (g : Nat → Option Nat) (hH : zH LP v1 v2 v3 g) (p1 : Int32) (p2 : Int32) (p3 : Int32) (p4 : Int32) : zM l D vwCl zNF zNM yN_operate wsN_operate { frames := 7, cells := 0, slots := 0, locals := 182 } [.ref h0, .int p1, .int p2, .int p3, .int p4] (CX h0 ra v1 v2 v3 cR g Y ++ PL LP f) (TY cR c1 c2 c3) (qI (fun r w' tys' => ∃ f' : Nat → V3, CX h0 ra v1 v2 v3 cR g Y ++ PL LP f' = w' ∧ (TY cR c1 c2 c3) = tys' ∧ (OPR f f' v1 v2 v3 g p1 p2 p3 p4 r))) := by
  refine z_met (cc := bN_operate) (maxL := 6) (ret := (some .int)) (isI := false) (own := RN) (by decide +kernel) rfl rfl (fun h => by cases h) (Nat.le_of_ble_eq_true rfl) (fun Z hZ => ?_)
  show Z 0 0 (TY cR c1 c2 c3) 0 [(0, .ref h0), (1, .int p1), (2, .int p2), (3, .int p3), (4, .int p4)] [] (CX h0 ra v1 v2 v3 cR g Y ++ PL LP f)
  refine z_iload_n (pc := 0) hZ 2 dN_operate_0 rfl rfl ?_
  refine z_callS (pc := 1) (As := [.int p2]) (rest := []) hZ (cN_isRegister l D (TY cR c1 c2 c3) (CX h0 ra v1 v2 v3 cR g Y ++ PL LP f) p2) zyN_isRegister (z_goodS ml_N_26 st_N_isRegister in_N co_N_isRegister) rfl rfl (by decide) rfl rfl (Nat.le_of_ble_eq_true rfl) ⟨Nat.zero_le _, Nat.zero_le _⟩ dN_operate_1 (z_ki (fun r1_1 w1 tys1 hp => ?_))
  obtain ⟨rfl, rfl, p1_1⟩ := hp
  refine z_if_eq (pc := 4) hZ 32 dN_operate_4 (by decide) (fun c4_2 => ?_) (fun c4_2 => ?_)
  · refine z_iconst (pc := 32) hZ (-1) dN_operate_32 (by decide) ?_
    exact z_reti (pc := 33) hZ dN_operate_33 .int rfl rfl ⟨_, rfl, _, rfl, rfl, (by first | exact opr_n fun q => absurd q.1 (reg_no p1_1 c4_2) | exact opr_n fun q => absurd q.2.1 (reg_no nokey_ nokey_) | exact opr_n fun q => absurd q.2.2.1 (reg_no nokey_ nokey_) | exact opr_n fun q => absurd nokey_ q.2.2.2.1 | exact opr_n fun q => absurd (i_nle nokey_) q.2.2.2.2)⟩
  · refine z_iload_n (pc := 7) hZ 3 dN_operate_7 rfl rfl ?_
    refine z_callS (pc := 8) (As := [.int p3]) (rest := []) hZ (cN_isRegister l D (TY cR c1 c2 c3) (CX h0 ra v1 v2 v3 cR g Y ++ PL LP f) p3) zyN_isRegister (z_goodS ml_N_26 st_N_isRegister in_N co_N_isRegister) rfl rfl (by decide) rfl rfl (Nat.le_of_ble_eq_true rfl) ⟨Nat.zero_le _, Nat.zero_le _⟩ dN_operate_8 (z_ki (fun r8_3 w1 tys1 hp => ?_))
    obtain ⟨rfl, rfl, p8_3⟩ := hp
    refine z_if_eq (pc := 11) hZ 32 dN_operate_11 (by decide) (fun c11_4 => ?_) (fun c11_4 => ?_)
    · refine z_iconst (pc := 32) hZ (-1) dN_operate_32 (by decide) ?_
      exact z_reti (pc := 33) hZ dN_operate_33 .int rfl rfl ⟨_, rfl, _, rfl, rfl, (by first | exact opr_n fun q => absurd q.1 (reg_no p1_1 c4_2) | exact opr_n fun q => absurd q.2.1 (reg_no p8_3 c11_4) | exact opr_n fun q => absurd q.2.2.1 (reg_no nokey_ nokey_) | exact opr_n fun q => absurd nokey_ q.2.2.2.1 | exact opr_n fun q => absurd (i_nle nokey_) q.2.2.2.2)⟩
    · refine z_iload (pc := 14) hZ 4 dN_operate_14 rfl ?_
      refine z_callS (pc := 16) (As := [.int p4]) (rest := []) hZ (cN_isRegister l D (TY cR c1 c2 c3) (CX h0 ra v1 v2 v3 cR g Y ++ PL LP f) p4) zyN_isRegister (z_goodS ml_N_26 st_N_isRegister in_N co_N_isRegister) rfl rfl (by decide) rfl rfl (Nat.le_of_ble_eq_true rfl) ⟨Nat.zero_le _, Nat.zero_le _⟩ dN_operate_16 (z_ki (fun r16_5 w1 tys1 hp => ?_))
      obtain ⟨rfl, rfl, p16_5⟩ := hp
      refine z_if_eq (pc := 19) hZ 32 dN_operate_19 (by decide) (fun c19_6 => ?_) (fun c19_6 => ?_)
      · refine z_iconst (pc := 32) hZ (-1) dN_operate_32 (by decide) ?_
        exact z_reti (pc := 33) hZ dN_operate_33 .int rfl rfl ⟨_, rfl, _, rfl, rfl, (by first | exact opr_n fun q => absurd q.1 (reg_no p1_1 c4_2) | exact opr_n fun q => absurd q.2.1 (reg_no p8_3 c11_4) | exact opr_n fun q => absurd q.2.2.1 (reg_no p16_5 c19_6) | exact opr_n fun q => absurd nokey_ q.2.2.2.1 | exact opr_n fun q => absurd (i_nle nokey_) q.2.2.2.2)⟩
      · refine z_iload_n (pc := 22) hZ 1 dN_operate_22 rfl rfl ?_
        refine z_if_lt (pc := 23) hZ 32 dN_operate_23 (by decide) (fun c23_7 => ?_) (fun c23_7 => ?_)
        · refine z_iconst (pc := 32) hZ (-1) dN_operate_32 (by decide) ?_
          exact z_reti (pc := 33) hZ dN_operate_33 .int rfl rfl ⟨_, rfl, _, rfl, rfl, (by first | exact opr_n fun q => absurd q.1 (reg_no p1_1 c4_2) | exact opr_n fun q => absurd q.2.1 (reg_no p8_3 c11_4) | exact opr_n fun q => absurd q.2.2.1 (reg_no p16_5 c19_6) | exact opr_n fun q => absurd c23_7 q.2.2.2.1 | exact opr_n fun q => absurd (i_nle nokey_) q.2.2.2.2)⟩
        · refine z_iload_n (pc := 26) hZ 1 dN_operate_26 rfl rfl ?_
          refine z_bipush (pc := 27) hZ 17 dN_operate_27 (by decide) ?_
          refine z_icmp_le (pc := 29) hZ 34 dN_operate_29 (by decide) (fun c29_8 => ?_) (fun c29_8 => ?_)
          · have HC : OPC p1 p2 p3 p4 := ⟨reg_of p1_1 c4_2, reg_of p8_3 c11_4, reg_of p16_5 c19_6, c23_7, i_le c29_8⟩
            refine z_aload_n (pc := 34) hZ 0 dN_operate_34 rfl rfl ?_
            refine z_get (pc := 35) (ci := 1) hZ 0 rfl rfl uc_N 1 (by decide) (zb fl_N_16) rfl dN_operate_35 ?_
            refine z_aload_n (pc := 38) hZ 0 dN_operate_38 rfl rfl ?_
            refine z_get (pc := 39) (ci := 1) hZ 0 rfl rfl uc_N 0 (by decide) (zb fl_N_11) rfl dN_operate_39 ?_
            refine z_iload_n (pc := 42) hZ 3 dN_operate_42 rfl rfl ?_
            obtain ⟨y43_8, hy43_8, gy43_8⟩ := zH_at hH (i := p3) (by first | assumption | exact reg_of (by assumption) (by assumption))
            refine z_aald (pc := 43) hZ 1 0 rfl rfl (by first | assumption | exact reg_of (by assumption) (by assumption)) gy43_8 dN_operate_43 ?_
            obtain ⟨q44_10, hq44_10⟩ := zp_at (X := CX h0 ra v1 v2 v3 cR g Y) (f := f) hH.1
            refine z_callVN (pc := 44) (As := [.ref y43_8]) (rest := []) hZ (cV_become l D (TY cR c1 c2 c3) (CX h0 ra v1 v2 v3 cR g Y) LP f v1 hH.1 y43_8 hy43_8) zyV_become (z_good co_V_become) nl_N_46 (zb in_V) (zb im_V_become) (zb se_V_become) q44_10 hq44_10 rfl rfl rfl (by decide) rfl rfl (Nat.le_of_ble_eq_true rfl) ⟨Nat.zero_le _, Nat.zero_le _⟩ dN_operate_44 (z_kv (fun w1 tys1 hp => ?_))
            obtain ⟨f44_10, rfl, rfl, p44_10⟩ := hp
            refine z_aload_n (pc := 47) hZ 0 dN_operate_47 rfl rfl ?_
            refine z_get (pc := 48) (ci := 1) hZ 0 rfl rfl uc_N 2 (by decide) (zb fl_N_20) rfl dN_operate_48 ?_
            refine z_aload_n (pc := 51) hZ 0 dN_operate_51 rfl rfl ?_
            refine z_get (pc := 52) (ci := 1) hZ 0 rfl rfl uc_N 0 (by decide) (zb fl_N_11) rfl dN_operate_52 ?_
            refine z_iload (pc := 55) hZ 4 dN_operate_55 rfl ?_
            obtain ⟨y57_10, hy57_10, gy57_10⟩ := zH_at hH (i := p4) (by first | assumption | exact reg_of (by assumption) (by assumption))
            refine z_aald (pc := 57) hZ 1 0 rfl rfl (by first | assumption | exact reg_of (by assumption) (by assumption)) gy57_10 dN_operate_57 ?_
            obtain ⟨q58_12, hq58_12⟩ := zp_at (X := CX h0 ra v1 v2 v3 cR g Y) (f := f44_10) hH.2.1
            refine z_callVN (pc := 58) (As := [.ref y57_10]) (rest := []) hZ (cV_become l D (TY cR c1 c2 c3) (CX h0 ra v1 v2 v3 cR g Y) LP f44_10 v2 hH.2.1 y57_10 hy57_10) zyV_become (z_good co_V_become) nl_N_46 (zb in_V) (zb im_V_become) (zb se_V_become) q58_12 hq58_12 rfl rfl rfl (by decide) rfl rfl (Nat.le_of_ble_eq_true rfl) ⟨Nat.zero_le _, Nat.zero_le _⟩ dN_operate_58 (z_kv (fun w1 tys1 hp => ?_))
            obtain ⟨f58_12, rfl, rfl, p58_12⟩ := hp
            refine z_iload_n (pc := 61) hZ 1 dN_operate_61 rfl rfl ?_
            refine z_iconst (pc := 62) hZ 2 dN_operate_62 (by decide) ?_
            refine z_icmp_gt (pc := 63) hZ 76 dN_operate_63 (by decide) (fun c63_13 => ?_) (fun c63_13 => ?_)
            · refine z_iload_n (pc := 76) hZ 1 dN_operate_76 rfl rfl ?_
              refine z_iconst (pc := 77) hZ 5 dN_operate_77 (by decide) ?_
              refine z_icmp_gt (pc := 78) hZ 91 dN_operate_78 (by decide) (fun c78_14 => ?_) (fun c78_14 => ?_)
              · refine z_iload_n (pc := 91) hZ 1 dN_operate_91 rfl rfl ?_
                refine z_bipush (pc := 92) hZ 6 dN_operate_92 (by decide) ?_
                refine z_icmp_ne (pc := 94) hZ 106 dN_operate_94 (by decide) (fun c94_15 => ?_) (fun c94_15 => ?_)
                · refine z_iload_n (pc := 106) hZ 1 dN_operate_106 rfl rfl ?_
                  refine z_bipush (pc := 107) hZ 11 dN_operate_107 (by decide) ?_
                  refine z_icmp_gt (pc := 109) hZ 122 dN_operate_109 (by decide) (fun c109_16 => ?_) (fun c109_16 => ?_)
                  · refine z_aload_n (pc := 122) hZ 0 dN_operate_122 rfl rfl ?_
                    refine z_iload_n (pc := 123) hZ 1 dN_operate_123 rfl rfl ?_
                    refine z_callV (pc := 124) (As := [.int p1]) (rest := []) hZ (cN_applyToOne l D cR c1 c2 c3 h0 ra v1 v2 v3 Y LP f58_12 g hH p1) zyN_applyToOne (z_goodV ml_N_68 im_N_applyToOne se_N_applyToOne in_N co_N_applyToOne) 0 rfl rfl rfl rfl (by decide) rfl rfl (Nat.le_of_ble_eq_true rfl) ⟨Nat.zero_le _, Nat.zero_le _⟩ dN_operate_124 (z_ki (fun r124_17 w1 tys1 hp => ?_))
                    obtain ⟨f124_17, rfl, rfl, p124_17⟩ := hp
                    refine z_istore (pc := 127) hZ [(5, .int r124_17), (0, .ref h0), (1, .int p1), (2, .int p2), (3, .int p3), (4, .int p4)] dN_operate_127 (by decide) rfl ?_
                    refine z_iload (pc := 129) hZ 0 dN_operate_129 rfl ?_
                    refine z_if_ne (pc := 131) hZ 147 dN_operate_131 (by decide) (fun c131_18 => ?_) (fun c131_18 => ?_)
                    · refine z_iload (pc := 147) hZ 0 dN_operate_147 rfl ?_
                      exact z_reti (pc := 149) hZ dN_operate_149 .int rfl rfl ⟨_, rfl, _, rfl, rfl, (by first | exact opr_y HC gy43_8 gy57_10 p44_10 p58_12 (opp_a c63_13 nokey_) (Or.inl ⟨c131_18, rfl⟩) | exact opr_y HC gy43_8 gy57_10 p44_10 p58_12 (opp_a c63_13 nokey_) (Or.inr ⟨c131_18, _, gnokey_, nokey_⟩) | exact opr_y HC gy43_8 gy57_10 p44_10 p58_12 (opp_d c63_13 c78_14 nokey_) (Or.inl ⟨c131_18, rfl⟩) | exact opr_y HC gy43_8 gy57_10 p44_10 p58_12 (opp_d c63_13 c78_14 nokey_) (Or.inr ⟨c131_18, _, gnokey_, nokey_⟩) | exact opr_y HC gy43_8 gy57_10 p44_10 p58_12 (opp_p c94_15 nokey_) (Or.inl ⟨c131_18, rfl⟩) | exact opr_y HC gy43_8 gy57_10 p44_10 p58_12 (opp_p c94_15 nokey_) (Or.inr ⟨c131_18, _, gnokey_, nokey_⟩) | exact opr_y HC gy43_8 gy57_10 p44_10 p58_12 (opp_b c63_13 c78_14 c94_15 c109_16 nokey_) (Or.inl ⟨c131_18, rfl⟩) | exact opr_y HC gy43_8 gy57_10 p44_10 p58_12 (opp_b c63_13 c78_14 c94_15 c109_16 nokey_) (Or.inr ⟨c131_18, _, gnokey_, nokey_⟩) | exact opr_y HC gy43_8 gy57_10 p44_10 p58_12 (opp_1 c63_13 c78_14 c94_15 c109_16 p124_17) (Or.inl ⟨c131_18, rfl⟩) | exact opr_y HC gy43_8 gy57_10 p44_10 p58_12 (opp_1 c63_13 c78_14 c94_15 c109_16 p124_17) (Or.inr ⟨c131_18, _, gnokey_, nokey_⟩))⟩
                    · refine z_aload_n (pc := 134) hZ 1 dN_operate_134 rfl rfl ?_
                      refine z_get (pc := 135) (ci := 1) hZ 0 rfl rfl uc_N 0 (by decide) (zb fl_N_11) rfl dN_operate_135 ?_
                      refine z_iload_n (pc := 138) hZ 3 dN_operate_138 rfl rfl ?_
                      obtain ⟨y139_18, hy139_18, gy139_18⟩ := zH_at hH (i := p2) (by first | assumption | exact reg_of (by assumption) (by assumption))
                      refine z_aald (pc := 139) hZ 1 0 rfl rfl (by first | assumption | exact reg_of (by assumption) (by assumption)) gy139_18 dN_operate_139 ?_
                      refine z_aload_n (pc := 140) hZ 1 dN_operate_140 rfl rfl ?_
                      refine z_get (pc := 141) (ci := 1) hZ 0 rfl rfl uc_N 1 (by decide) (zb fl_N_16) rfl dN_operate_141 ?_
                      obtain ⟨q144_20, hq144_20⟩ := zp_at (X := CX h0 ra v1 v2 v3 cR g Y) (f := f124_17) hy139_18
                      refine z_callVN (pc := 144) (As := [.ref v1]) (rest := []) hZ (cV_become l D (TY cR c1 c2 c3) (CX h0 ra v1 v2 v3 cR g Y) LP f124_17 y139_18 hy139_18 v1 hH.1) zyV_become (z_good co_V_become) nl_N_46 (zb in_V) (zb im_V_become) (zb se_V_become) q144_20 hq144_20 rfl rfl rfl (by decide) rfl rfl (Nat.le_of_ble_eq_true rfl) ⟨Nat.zero_le _, Nat.zero_le _⟩ dN_operate_144 (z_kv (fun w1 tys1 hp => ?_))
                      obtain ⟨f144_20, rfl, rfl, p144_20⟩ := hp
                      refine z_iload (pc := 147) hZ 0 dN_operate_147 rfl ?_
                      exact z_reti (pc := 149) hZ dN_operate_149 .int rfl rfl ⟨_, rfl, _, rfl, rfl, (by first | exact opr_y HC gy43_8 gy57_10 p44_10 p58_12 (opp_a c63_13 nokey_) (Or.inl ⟨c131_18, rfl⟩) | exact opr_y HC gy43_8 gy57_10 p44_10 p58_12 (opp_a c63_13 nokey_) (Or.inr ⟨c131_18, _, gy139_18, p144_20⟩) | exact opr_y HC gy43_8 gy57_10 p44_10 p58_12 (opp_d c63_13 c78_14 nokey_) (Or.inl ⟨c131_18, rfl⟩) | exact opr_y HC gy43_8 gy57_10 p44_10 p58_12 (opp_d c63_13 c78_14 nokey_) (Or.inr ⟨c131_18, _, gy139_18, p144_20⟩) | exact opr_y HC gy43_8 gy57_10 p44_10 p58_12 (opp_p c94_15 nokey_) (Or.inl ⟨c131_18, rfl⟩) | exact opr_y HC gy43_8 gy57_10 p44_10 p58_12 (opp_p c94_15 nokey_) (Or.inr ⟨c131_18, _, gy139_18, p144_20⟩) | exact opr_y HC gy43_8 gy57_10 p44_10 p58_12 (opp_b c63_13 c78_14 c94_15 c109_16 nokey_) (Or.inl ⟨c131_18, rfl⟩) | exact opr_y HC gy43_8 gy57_10 p44_10 p58_12 (opp_b c63_13 c78_14 c94_15 c109_16 nokey_) (Or.inr ⟨c131_18, _, gy139_18, p144_20⟩) | exact opr_y HC gy43_8 gy57_10 p44_10 p58_12 (opp_1 c63_13 c78_14 c94_15 c109_16 p124_17) (Or.inl ⟨c131_18, rfl⟩) | exact opr_y HC gy43_8 gy57_10 p44_10 p58_12 (opp_1 c63_13 c78_14 c94_15 c109_16 p124_17) (Or.inr ⟨c131_18, _, gy139_18, p144_20⟩))⟩
                  · refine z_aload_n (pc := 112) hZ 0 dN_operate_112 rfl rfl ?_
                    refine z_iload_n (pc := 113) hZ 1 dN_operate_113 rfl rfl ?_
                    refine z_callV (pc := 114) (As := [.int p1]) (rest := []) hZ (cN_combineBits l D cR c1 c2 c3 h0 ra v1 v2 v3 Y LP f58_12 g hH p1) zyN_combineBits (z_goodV ml_N_65 im_N_combineBits se_N_combineBits in_N co_N_combineBits) 0 rfl rfl rfl rfl (by decide) rfl rfl (Nat.le_of_ble_eq_true rfl) ⟨Nat.zero_le _, Nat.zero_le _⟩ dN_operate_114 (z_ki (fun r114_21 w1 tys1 hp => ?_))
                    obtain ⟨f114_21, rfl, rfl, p114_21⟩ := hp
                    refine z_istore (pc := 117) hZ [(5, .int r114_21), (0, .ref h0), (1, .int p1), (2, .int p2), (3, .int p3), (4, .int p4)] dN_operate_117 (by decide) rfl ?_
                    refine z_goto (pc := 119) hZ 129 dN_operate_119 (by decide) ?_
                    refine z_iload (pc := 129) hZ 0 dN_operate_129 rfl ?_
                    refine z_if_ne (pc := 131) hZ 147 dN_operate_131 (by decide) (fun c131_22 => ?_) (fun c131_22 => ?_)
                    · refine z_iload (pc := 147) hZ 0 dN_operate_147 rfl ?_
                      exact z_reti (pc := 149) hZ dN_operate_149 .int rfl rfl ⟨_, rfl, _, rfl, rfl, (by first | exact opr_y HC gy43_8 gy57_10 p44_10 p58_12 (opp_a c63_13 nokey_) (Or.inl ⟨c131_22, rfl⟩) | exact opr_y HC gy43_8 gy57_10 p44_10 p58_12 (opp_a c63_13 nokey_) (Or.inr ⟨c131_22, _, gnokey_, nokey_⟩) | exact opr_y HC gy43_8 gy57_10 p44_10 p58_12 (opp_d c63_13 c78_14 nokey_) (Or.inl ⟨c131_22, rfl⟩) | exact opr_y HC gy43_8 gy57_10 p44_10 p58_12 (opp_d c63_13 c78_14 nokey_) (Or.inr ⟨c131_22, _, gnokey_, nokey_⟩) | exact opr_y HC gy43_8 gy57_10 p44_10 p58_12 (opp_p c94_15 nokey_) (Or.inl ⟨c131_22, rfl⟩) | exact opr_y HC gy43_8 gy57_10 p44_10 p58_12 (opp_p c94_15 nokey_) (Or.inr ⟨c131_22, _, gnokey_, nokey_⟩) | exact opr_y HC gy43_8 gy57_10 p44_10 p58_12 (opp_b c63_13 c78_14 c94_15 c109_16 p114_21) (Or.inl ⟨c131_22, rfl⟩) | exact opr_y HC gy43_8 gy57_10 p44_10 p58_12 (opp_b c63_13 c78_14 c94_15 c109_16 p114_21) (Or.inr ⟨c131_22, _, gnokey_, nokey_⟩) | exact opr_y HC gy43_8 gy57_10 p44_10 p58_12 (opp_1 c63_13 c78_14 c94_15 c109_16 nokey_) (Or.inl ⟨c131_22, rfl⟩) | exact opr_y HC gy43_8 gy57_10 p44_10 p58_12 (opp_1 c63_13 c78_14 c94_15 c109_16 nokey_) (Or.inr ⟨c131_22, _, gnokey_, nokey_⟩))⟩
                    · refine z_aload_n (pc := 134) hZ 1 dN_operate_134 rfl rfl ?_
                      refine z_get (pc := 135) (ci := 1) hZ 0 rfl rfl uc_N 0 (by decide) (zb fl_N_11) rfl dN_operate_135 ?_
                      refine z_iload_n (pc := 138) hZ 3 dN_operate_138 rfl rfl ?_
                      obtain ⟨y139_22, hy139_22, gy139_22⟩ := zH_at hH (i := p2) (by first | assumption | exact reg_of (by assumption) (by assumption))
                      refine z_aald (pc := 139) hZ 1 0 rfl rfl (by first | assumption | exact reg_of (by assumption) (by assumption)) gy139_22 dN_operate_139 ?_
                      refine z_aload_n (pc := 140) hZ 1 dN_operate_140 rfl rfl ?_
                      refine z_get (pc := 141) (ci := 1) hZ 0 rfl rfl uc_N 1 (by decide) (zb fl_N_16) rfl dN_operate_141 ?_
                      obtain ⟨q144_24, hq144_24⟩ := zp_at (X := CX h0 ra v1 v2 v3 cR g Y) (f := f114_21) hy139_22
                      refine z_callVN (pc := 144) (As := [.ref v1]) (rest := []) hZ (cV_become l D (TY cR c1 c2 c3) (CX h0 ra v1 v2 v3 cR g Y) LP f114_21 y139_22 hy139_22 v1 hH.1) zyV_become (z_good co_V_become) nl_N_46 (zb in_V) (zb im_V_become) (zb se_V_become) q144_24 hq144_24 rfl rfl rfl (by decide) rfl rfl (Nat.le_of_ble_eq_true rfl) ⟨Nat.zero_le _, Nat.zero_le _⟩ dN_operate_144 (z_kv (fun w1 tys1 hp => ?_))
                      obtain ⟨f144_24, rfl, rfl, p144_24⟩ := hp
                      refine z_iload (pc := 147) hZ 0 dN_operate_147 rfl ?_
                      exact z_reti (pc := 149) hZ dN_operate_149 .int rfl rfl ⟨_, rfl, _, rfl, rfl, (by first | exact opr_y HC gy43_8 gy57_10 p44_10 p58_12 (opp_a c63_13 nokey_) (Or.inl ⟨c131_22, rfl⟩) | exact opr_y HC gy43_8 gy57_10 p44_10 p58_12 (opp_a c63_13 nokey_) (Or.inr ⟨c131_22, _, gy139_22, p144_24⟩) | exact opr_y HC gy43_8 gy57_10 p44_10 p58_12 (opp_d c63_13 c78_14 nokey_) (Or.inl ⟨c131_22, rfl⟩) | exact opr_y HC gy43_8 gy57_10 p44_10 p58_12 (opp_d c63_13 c78_14 nokey_) (Or.inr ⟨c131_22, _, gy139_22, p144_24⟩) | exact opr_y HC gy43_8 gy57_10 p44_10 p58_12 (opp_p c94_15 nokey_) (Or.inl ⟨c131_22, rfl⟩) | exact opr_y HC gy43_8 gy57_10 p44_10 p58_12 (opp_p c94_15 nokey_) (Or.inr ⟨c131_22, _, gy139_22, p144_24⟩) | exact opr_y HC gy43_8 gy57_10 p44_10 p58_12 (opp_b c63_13 c78_14 c94_15 c109_16 p114_21) (Or.inl ⟨c131_22, rfl⟩) | exact opr_y HC gy43_8 gy57_10 p44_10 p58_12 (opp_b c63_13 c78_14 c94_15 c109_16 p114_21) (Or.inr ⟨c131_22, _, gy139_22, p144_24⟩) | exact opr_y HC gy43_8 gy57_10 p44_10 p58_12 (opp_1 c63_13 c78_14 c94_15 c109_16 nokey_) (Or.inl ⟨c131_22, rfl⟩) | exact opr_y HC gy43_8 gy57_10 p44_10 p58_12 (opp_1 c63_13 c78_14 c94_15 c109_16 nokey_) (Or.inr ⟨c131_22, _, gy139_22, p144_24⟩))⟩
                · refine z_aload_n (pc := 97) hZ 0 dN_operate_97 rfl rfl ?_
                  refine z_callV (pc := 98) (As := []) (rest := []) hZ (cN_power l D cR c1 c2 c3 h0 ra v1 v2 v3 Y LP f58_12 g hH ) zyN_power (z_goodV ml_N_61 im_N_power se_N_power in_N co_N_power) 0 rfl rfl rfl rfl (by decide) rfl rfl (Nat.le_of_ble_eq_true rfl) ⟨Nat.zero_le _, Nat.zero_le _⟩ dN_operate_98 (z_ki (fun r98_25 w1 tys1 hp => ?_))
                  obtain ⟨f98_25, rfl, rfl, p98_25⟩ := hp
                  refine z_istore (pc := 101) hZ [(5, .int r98_25), (0, .ref h0), (1, .int p1), (2, .int p2), (3, .int p3), (4, .int p4)] dN_operate_101 (by decide) rfl ?_
                  refine z_goto (pc := 103) hZ 129 dN_operate_103 (by decide) ?_
                  refine z_iload (pc := 129) hZ 0 dN_operate_129 rfl ?_
                  refine z_if_ne (pc := 131) hZ 147 dN_operate_131 (by decide) (fun c131_26 => ?_) (fun c131_26 => ?_)
                  · refine z_iload (pc := 147) hZ 0 dN_operate_147 rfl ?_
                    exact z_reti (pc := 149) hZ dN_operate_149 .int rfl rfl ⟨_, rfl, _, rfl, rfl, (by first | exact opr_y HC gy43_8 gy57_10 p44_10 p58_12 (opp_a c63_13 nokey_) (Or.inl ⟨c131_26, rfl⟩) | exact opr_y HC gy43_8 gy57_10 p44_10 p58_12 (opp_a c63_13 nokey_) (Or.inr ⟨c131_26, _, gnokey_, nokey_⟩) | exact opr_y HC gy43_8 gy57_10 p44_10 p58_12 (opp_d c63_13 c78_14 nokey_) (Or.inl ⟨c131_26, rfl⟩) | exact opr_y HC gy43_8 gy57_10 p44_10 p58_12 (opp_d c63_13 c78_14 nokey_) (Or.inr ⟨c131_26, _, gnokey_, nokey_⟩) | exact opr_y HC gy43_8 gy57_10 p44_10 p58_12 (opp_p c94_15 p98_25) (Or.inl ⟨c131_26, rfl⟩) | exact opr_y HC gy43_8 gy57_10 p44_10 p58_12 (opp_p c94_15 p98_25) (Or.inr ⟨c131_26, _, gnokey_, nokey_⟩) | exact opr_y HC gy43_8 gy57_10 p44_10 p58_12 (opp_b c63_13 c78_14 c94_15 nokey_ nokey_) (Or.inl ⟨c131_26, rfl⟩) | exact opr_y HC gy43_8 gy57_10 p44_10 p58_12 (opp_b c63_13 c78_14 c94_15 nokey_ nokey_) (Or.inr ⟨c131_26, _, gnokey_, nokey_⟩) | exact opr_y HC gy43_8 gy57_10 p44_10 p58_12 (opp_1 c63_13 c78_14 c94_15 nokey_ nokey_) (Or.inl ⟨c131_26, rfl⟩) | exact opr_y HC gy43_8 gy57_10 p44_10 p58_12 (opp_1 c63_13 c78_14 c94_15 nokey_ nokey_) (Or.inr ⟨c131_26, _, gnokey_, nokey_⟩))⟩
                  · refine z_aload_n (pc := 134) hZ 1 dN_operate_134 rfl rfl ?_
                    refine z_get (pc := 135) (ci := 1) hZ 0 rfl rfl uc_N 0 (by decide) (zb fl_N_11) rfl dN_operate_135 ?_
                    refine z_iload_n (pc := 138) hZ 3 dN_operate_138 rfl rfl ?_
                    obtain ⟨y139_26, hy139_26, gy139_26⟩ := zH_at hH (i := p2) (by first | assumption | exact reg_of (by assumption) (by assumption))
                    refine z_aald (pc := 139) hZ 1 0 rfl rfl (by first | assumption | exact reg_of (by assumption) (by assumption)) gy139_26 dN_operate_139 ?_
                    refine z_aload_n (pc := 140) hZ 1 dN_operate_140 rfl rfl ?_
                    refine z_get (pc := 141) (ci := 1) hZ 0 rfl rfl uc_N 1 (by decide) (zb fl_N_16) rfl dN_operate_141 ?_
                    obtain ⟨q144_28, hq144_28⟩ := zp_at (X := CX h0 ra v1 v2 v3 cR g Y) (f := f98_25) hy139_26
                    refine z_callVN (pc := 144) (As := [.ref v1]) (rest := []) hZ (cV_become l D (TY cR c1 c2 c3) (CX h0 ra v1 v2 v3 cR g Y) LP f98_25 y139_26 hy139_26 v1 hH.1) zyV_become (z_good co_V_become) nl_N_46 (zb in_V) (zb im_V_become) (zb se_V_become) q144_28 hq144_28 rfl rfl rfl (by decide) rfl rfl (Nat.le_of_ble_eq_true rfl) ⟨Nat.zero_le _, Nat.zero_le _⟩ dN_operate_144 (z_kv (fun w1 tys1 hp => ?_))
                    obtain ⟨f144_28, rfl, rfl, p144_28⟩ := hp
                    refine z_iload (pc := 147) hZ 0 dN_operate_147 rfl ?_
                    exact z_reti (pc := 149) hZ dN_operate_149 .int rfl rfl ⟨_, rfl, _, rfl, rfl, (by first | exact opr_y HC gy43_8 gy57_10 p44_10 p58_12 (opp_a c63_13 nokey_) (Or.inl ⟨c131_26, rfl⟩) | exact opr_y HC gy43_8 gy57_10 p44_10 p58_12 (opp_a c63_13 nokey_) (Or.inr ⟨c131_26, _, gy139_26, p144_28⟩) | exact opr_y HC gy43_8 gy57_10 p44_10 p58_12 (opp_d c63_13 c78_14 nokey_) (Or.inl ⟨c131_26, rfl⟩) | exact opr_y HC gy43_8 gy57_10 p44_10 p58_12 (opp_d c63_13 c78_14 nokey_) (Or.inr ⟨c131_26, _, gy139_26, p144_28⟩) | exact opr_y HC gy43_8 gy57_10 p44_10 p58_12 (opp_p c94_15 p98_25) (Or.inl ⟨c131_26, rfl⟩) | exact opr_y HC gy43_8 gy57_10 p44_10 p58_12 (opp_p c94_15 p98_25) (Or.inr ⟨c131_26, _, gy139_26, p144_28⟩) | exact opr_y HC gy43_8 gy57_10 p44_10 p58_12 (opp_b c63_13 c78_14 c94_15 nokey_ nokey_) (Or.inl ⟨c131_26, rfl⟩) | exact opr_y HC gy43_8 gy57_10 p44_10 p58_12 (opp_b c63_13 c78_14 c94_15 nokey_ nokey_) (Or.inr ⟨c131_26, _, gy139_26, p144_28⟩) | exact opr_y HC gy43_8 gy57_10 p44_10 p58_12 (opp_1 c63_13 c78_14 c94_15 nokey_ nokey_) (Or.inl ⟨c131_26, rfl⟩) | exact opr_y HC gy43_8 gy57_10 p44_10 p58_12 (opp_1 c63_13 c78_14 c94_15 nokey_ nokey_) (Or.inr ⟨c131_26, _, gy139_26, p144_28⟩))⟩
              · refine z_aload_n (pc := 81) hZ 0 dN_operate_81 rfl rfl ?_
                refine z_iload_n (pc := 82) hZ 1 dN_operate_82 rfl rfl ?_
                refine z_callV (pc := 83) (As := [.int p1]) (rest := []) hZ (cN_divideOrRemain l D cR c1 c2 c3 h0 ra v1 v2 v3 Y LP f58_12 g hH p1) zyN_divideOrRemain (z_goodV ml_N_58 im_N_divideOrRemain se_N_divideOrRemain in_N co_N_divideOrRemain) 0 rfl rfl rfl rfl (by decide) rfl rfl (Nat.le_of_ble_eq_true rfl) ⟨Nat.zero_le _, Nat.zero_le _⟩ dN_operate_83 (z_ki (fun r83_29 w1 tys1 hp => ?_))
                obtain ⟨f83_29, rfl, rfl, p83_29⟩ := hp
                refine z_istore (pc := 86) hZ [(5, .int r83_29), (0, .ref h0), (1, .int p1), (2, .int p2), (3, .int p3), (4, .int p4)] dN_operate_86 (by decide) rfl ?_
                refine z_goto (pc := 88) hZ 129 dN_operate_88 (by decide) ?_
                refine z_iload (pc := 129) hZ 0 dN_operate_129 rfl ?_
                refine z_if_ne (pc := 131) hZ 147 dN_operate_131 (by decide) (fun c131_30 => ?_) (fun c131_30 => ?_)
                · refine z_iload (pc := 147) hZ 0 dN_operate_147 rfl ?_
                  exact z_reti (pc := 149) hZ dN_operate_149 .int rfl rfl ⟨_, rfl, _, rfl, rfl, (by first | exact opr_y HC gy43_8 gy57_10 p44_10 p58_12 (opp_a c63_13 nokey_) (Or.inl ⟨c131_30, rfl⟩) | exact opr_y HC gy43_8 gy57_10 p44_10 p58_12 (opp_a c63_13 nokey_) (Or.inr ⟨c131_30, _, gnokey_, nokey_⟩) | exact opr_y HC gy43_8 gy57_10 p44_10 p58_12 (opp_d c63_13 c78_14 p83_29) (Or.inl ⟨c131_30, rfl⟩) | exact opr_y HC gy43_8 gy57_10 p44_10 p58_12 (opp_d c63_13 c78_14 p83_29) (Or.inr ⟨c131_30, _, gnokey_, nokey_⟩) | exact opr_y HC gy43_8 gy57_10 p44_10 p58_12 (opp_p nokey_ nokey_) (Or.inl ⟨c131_30, rfl⟩) | exact opr_y HC gy43_8 gy57_10 p44_10 p58_12 (opp_p nokey_ nokey_) (Or.inr ⟨c131_30, _, gnokey_, nokey_⟩) | exact opr_y HC gy43_8 gy57_10 p44_10 p58_12 (opp_b c63_13 c78_14 nokey_ nokey_ nokey_) (Or.inl ⟨c131_30, rfl⟩) | exact opr_y HC gy43_8 gy57_10 p44_10 p58_12 (opp_b c63_13 c78_14 nokey_ nokey_ nokey_) (Or.inr ⟨c131_30, _, gnokey_, nokey_⟩) | exact opr_y HC gy43_8 gy57_10 p44_10 p58_12 (opp_1 c63_13 c78_14 nokey_ nokey_ nokey_) (Or.inl ⟨c131_30, rfl⟩) | exact opr_y HC gy43_8 gy57_10 p44_10 p58_12 (opp_1 c63_13 c78_14 nokey_ nokey_ nokey_) (Or.inr ⟨c131_30, _, gnokey_, nokey_⟩))⟩
                · refine z_aload_n (pc := 134) hZ 1 dN_operate_134 rfl rfl ?_
                  refine z_get (pc := 135) (ci := 1) hZ 0 rfl rfl uc_N 0 (by decide) (zb fl_N_11) rfl dN_operate_135 ?_
                  refine z_iload_n (pc := 138) hZ 3 dN_operate_138 rfl rfl ?_
                  obtain ⟨y139_30, hy139_30, gy139_30⟩ := zH_at hH (i := p2) (by first | assumption | exact reg_of (by assumption) (by assumption))
                  refine z_aald (pc := 139) hZ 1 0 rfl rfl (by first | assumption | exact reg_of (by assumption) (by assumption)) gy139_30 dN_operate_139 ?_
                  refine z_aload_n (pc := 140) hZ 1 dN_operate_140 rfl rfl ?_
                  refine z_get (pc := 141) (ci := 1) hZ 0 rfl rfl uc_N 1 (by decide) (zb fl_N_16) rfl dN_operate_141 ?_
                  obtain ⟨q144_32, hq144_32⟩ := zp_at (X := CX h0 ra v1 v2 v3 cR g Y) (f := f83_29) hy139_30
                  refine z_callVN (pc := 144) (As := [.ref v1]) (rest := []) hZ (cV_become l D (TY cR c1 c2 c3) (CX h0 ra v1 v2 v3 cR g Y) LP f83_29 y139_30 hy139_30 v1 hH.1) zyV_become (z_good co_V_become) nl_N_46 (zb in_V) (zb im_V_become) (zb se_V_become) q144_32 hq144_32 rfl rfl rfl (by decide) rfl rfl (Nat.le_of_ble_eq_true rfl) ⟨Nat.zero_le _, Nat.zero_le _⟩ dN_operate_144 (z_kv (fun w1 tys1 hp => ?_))
                  obtain ⟨f144_32, rfl, rfl, p144_32⟩ := hp
                  refine z_iload (pc := 147) hZ 0 dN_operate_147 rfl ?_
                  exact z_reti (pc := 149) hZ dN_operate_149 .int rfl rfl ⟨_, rfl, _, rfl, rfl, (by first | exact opr_y HC gy43_8 gy57_10 p44_10 p58_12 (opp_a c63_13 nokey_) (Or.inl ⟨c131_30, rfl⟩) | exact opr_y HC gy43_8 gy57_10 p44_10 p58_12 (opp_a c63_13 nokey_) (Or.inr ⟨c131_30, _, gy139_30, p144_32⟩) | exact opr_y HC gy43_8 gy57_10 p44_10 p58_12 (opp_d c63_13 c78_14 p83_29) (Or.inl ⟨c131_30, rfl⟩) | exact opr_y HC gy43_8 gy57_10 p44_10 p58_12 (opp_d c63_13 c78_14 p83_29) (Or.inr ⟨c131_30, _, gy139_30, p144_32⟩) | exact opr_y HC gy43_8 gy57_10 p44_10 p58_12 (opp_p nokey_ nokey_) (Or.inl ⟨c131_30, rfl⟩) | exact opr_y HC gy43_8 gy57_10 p44_10 p58_12 (opp_p nokey_ nokey_) (Or.inr ⟨c131_30, _, gy139_30, p144_32⟩) | exact opr_y HC gy43_8 gy57_10 p44_10 p58_12 (opp_b c63_13 c78_14 nokey_ nokey_ nokey_) (Or.inl ⟨c131_30, rfl⟩) | exact opr_y HC gy43_8 gy57_10 p44_10 p58_12 (opp_b c63_13 c78_14 nokey_ nokey_ nokey_) (Or.inr ⟨c131_30, _, gy139_30, p144_32⟩) | exact opr_y HC gy43_8 gy57_10 p44_10 p58_12 (opp_1 c63_13 c78_14 nokey_ nokey_ nokey_) (Or.inl ⟨c131_30, rfl⟩) | exact opr_y HC gy43_8 gy57_10 p44_10 p58_12 (opp_1 c63_13 c78_14 nokey_ nokey_ nokey_) (Or.inr ⟨c131_30, _, gy139_30, p144_32⟩))⟩
            · refine z_aload_n (pc := 66) hZ 0 dN_operate_66 rfl rfl ?_
              refine z_iload_n (pc := 67) hZ 1 dN_operate_67 rfl rfl ?_
              refine z_callV (pc := 68) (As := [.int p1]) (rest := []) hZ (cN_addOrMultiply l D cR c1 c2 c3 h0 ra v1 v2 v3 Y LP f58_12 g hH p1) zyN_addOrMultiply (z_goodV ml_N_54 im_N_addOrMultiply se_N_addOrMultiply in_N co_N_addOrMultiply) 0 rfl rfl rfl rfl (by decide) rfl rfl (Nat.le_of_ble_eq_true rfl) ⟨Nat.zero_le _, Nat.zero_le _⟩ dN_operate_68 (z_ki (fun r68_33 w1 tys1 hp => ?_))
              obtain ⟨f68_33, rfl, rfl, p68_33⟩ := hp
              refine z_istore (pc := 71) hZ [(5, .int r68_33), (0, .ref h0), (1, .int p1), (2, .int p2), (3, .int p3), (4, .int p4)] dN_operate_71 (by decide) rfl ?_
              refine z_goto (pc := 73) hZ 129 dN_operate_73 (by decide) ?_
              refine z_iload (pc := 129) hZ 0 dN_operate_129 rfl ?_
              refine z_if_ne (pc := 131) hZ 147 dN_operate_131 (by decide) (fun c131_34 => ?_) (fun c131_34 => ?_)
              · refine z_iload (pc := 147) hZ 0 dN_operate_147 rfl ?_
                exact z_reti (pc := 149) hZ dN_operate_149 .int rfl rfl ⟨_, rfl, _, rfl, rfl, (by first | exact opr_y HC gy43_8 gy57_10 p44_10 p58_12 (opp_a c63_13 p68_33) (Or.inl ⟨c131_34, rfl⟩) | exact opr_y HC gy43_8 gy57_10 p44_10 p58_12 (opp_a c63_13 p68_33) (Or.inr ⟨c131_34, _, gnokey_, nokey_⟩) | exact opr_y HC gy43_8 gy57_10 p44_10 p58_12 (opp_d c63_13 nokey_ nokey_) (Or.inl ⟨c131_34, rfl⟩) | exact opr_y HC gy43_8 gy57_10 p44_10 p58_12 (opp_d c63_13 nokey_ nokey_) (Or.inr ⟨c131_34, _, gnokey_, nokey_⟩) | exact opr_y HC gy43_8 gy57_10 p44_10 p58_12 (opp_p nokey_ nokey_) (Or.inl ⟨c131_34, rfl⟩) | exact opr_y HC gy43_8 gy57_10 p44_10 p58_12 (opp_p nokey_ nokey_) (Or.inr ⟨c131_34, _, gnokey_, nokey_⟩) | exact opr_y HC gy43_8 gy57_10 p44_10 p58_12 (opp_b c63_13 nokey_ nokey_ nokey_ nokey_) (Or.inl ⟨c131_34, rfl⟩) | exact opr_y HC gy43_8 gy57_10 p44_10 p58_12 (opp_b c63_13 nokey_ nokey_ nokey_ nokey_) (Or.inr ⟨c131_34, _, gnokey_, nokey_⟩) | exact opr_y HC gy43_8 gy57_10 p44_10 p58_12 (opp_1 c63_13 nokey_ nokey_ nokey_ nokey_) (Or.inl ⟨c131_34, rfl⟩) | exact opr_y HC gy43_8 gy57_10 p44_10 p58_12 (opp_1 c63_13 nokey_ nokey_ nokey_ nokey_) (Or.inr ⟨c131_34, _, gnokey_, nokey_⟩))⟩
              · refine z_aload_n (pc := 134) hZ 1 dN_operate_134 rfl rfl ?_
                refine z_get (pc := 135) (ci := 1) hZ 0 rfl rfl uc_N 0 (by decide) (zb fl_N_11) rfl dN_operate_135 ?_
                refine z_iload_n (pc := 138) hZ 3 dN_operate_138 rfl rfl ?_
                obtain ⟨y139_34, hy139_34, gy139_34⟩ := zH_at hH (i := p2) (by first | assumption | exact reg_of (by assumption) (by assumption))
                refine z_aald (pc := 139) hZ 1 0 rfl rfl (by first | assumption | exact reg_of (by assumption) (by assumption)) gy139_34 dN_operate_139 ?_
                refine z_aload_n (pc := 140) hZ 1 dN_operate_140 rfl rfl ?_
                refine z_get (pc := 141) (ci := 1) hZ 0 rfl rfl uc_N 1 (by decide) (zb fl_N_16) rfl dN_operate_141 ?_
                obtain ⟨q144_36, hq144_36⟩ := zp_at (X := CX h0 ra v1 v2 v3 cR g Y) (f := f68_33) hy139_34
                refine z_callVN (pc := 144) (As := [.ref v1]) (rest := []) hZ (cV_become l D (TY cR c1 c2 c3) (CX h0 ra v1 v2 v3 cR g Y) LP f68_33 y139_34 hy139_34 v1 hH.1) zyV_become (z_good co_V_become) nl_N_46 (zb in_V) (zb im_V_become) (zb se_V_become) q144_36 hq144_36 rfl rfl rfl (by decide) rfl rfl (Nat.le_of_ble_eq_true rfl) ⟨Nat.zero_le _, Nat.zero_le _⟩ dN_operate_144 (z_kv (fun w1 tys1 hp => ?_))
                obtain ⟨f144_36, rfl, rfl, p144_36⟩ := hp
                refine z_iload (pc := 147) hZ 0 dN_operate_147 rfl ?_
                exact z_reti (pc := 149) hZ dN_operate_149 .int rfl rfl ⟨_, rfl, _, rfl, rfl, (by first | exact opr_y HC gy43_8 gy57_10 p44_10 p58_12 (opp_a c63_13 p68_33) (Or.inl ⟨c131_34, rfl⟩) | exact opr_y HC gy43_8 gy57_10 p44_10 p58_12 (opp_a c63_13 p68_33) (Or.inr ⟨c131_34, _, gy139_34, p144_36⟩) | exact opr_y HC gy43_8 gy57_10 p44_10 p58_12 (opp_d c63_13 nokey_ nokey_) (Or.inl ⟨c131_34, rfl⟩) | exact opr_y HC gy43_8 gy57_10 p44_10 p58_12 (opp_d c63_13 nokey_ nokey_) (Or.inr ⟨c131_34, _, gy139_34, p144_36⟩) | exact opr_y HC gy43_8 gy57_10 p44_10 p58_12 (opp_p nokey_ nokey_) (Or.inl ⟨c131_34, rfl⟩) | exact opr_y HC gy43_8 gy57_10 p44_10 p58_12 (opp_p nokey_ nokey_) (Or.inr ⟨c131_34, _, gy139_34, p144_36⟩) | exact opr_y HC gy43_8 gy57_10 p44_10 p58_12 (opp_b c63_13 nokey_ nokey_ nokey_ nokey_) (Or.inl ⟨c131_34, rfl⟩) | exact opr_y HC gy43_8 gy57_10 p44_10 p58_12 (opp_b c63_13 nokey_ nokey_ nokey_ nokey_) (Or.inr ⟨c131_34, _, gy139_34, p144_36⟩) | exact opr_y HC gy43_8 gy57_10 p44_10 p58_12 (opp_1 c63_13 nokey_ nokey_ nokey_ nokey_) (Or.inl ⟨c131_34, rfl⟩) | exact opr_y HC gy43_8 gy57_10 p44_10 p58_12 (opp_1 c63_13 nokey_ nokey_ nokey_ nokey_) (Or.inr ⟨c131_34, _, gy139_34, p144_36⟩))⟩
          · refine z_iconst (pc := 32) hZ (-1) dN_operate_32 (by decide) ?_
            exact z_reti (pc := 33) hZ dN_operate_33 .int rfl rfl ⟨_, rfl, _, rfl, rfl, (by first | exact opr_n fun q => absurd q.1 (reg_no p1_1 c4_2) | exact opr_n fun q => absurd q.2.1 (reg_no p8_3 c11_4) | exact opr_n fun q => absurd q.2.2.1 (reg_no p16_5 c19_6) | exact opr_n fun q => absurd c23_7 q.2.2.2.1 | exact opr_n fun q => absurd (i_nle c29_8) q.2.2.2.2)⟩
set_option maxHeartbeats 4000000 in
set_option maxRecDepth 100000 in
theorem cN_compare (l : Launch) (D : va_G) (cR c1 c2 c3 : ClassId) (h0 ra v1 v2 v3 : Nat) (Y : va_W) (LP : List Nat) (f : Nat → V3) (g : Nat → Option Nat) (hH : zH LP v1 v2 v3 g) (p1 : Int32) (p2 : Int32) (p3 : Int32) : zM l D vwCl zNF zNM yN_compare wsN_compare { frames := 5, cells := 0, slots := 0, locals := 110 } [.ref h0, .int p1, .int p2, .int p3] (CX h0 ra v1 v2 v3 cR g Y ++ PL LP f) (TY cR c1 c2 c3) (qI (fun r w' tys' => CX h0 ra v1 v2 v3 cR g Y ++ PL LP f = w' ∧ (TY cR c1 c2 c3) = tys' ∧ (CPR f g p1 p2 p3 r))) := by
  refine z_met (cc := bN_compare) (maxL := 8) (ret := (some .int)) (isI := false) (own := RN) (by decide +kernel) rfl rfl (fun h => by cases h) (Nat.le_of_ble_eq_true rfl) (fun Z hZ => ?_)
  show Z 0 0 (TY cR c1 c2 c3) 0 [(0, .ref h0), (1, .int p1), (2, .int p2), (3, .int p3)] [] (CX h0 ra v1 v2 v3 cR g Y ++ PL LP f)
  refine z_iload_n (pc := 0) hZ 2 dN_compare_0 rfl rfl ?_
  refine z_callS (pc := 1) (As := [.int p2]) (rest := []) hZ (cN_isRegister l D (TY cR c1 c2 c3) (CX h0 ra v1 v2 v3 cR g Y ++ PL LP f) p2) zyN_isRegister (z_goodS ml_N_26 st_N_isRegister in_N co_N_isRegister) rfl rfl (by decide) rfl rfl (Nat.le_of_ble_eq_true rfl) ⟨Nat.zero_le _, Nat.zero_le _⟩ dN_compare_1 (z_ki (fun r1_1 w1 tys1 hp => ?_))
  obtain ⟨rfl, rfl, p1_1⟩ := hp
  refine z_if_eq (pc := 4) hZ 23 dN_compare_4 (by decide) (fun c4_2 => ?_) (fun c4_2 => ?_)
  · refine z_iconst (pc := 23) hZ (-1) dN_compare_23 (by decide) ?_
    exact z_reti (pc := 24) hZ dN_compare_24 .int rfl rfl ⟨_, rfl, rfl, rfl, (by first | exact cpr_n fun q => absurd q.1 (reg_no p1_1 c4_2) | exact cpr_n fun q => absurd q.2.1 (reg_no nokey_ nokey_) | exact cpr_n fun q => absurd nokey_ q.2.2.1 | exact cpr_n fun q => absurd (i_nle nokey_) q.2.2.2)⟩
  · refine z_iload_n (pc := 7) hZ 3 dN_compare_7 rfl rfl ?_
    refine z_callS (pc := 8) (As := [.int p3]) (rest := []) hZ (cN_isRegister l D (TY cR c1 c2 c3) (CX h0 ra v1 v2 v3 cR g Y ++ PL LP f) p3) zyN_isRegister (z_goodS ml_N_26 st_N_isRegister in_N co_N_isRegister) rfl rfl (by decide) rfl rfl (Nat.le_of_ble_eq_true rfl) ⟨Nat.zero_le _, Nat.zero_le _⟩ dN_compare_8 (z_ki (fun r8_3 w1 tys1 hp => ?_))
    obtain ⟨rfl, rfl, p8_3⟩ := hp
    refine z_if_eq (pc := 11) hZ 23 dN_compare_11 (by decide) (fun c11_4 => ?_) (fun c11_4 => ?_)
    · refine z_iconst (pc := 23) hZ (-1) dN_compare_23 (by decide) ?_
      exact z_reti (pc := 24) hZ dN_compare_24 .int rfl rfl ⟨_, rfl, rfl, rfl, (by first | exact cpr_n fun q => absurd q.1 (reg_no p1_1 c4_2) | exact cpr_n fun q => absurd q.2.1 (reg_no p8_3 c11_4) | exact cpr_n fun q => absurd nokey_ q.2.2.1 | exact cpr_n fun q => absurd (i_nle nokey_) q.2.2.2)⟩
    · refine z_iload_n (pc := 14) hZ 1 dN_compare_14 rfl rfl ?_
      refine z_if_lt (pc := 15) hZ 23 dN_compare_15 (by decide) (fun c15_5 => ?_) (fun c15_5 => ?_)
      · refine z_iconst (pc := 23) hZ (-1) dN_compare_23 (by decide) ?_
        exact z_reti (pc := 24) hZ dN_compare_24 .int rfl rfl ⟨_, rfl, rfl, rfl, (by first | exact cpr_n fun q => absurd q.1 (reg_no p1_1 c4_2) | exact cpr_n fun q => absurd q.2.1 (reg_no p8_3 c11_4) | exact cpr_n fun q => absurd c15_5 q.2.2.1 | exact cpr_n fun q => absurd (i_nle nokey_) q.2.2.2)⟩
      · refine z_iload_n (pc := 18) hZ 1 dN_compare_18 rfl rfl ?_
        refine z_iconst (pc := 19) hZ 2 dN_compare_19 (by decide) ?_
        refine z_icmp_le (pc := 20) hZ 25 dN_compare_20 (by decide) (fun c20_6 => ?_) (fun c20_6 => ?_)
        · have HC : CPC p1 p2 p3 := ⟨reg_of p1_1 c4_2, reg_of p8_3 c11_4, c15_5, i_le c20_6⟩
          refine z_aload_n (pc := 25) hZ 0 dN_compare_25 rfl rfl ?_
          refine z_get (pc := 26) (ci := 1) hZ 0 rfl rfl uc_N 0 (by decide) (zb fl_N_11) rfl dN_compare_26 ?_
          refine z_iload_n (pc := 29) hZ 2 dN_compare_29 rfl rfl ?_
          obtain ⟨y30_6, hy30_6, gy30_6⟩ := zH_at hH (i := p2) (by first | assumption | exact reg_of (by assumption) (by assumption))
          refine z_aald (pc := 30) hZ 1 0 rfl rfl (by first | assumption | exact reg_of (by assumption) (by assumption)) gy30_6 dN_compare_30 ?_
          refine z_astore (pc := 31) hZ [(4, .ref y30_6), (0, .ref h0), (1, .int p1), (2, .int p2), (3, .int p3)] dN_compare_31 (by decide) rfl ?_
          refine z_aload_n (pc := 33) hZ 1 dN_compare_33 rfl rfl ?_
          refine z_get (pc := 34) (ci := 1) hZ 0 rfl rfl uc_N 0 (by decide) (zb fl_N_11) rfl dN_compare_34 ?_
          refine z_iload_n (pc := 37) hZ 4 dN_compare_37 rfl rfl ?_
          obtain ⟨y38_7, hy38_7, gy38_7⟩ := zH_at hH (i := p3) (by first | assumption | exact reg_of (by assumption) (by assumption))
          refine z_aald (pc := 38) hZ 1 0 rfl rfl (by first | assumption | exact reg_of (by assumption) (by assumption)) gy38_7 dN_compare_38 ?_
          refine z_astore (pc := 39) hZ [(5, .ref y38_7), (4, .ref y30_6), (0, .ref h0), (1, .int p1), (2, .int p2), (3, .int p3)] dN_compare_39 (by decide) rfl ?_
          refine z_aload (pc := 41) hZ 1 dN_compare_41 rfl ?_
          refine z_pg0N (pc := 43) hZ hy30_6 uc_V nf_N_71 dN_compare_43 (fun v43_9 ev43_9 => ?_)
          refine z_iconst (pc := 46) hZ 5 dN_compare_46 (by decide) ?_
          refine z_icmp_eq (pc := 47) hZ 59 dN_compare_47 (by decide) (fun c47_10 => ?_) (fun c47_10 => ?_)
          · refine z_iconst (pc := 59) hZ 0 dN_compare_59 (by decide) ?_
            exact z_reti (pc := 60) hZ dN_compare_60 .int rfl rfl ⟨_, rfl, rfl, rfl, (by first | exact cpr_y HC gy30_6 gy38_7 fun a b ha hb => cv_x (Or.inl (CA_5 ha ev43_9 c47_10)) | exact cpr_y HC gy30_6 gy38_7 fun a b ha hb => cv_x (Or.inr (CA_5 hb nokey_ nokey_)))⟩
          · refine z_aload (pc := 50) hZ 0 dN_compare_50 rfl ?_
            refine z_pg0N (pc := 52) hZ hy38_7 uc_V nf_N_71 dN_compare_52 (fun v52_11 ev52_11 => ?_)
            refine z_iconst (pc := 55) hZ 5 dN_compare_55 (by decide) ?_
            refine z_icmp_ne (pc := 56) hZ 61 dN_compare_56 (by decide) (fun c56_12 => ?_) (fun c56_12 => ?_)
            · refine z_aload (pc := 61) hZ 1 dN_compare_61 rfl ?_
              refine z_aload (pc := 63) hZ 0 dN_compare_63 rfl ?_
              refine z_callSN (pc := 65) (As := [.ref y30_6, .ref y38_7]) (rest := []) hZ (cO_of l D (TY cR c1 c2 c3) (CX h0 ra v1 v2 v3 cR g Y) LP f y30_6 hy30_6 y38_7 hy38_7) zyO_of (z_good co_O_of) nl_N_74 (zb in_O) (zb st_O_of) rfl rfl (by decide) rfl rfl (Nat.le_of_ble_eq_true rfl) ⟨Nat.zero_le _, Nat.zero_le _⟩ dN_compare_65 (z_ki (fun r65_13 w1 tys1 hp => ?_))
              obtain ⟨rfl, rfl, p65_13⟩ := hp
              refine z_istore (pc := 68) hZ [(6, .int r65_13), (5, .ref y38_7), (4, .ref y30_6), (0, .ref h0), (1, .int p1), (2, .int p2), (3, .int p3)] dN_compare_68 (by decide) rfl ?_
              refine z_iload (pc := 70) hZ 0 dN_compare_70 rfl ?_
              refine z_if_ne (pc := 72) hZ 88 dN_compare_72 (by decide) (fun c72_14 => ?_) (fun c72_14 => ?_)
              · refine z_iload (pc := 88) hZ 0 dN_compare_88 rfl ?_
                refine z_if_ge (pc := 90) hZ 101 dN_compare_90 (by decide) (fun c90_15 => ?_) (fun c90_15 => ?_)
                · refine z_iconst (pc := 101) hZ 0 dN_compare_101 (by decide) ?_
                  refine z_istore (pc := 102) hZ [(7, .int 0), (6, .int r65_13), (5, .ref y38_7), (4, .ref y30_6), (0, .ref h0), (1, .int p1), (2, .int p2), (3, .int p3)] dN_compare_102 (by decide) rfl ?_
                  refine z_iload (pc := 104) hZ 0 dN_compare_104 rfl ?_
                  refine z_if_eq (pc := 106) hZ 113 dN_compare_106 (by decide) (fun c106 => ?_) (fun c9 => False.elim (absurd c9 (by decide)))
                  refine z_iconst (pc := 113) hZ 0 dN_compare_113 (by decide) ?_
                  exact z_reti (pc := 114) hZ dN_compare_114 .int rfl rfl ⟨_, rfl, rfl, rfl, (by first | exact cpr_y HC gy30_6 gy38_7 fun a b ha hb => cv_n 0 (CA_n5 ha ev43_9 c47_10) (CA_n5 hb ev52_11 c56_12) (p65_13 _ _ ha hb (CA_n5 ha ev43_9 c47_10) (CA_n5 hb ev52_11 c56_12)) (Or.inl ⟨c72_14, Or.inr ⟨nokey_, rfl⟩⟩) | exact cpr_y HC gy30_6 gy38_7 fun a b ha hb => cv_n 1 (CA_n5 ha ev43_9 c47_10) (CA_n5 hb ev52_11 c56_12) (p65_13 _ _ ha hb (CA_n5 ha ev43_9 c47_10) (CA_n5 hb ev52_11 c56_12)) (Or.inl ⟨c72_14, Or.inl ⟨nokey_, rfl⟩⟩) | exact cpr_y HC gy30_6 gy38_7 fun a b ha hb => cv_n 0 (CA_n5 ha ev43_9 c47_10) (CA_n5 hb ev52_11 c56_12) (p65_13 _ _ ha hb (CA_n5 ha ev43_9 c47_10) (CA_n5 hb ev52_11 c56_12)) (Or.inr ⟨c72_14, Or.inl ⟨c90_15, rfl⟩⟩) | exact cpr_y HC gy30_6 gy38_7 fun a b ha hb => cv_n 0 (CA_n5 ha ev43_9 c47_10) (CA_n5 hb ev52_11 c56_12) (p65_13 _ _ ha hb (CA_n5 ha ev43_9 c47_10) (CA_n5 hb ev52_11 c56_12)) (Or.inr ⟨c72_14, Or.inr (Or.inl ⟨c90_15, nokey_, rfl⟩)⟩) | exact cpr_y HC gy30_6 gy38_7 fun a b ha hb => cv_n 1 (CA_n5 ha ev43_9 c47_10) (CA_n5 hb ev52_11 c56_12) (p65_13 _ _ ha hb (CA_n5 ha ev43_9 c47_10) (CA_n5 hb ev52_11 c56_12)) (Or.inr ⟨c72_14, Or.inr (Or.inr ⟨c90_15, nokey_, rfl⟩)⟩))⟩
                · refine z_iload_n (pc := 93) hZ 4 dN_compare_93 rfl rfl ?_
                  refine z_if_eq (pc := 94) hZ 101 dN_compare_94 (by decide) (fun c94_16 => ?_) (fun c94_16 => ?_)
                  · refine z_iconst (pc := 101) hZ 0 dN_compare_101 (by decide) ?_
                    refine z_istore (pc := 102) hZ [(7, .int 0), (6, .int r65_13), (5, .ref y38_7), (4, .ref y30_6), (0, .ref h0), (1, .int p1), (2, .int p2), (3, .int p3)] dN_compare_102 (by decide) rfl ?_
                    refine z_iload (pc := 104) hZ 0 dN_compare_104 rfl ?_
                    refine z_if_eq (pc := 106) hZ 113 dN_compare_106 (by decide) (fun c106 => ?_) (fun c9 => False.elim (absurd c9 (by decide)))
                    refine z_iconst (pc := 113) hZ 0 dN_compare_113 (by decide) ?_
                    exact z_reti (pc := 114) hZ dN_compare_114 .int rfl rfl ⟨_, rfl, rfl, rfl, (by first | exact cpr_y HC gy30_6 gy38_7 fun a b ha hb => cv_n 0 (CA_n5 ha ev43_9 c47_10) (CA_n5 hb ev52_11 c56_12) (p65_13 _ _ ha hb (CA_n5 ha ev43_9 c47_10) (CA_n5 hb ev52_11 c56_12)) (Or.inl ⟨c72_14, Or.inr ⟨nokey_, rfl⟩⟩) | exact cpr_y HC gy30_6 gy38_7 fun a b ha hb => cv_n 1 (CA_n5 ha ev43_9 c47_10) (CA_n5 hb ev52_11 c56_12) (p65_13 _ _ ha hb (CA_n5 ha ev43_9 c47_10) (CA_n5 hb ev52_11 c56_12)) (Or.inl ⟨c72_14, Or.inl ⟨nokey_, rfl⟩⟩) | exact cpr_y HC gy30_6 gy38_7 fun a b ha hb => cv_n 0 (CA_n5 ha ev43_9 c47_10) (CA_n5 hb ev52_11 c56_12) (p65_13 _ _ ha hb (CA_n5 ha ev43_9 c47_10) (CA_n5 hb ev52_11 c56_12)) (Or.inr ⟨c72_14, Or.inl ⟨c90_15, rfl⟩⟩) | exact cpr_y HC gy30_6 gy38_7 fun a b ha hb => cv_n 0 (CA_n5 ha ev43_9 c47_10) (CA_n5 hb ev52_11 c56_12) (p65_13 _ _ ha hb (CA_n5 ha ev43_9 c47_10) (CA_n5 hb ev52_11 c56_12)) (Or.inr ⟨c72_14, Or.inr (Or.inl ⟨c90_15, c94_16, rfl⟩)⟩) | exact cpr_y HC gy30_6 gy38_7 fun a b ha hb => cv_n 1 (CA_n5 ha ev43_9 c47_10) (CA_n5 hb ev52_11 c56_12) (p65_13 _ _ ha hb (CA_n5 ha ev43_9 c47_10) (CA_n5 hb ev52_11 c56_12)) (Or.inr ⟨c72_14, Or.inr (Or.inr ⟨c90_15, c94_16, rfl⟩)⟩))⟩
                  · refine z_iconst (pc := 97) hZ 1 dN_compare_97 (by decide) ?_
                    refine z_goto (pc := 98) hZ 102 dN_compare_98 (by decide) ?_
                    refine z_istore (pc := 102) hZ [(7, .int 1), (6, .int r65_13), (5, .ref y38_7), (4, .ref y30_6), (0, .ref h0), (1, .int p1), (2, .int p2), (3, .int p3)] dN_compare_102 (by decide) rfl ?_
                    refine z_iload (pc := 104) hZ 0 dN_compare_104 rfl ?_
                    refine z_if_eq (pc := 106) hZ 113 dN_compare_106 (by decide) (fun c9 => False.elim (absurd c9 (by decide))) (fun c106 => ?_)
                    refine z_iconst (pc := 109) hZ 1 dN_compare_109 (by decide) ?_
                    refine z_goto (pc := 110) hZ 114 dN_compare_110 (by decide) ?_
                    exact z_reti (pc := 114) hZ dN_compare_114 .int rfl rfl ⟨_, rfl, rfl, rfl, (by first | exact cpr_y HC gy30_6 gy38_7 fun a b ha hb => cv_n 0 (CA_n5 ha ev43_9 c47_10) (CA_n5 hb ev52_11 c56_12) (p65_13 _ _ ha hb (CA_n5 ha ev43_9 c47_10) (CA_n5 hb ev52_11 c56_12)) (Or.inl ⟨c72_14, Or.inr ⟨nokey_, rfl⟩⟩) | exact cpr_y HC gy30_6 gy38_7 fun a b ha hb => cv_n 1 (CA_n5 ha ev43_9 c47_10) (CA_n5 hb ev52_11 c56_12) (p65_13 _ _ ha hb (CA_n5 ha ev43_9 c47_10) (CA_n5 hb ev52_11 c56_12)) (Or.inl ⟨c72_14, Or.inl ⟨nokey_, rfl⟩⟩) | exact cpr_y HC gy30_6 gy38_7 fun a b ha hb => cv_n 0 (CA_n5 ha ev43_9 c47_10) (CA_n5 hb ev52_11 c56_12) (p65_13 _ _ ha hb (CA_n5 ha ev43_9 c47_10) (CA_n5 hb ev52_11 c56_12)) (Or.inr ⟨c72_14, Or.inl ⟨c90_15, rfl⟩⟩) | exact cpr_y HC gy30_6 gy38_7 fun a b ha hb => cv_n 0 (CA_n5 ha ev43_9 c47_10) (CA_n5 hb ev52_11 c56_12) (p65_13 _ _ ha hb (CA_n5 ha ev43_9 c47_10) (CA_n5 hb ev52_11 c56_12)) (Or.inr ⟨c72_14, Or.inr (Or.inl ⟨c90_15, c94_16, rfl⟩)⟩) | exact cpr_y HC gy30_6 gy38_7 fun a b ha hb => cv_n 1 (CA_n5 ha ev43_9 c47_10) (CA_n5 hb ev52_11 c56_12) (p65_13 _ _ ha hb (CA_n5 ha ev43_9 c47_10) (CA_n5 hb ev52_11 c56_12)) (Or.inr ⟨c72_14, Or.inr (Or.inr ⟨c90_15, c94_16, rfl⟩)⟩))⟩
              · refine z_iload_n (pc := 75) hZ 4 dN_compare_75 rfl rfl ?_
                refine z_iconst (pc := 76) hZ 1 dN_compare_76 (by decide) ?_
                refine z_icmp_eq (pc := 77) hZ 84 dN_compare_77 (by decide) (fun c77_17 => ?_) (fun c77_17 => ?_)
                · refine z_iconst (pc := 84) hZ 0 dN_compare_84 (by decide) ?_
                  refine z_goto (pc := 85) hZ 102 dN_compare_85 (by decide) ?_
                  refine z_istore (pc := 102) hZ [(7, .int 0), (6, .int r65_13), (5, .ref y38_7), (4, .ref y30_6), (0, .ref h0), (1, .int p1), (2, .int p2), (3, .int p3)] dN_compare_102 (by decide) rfl ?_
                  refine z_iload (pc := 104) hZ 0 dN_compare_104 rfl ?_
                  refine z_if_eq (pc := 106) hZ 113 dN_compare_106 (by decide) (fun c106 => ?_) (fun c9 => False.elim (absurd c9 (by decide)))
                  refine z_iconst (pc := 113) hZ 0 dN_compare_113 (by decide) ?_
                  exact z_reti (pc := 114) hZ dN_compare_114 .int rfl rfl ⟨_, rfl, rfl, rfl, (by first | exact cpr_y HC gy30_6 gy38_7 fun a b ha hb => cv_n 0 (CA_n5 ha ev43_9 c47_10) (CA_n5 hb ev52_11 c56_12) (p65_13 _ _ ha hb (CA_n5 ha ev43_9 c47_10) (CA_n5 hb ev52_11 c56_12)) (Or.inl ⟨c72_14, Or.inr ⟨c77_17, rfl⟩⟩) | exact cpr_y HC gy30_6 gy38_7 fun a b ha hb => cv_n 1 (CA_n5 ha ev43_9 c47_10) (CA_n5 hb ev52_11 c56_12) (p65_13 _ _ ha hb (CA_n5 ha ev43_9 c47_10) (CA_n5 hb ev52_11 c56_12)) (Or.inl ⟨c72_14, Or.inl ⟨c77_17, rfl⟩⟩) | exact cpr_y HC gy30_6 gy38_7 fun a b ha hb => cv_n 0 (CA_n5 ha ev43_9 c47_10) (CA_n5 hb ev52_11 c56_12) (p65_13 _ _ ha hb (CA_n5 ha ev43_9 c47_10) (CA_n5 hb ev52_11 c56_12)) (Or.inr ⟨c72_14, Or.inl ⟨nokey_, rfl⟩⟩) | exact cpr_y HC gy30_6 gy38_7 fun a b ha hb => cv_n 0 (CA_n5 ha ev43_9 c47_10) (CA_n5 hb ev52_11 c56_12) (p65_13 _ _ ha hb (CA_n5 ha ev43_9 c47_10) (CA_n5 hb ev52_11 c56_12)) (Or.inr ⟨c72_14, Or.inr (Or.inl ⟨nokey_, nokey_, rfl⟩)⟩) | exact cpr_y HC gy30_6 gy38_7 fun a b ha hb => cv_n 1 (CA_n5 ha ev43_9 c47_10) (CA_n5 hb ev52_11 c56_12) (p65_13 _ _ ha hb (CA_n5 ha ev43_9 c47_10) (CA_n5 hb ev52_11 c56_12)) (Or.inr ⟨c72_14, Or.inr (Or.inr ⟨nokey_, nokey_, rfl⟩)⟩))⟩
                · refine z_iconst (pc := 80) hZ 1 dN_compare_80 (by decide) ?_
                  refine z_goto (pc := 81) hZ 102 dN_compare_81 (by decide) ?_
                  refine z_istore (pc := 102) hZ [(7, .int 1), (6, .int r65_13), (5, .ref y38_7), (4, .ref y30_6), (0, .ref h0), (1, .int p1), (2, .int p2), (3, .int p3)] dN_compare_102 (by decide) rfl ?_
                  refine z_iload (pc := 104) hZ 0 dN_compare_104 rfl ?_
                  refine z_if_eq (pc := 106) hZ 113 dN_compare_106 (by decide) (fun c9 => False.elim (absurd c9 (by decide))) (fun c106 => ?_)
                  refine z_iconst (pc := 109) hZ 1 dN_compare_109 (by decide) ?_
                  refine z_goto (pc := 110) hZ 114 dN_compare_110 (by decide) ?_
                  exact z_reti (pc := 114) hZ dN_compare_114 .int rfl rfl ⟨_, rfl, rfl, rfl, (by first | exact cpr_y HC gy30_6 gy38_7 fun a b ha hb => cv_n 0 (CA_n5 ha ev43_9 c47_10) (CA_n5 hb ev52_11 c56_12) (p65_13 _ _ ha hb (CA_n5 ha ev43_9 c47_10) (CA_n5 hb ev52_11 c56_12)) (Or.inl ⟨c72_14, Or.inr ⟨c77_17, rfl⟩⟩) | exact cpr_y HC gy30_6 gy38_7 fun a b ha hb => cv_n 1 (CA_n5 ha ev43_9 c47_10) (CA_n5 hb ev52_11 c56_12) (p65_13 _ _ ha hb (CA_n5 ha ev43_9 c47_10) (CA_n5 hb ev52_11 c56_12)) (Or.inl ⟨c72_14, Or.inl ⟨c77_17, rfl⟩⟩) | exact cpr_y HC gy30_6 gy38_7 fun a b ha hb => cv_n 0 (CA_n5 ha ev43_9 c47_10) (CA_n5 hb ev52_11 c56_12) (p65_13 _ _ ha hb (CA_n5 ha ev43_9 c47_10) (CA_n5 hb ev52_11 c56_12)) (Or.inr ⟨c72_14, Or.inl ⟨nokey_, rfl⟩⟩) | exact cpr_y HC gy30_6 gy38_7 fun a b ha hb => cv_n 0 (CA_n5 ha ev43_9 c47_10) (CA_n5 hb ev52_11 c56_12) (p65_13 _ _ ha hb (CA_n5 ha ev43_9 c47_10) (CA_n5 hb ev52_11 c56_12)) (Or.inr ⟨c72_14, Or.inr (Or.inl ⟨nokey_, nokey_, rfl⟩)⟩) | exact cpr_y HC gy30_6 gy38_7 fun a b ha hb => cv_n 1 (CA_n5 ha ev43_9 c47_10) (CA_n5 hb ev52_11 c56_12) (p65_13 _ _ ha hb (CA_n5 ha ev43_9 c47_10) (CA_n5 hb ev52_11 c56_12)) (Or.inr ⟨c72_14, Or.inr (Or.inr ⟨nokey_, nokey_, rfl⟩)⟩))⟩
            · refine z_iconst (pc := 59) hZ 0 dN_compare_59 (by decide) ?_
              exact z_reti (pc := 60) hZ dN_compare_60 .int rfl rfl ⟨_, rfl, rfl, rfl, (by first | exact cpr_y HC gy30_6 gy38_7 fun a b ha hb => cv_x (Or.inl (CA_5 ha ev43_9 c47_10)) | exact cpr_y HC gy30_6 gy38_7 fun a b ha hb => cv_x (Or.inr (CA_5 hb ev52_11 c56_12)))⟩
        · refine z_iconst (pc := 23) hZ (-1) dN_compare_23 (by decide) ?_
          exact z_reti (pc := 24) hZ dN_compare_24 .int rfl rfl ⟨_, rfl, rfl, rfl, (by first | exact cpr_n fun q => absurd q.1 (reg_no p1_1 c4_2) | exact cpr_n fun q => absurd q.2.1 (reg_no p8_3 c11_4) | exact cpr_n fun q => absurd c15_5 q.2.2.1 | exact cpr_n fun q => absurd (i_nle c20_6) q.2.2.2)⟩
set_option maxHeartbeats 4000000 in
set_option maxRecDepth 100000 in
theorem cN_kind (l : Launch) (D : va_G) (cR c1 c2 c3 : ClassId) (h0 ra v1 v2 v3 : Nat) (Y : va_W) (LP : List Nat) (f : Nat → V3) (g : Nat → Option Nat) (hH : zH LP v1 v2 v3 g) (p1 : Int32) : zM l D vwCl zNF zNM yN_kind wsN_kind { frames := 1, cells := 0, slots := 0, locals := 20 } [.ref h0, .int p1] (CX h0 ra v1 v2 v3 cR g Y ++ PL LP f) (TY cR c1 c2 c3) (qI (fun r w' tys' => CX h0 ra v1 v2 v3 cR g Y ++ PL LP f = w' ∧ (TY cR c1 c2 c3) = tys' ∧ (KDR f g p1 r))) := by
  refine z_met (cc := bN_kind) (maxL := 2) (ret := (some .int)) (isI := false) (own := RN) (by decide +kernel) rfl rfl (fun h => by cases h) (Nat.le_of_ble_eq_true rfl) (fun Z hZ => ?_)
  show Z 0 0 (TY cR c1 c2 c3) 0 [(0, .ref h0), (1, .int p1)] [] (CX h0 ra v1 v2 v3 cR g Y ++ PL LP f)
  refine z_iload_n (pc := 0) hZ 1 dN_kind_0 rfl rfl ?_
  refine z_callS (pc := 1) (As := [.int p1]) (rest := []) hZ (cN_isRegister l D (TY cR c1 c2 c3) (CX h0 ra v1 v2 v3 cR g Y ++ PL LP f) p1) zyN_isRegister (z_goodS ml_N_26 st_N_isRegister in_N co_N_isRegister) rfl rfl (by decide) rfl rfl (Nat.le_of_ble_eq_true rfl) ⟨Nat.zero_le _, Nat.zero_le _⟩ dN_kind_1 (z_ki (fun r1_1 w1 tys1 hp => ?_))
  obtain ⟨rfl, rfl, p1_1⟩ := hp
  refine z_if_eq (pc := 4) hZ 19 dN_kind_4 (by decide) (fun c4_2 => ?_) (fun c4_2 => ?_)
  · refine z_iconst (pc := 19) hZ (-1) dN_kind_19 (by decide) ?_
    exact z_reti (pc := 20) hZ dN_kind_20 .int rfl rfl ⟨_, rfl, rfl, rfl, (by first | exact kdr_n (reg_no p1_1 c4_2) | exact kdr_y (reg_of p1_1 c4_2) gnokey_ nokey_)⟩
  · refine z_aload_n (pc := 7) hZ 0 dN_kind_7 rfl rfl ?_
    refine z_get (pc := 8) (ci := 1) hZ 0 rfl rfl uc_N 0 (by decide) (zb fl_N_11) rfl dN_kind_8 ?_
    refine z_iload_n (pc := 11) hZ 1 dN_kind_11 rfl rfl ?_
    obtain ⟨y12_2, hy12_2, gy12_2⟩ := zH_at hH (i := p1) (by first | assumption | exact reg_of (by assumption) (by assumption))
    refine z_aald (pc := 12) hZ 1 0 rfl rfl (by first | assumption | exact reg_of (by assumption) (by assumption)) gy12_2 dN_kind_12 ?_
    refine z_pg0N (pc := 13) hZ hy12_2 uc_V nf_N_71 dN_kind_13 (fun v13_4 ev13_4 => ?_)
    refine z_goto (pc := 16) hZ 20 dN_kind_16 (by decide) ?_
    exact z_reti (pc := 20) hZ dN_kind_20 .int rfl rfl ⟨_, rfl, rfl, rfl, (by first | exact kdr_n (reg_no p1_1 c4_2) | exact kdr_y (reg_of p1_1 c4_2) gy12_2 ev13_4)⟩
set_option maxHeartbeats 4000000 in
set_option maxRecDepth 100000 in
theorem cN_number (l : Launch) (D : va_G) (cR c1 c2 c3 : ClassId) (h0 ra v1 v2 v3 : Nat) (Y : va_W) (LP : List Nat) (f : Nat → V3) (g : Nat → Option Nat) (hH : zH LP v1 v2 v3 g) (p1 : Int32) : zM l D vwCl zNF zNM yN_number wsN_number { frames := 1, cells := 0, slots := 0, locals := 20 } [.ref h0, .int p1] (CX h0 ra v1 v2 v3 cR g Y ++ PL LP f) (TY cR c1 c2 c3) (qL (fun r w' tys' => CX h0 ra v1 v2 v3 cR g Y ++ PL LP f = w' ∧ (TY cR c1 c2 c3) = tys' ∧ ((¬ vp_in p1 32 → r = 0) ∧ (vp_in p1 32 → KV LP f g p1 (fun v => r = v.2.1))))) := by
  refine z_met (cc := bN_number) (maxL := 2) (ret := (some .long)) (isI := false) (own := RN) (by decide +kernel) rfl rfl (fun h => by cases h) (Nat.le_of_ble_eq_true rfl) (fun Z hZ => ?_)
  show Z 0 0 (TY cR c1 c2 c3) 0 [(0, .ref h0), (1, .int p1)] [] (CX h0 ra v1 v2 v3 cR g Y ++ PL LP f)
  refine z_iload_n (pc := 0) hZ 1 dN_number_0 rfl rfl ?_
  refine z_callS (pc := 1) (As := [.int p1]) (rest := []) hZ (cN_isRegister l D (TY cR c1 c2 c3) (CX h0 ra v1 v2 v3 cR g Y ++ PL LP f) p1) zyN_isRegister (z_goodS ml_N_26 st_N_isRegister in_N co_N_isRegister) rfl rfl (by decide) rfl rfl (Nat.le_of_ble_eq_true rfl) ⟨Nat.zero_le _, Nat.zero_le _⟩ dN_number_1 (z_ki (fun r1_1 w1 tys1 hp => ?_))
  obtain ⟨rfl, rfl, p1_1⟩ := hp
  refine z_if_eq (pc := 4) hZ 19 dN_number_4 (by decide) (fun c4_2 => ?_) (fun c4_2 => ?_)
  · refine z_lconst (pc := 19) hZ 0 dN_number_19 (by decide) ?_
    exact z_retl (pc := 20) hZ dN_number_20 rfl ⟨_, rfl, rfl, rfl, (by first | exact ⟨fun _ => rfl, fun q => absurd q (reg_no p1_1 c4_2)⟩ | exact ⟨fun q => absurd (reg_of p1_1 c4_2) q, fun _ => kv_i hnokey_ gnokey_ nokey_⟩)⟩
  · refine z_aload_n (pc := 7) hZ 0 dN_number_7 rfl rfl ?_
    refine z_get (pc := 8) (ci := 1) hZ 0 rfl rfl uc_N 0 (by decide) (zb fl_N_11) rfl dN_number_8 ?_
    refine z_iload_n (pc := 11) hZ 1 dN_number_11 rfl rfl ?_
    obtain ⟨y12_2, hy12_2, gy12_2⟩ := zH_at hH (i := p1) (by first | assumption | exact reg_of (by assumption) (by assumption))
    refine z_aald (pc := 12) hZ 1 0 rfl rfl (by first | assumption | exact reg_of (by assumption) (by assumption)) gy12_2 dN_number_12 ?_
    refine z_pg1N (pc := 13) hZ hy12_2 uc_V nf_N_38 dN_number_13 (fun v13_4 ev13_4 => ?_)
    refine z_goto (pc := 16) hZ 20 dN_number_16 (by decide) ?_
    exact z_retl (pc := 20) hZ dN_number_20 rfl ⟨_, rfl, rfl, rfl, (by first | exact ⟨fun _ => rfl, fun q => absurd q (reg_no p1_1 c4_2)⟩ | exact ⟨fun q => absurd (reg_of p1_1 c4_2) q, fun _ => kv_i hy12_2 gy12_2 ev13_4⟩)⟩
set_option maxHeartbeats 4000000 in
set_option maxRecDepth 100000 in
theorem cN_exponent (l : Launch) (D : va_G) (cR c1 c2 c3 : ClassId) (h0 ra v1 v2 v3 : Nat) (Y : va_W) (LP : List Nat) (f : Nat → V3) (g : Nat → Option Nat) (hH : zH LP v1 v2 v3 g) (p1 : Int32) : zM l D vwCl zNF zNM yN_exponent wsN_exponent { frames := 1, cells := 0, slots := 0, locals := 20 } [.ref h0, .int p1] (CX h0 ra v1 v2 v3 cR g Y ++ PL LP f) (TY cR c1 c2 c3) (qI (fun r w' tys' => CX h0 ra v1 v2 v3 cR g Y ++ PL LP f = w' ∧ (TY cR c1 c2 c3) = tys' ∧ ((¬ vp_in p1 32 → r = 0) ∧ (vp_in p1 32 → KV LP f g p1 (fun v => r = v.2.2))))) := by
  refine z_met (cc := bN_exponent) (maxL := 2) (ret := (some .int)) (isI := false) (own := RN) (by decide +kernel) rfl rfl (fun h => by cases h) (Nat.le_of_ble_eq_true rfl) (fun Z hZ => ?_)
  show Z 0 0 (TY cR c1 c2 c3) 0 [(0, .ref h0), (1, .int p1)] [] (CX h0 ra v1 v2 v3 cR g Y ++ PL LP f)
  refine z_iload_n (pc := 0) hZ 1 dN_exponent_0 rfl rfl ?_
  refine z_callS (pc := 1) (As := [.int p1]) (rest := []) hZ (cN_isRegister l D (TY cR c1 c2 c3) (CX h0 ra v1 v2 v3 cR g Y ++ PL LP f) p1) zyN_isRegister (z_goodS ml_N_26 st_N_isRegister in_N co_N_isRegister) rfl rfl (by decide) rfl rfl (Nat.le_of_ble_eq_true rfl) ⟨Nat.zero_le _, Nat.zero_le _⟩ dN_exponent_1 (z_ki (fun r1_1 w1 tys1 hp => ?_))
  obtain ⟨rfl, rfl, p1_1⟩ := hp
  refine z_if_eq (pc := 4) hZ 19 dN_exponent_4 (by decide) (fun c4_2 => ?_) (fun c4_2 => ?_)
  · refine z_iconst (pc := 19) hZ 0 dN_exponent_19 (by decide) ?_
    exact z_reti (pc := 20) hZ dN_exponent_20 .int rfl rfl ⟨_, rfl, rfl, rfl, (by first | exact ⟨fun _ => rfl, fun q => absurd q (reg_no p1_1 c4_2)⟩ | exact ⟨fun q => absurd (reg_of p1_1 c4_2) q, fun _ => kv_i hnokey_ gnokey_ nokey_⟩)⟩
  · refine z_aload_n (pc := 7) hZ 0 dN_exponent_7 rfl rfl ?_
    refine z_get (pc := 8) (ci := 1) hZ 0 rfl rfl uc_N 0 (by decide) (zb fl_N_11) rfl dN_exponent_8 ?_
    refine z_iload_n (pc := 11) hZ 1 dN_exponent_11 rfl rfl ?_
    obtain ⟨y12_2, hy12_2, gy12_2⟩ := zH_at hH (i := p1) (by first | assumption | exact reg_of (by assumption) (by assumption))
    refine z_aald (pc := 12) hZ 1 0 rfl rfl (by first | assumption | exact reg_of (by assumption) (by assumption)) gy12_2 dN_exponent_12 ?_
    refine z_pg2N (pc := 13) hZ hy12_2 uc_V nf_N_42 dN_exponent_13 (fun v13_4 ev13_4 => ?_)
    refine z_goto (pc := 16) hZ 20 dN_exponent_16 (by decide) ?_
    exact z_reti (pc := 20) hZ dN_exponent_20 .int rfl rfl ⟨_, rfl, rfl, rfl, (by first | exact ⟨fun _ => rfl, fun q => absurd q (reg_no p1_1 c4_2)⟩ | exact ⟨fun q => absurd (reg_of p1_1 c4_2) q, fun _ => kv_i hy12_2 gy12_2 ev13_4⟩)⟩
set_option maxHeartbeats 4000000 in
set_option maxRecDepth 100000 in
theorem cN_sum (l : Launch) (D : va_G) (cR c1 c2 c3 : ClassId) (h0 ra v1 v2 v3 : Nat) (Y : va_W) (LP : List Nat) (f : Nat → V3) (g : Nat → Option Nat) (hH : zH LP v1 v2 v3 g) (p1 : Int32) (p2 : Int32) (p3 : Int32) : zM l D vwCl zNF zNM yN_sum wsN_sum { frames := 6, cells := 0, slots := 0, locals := 162 } [.ref h0, .int p1, .int p2, .int p3] (CX h0 ra v1 v2 v3 cR g Y ++ PL LP f) (TY cR c1 c2 c3) (qI (fun r w' tys' => ∃ f' : Nat → V3, CX h0 ra v1 v2 v3 cR g Y ++ PL LP f' = w' ∧ (TY cR c1 c2 c3) = tys' ∧ ((((vp_in p1 32 ∧ rowOK p2 p3) → r = 1) ∧ (¬ (vp_in p1 32 ∧ rowOK p2 p3) → r = 0)) ∧ (STP f f' v1 v2 v3 g g (vp_in p1 32 ∧ rowOK p2 p3) (sumT p1 p2 p3))))) := by
  refine z_met (cc := bN_sum) (maxL := 5) (ret := (some .boolean)) (isI := false) (own := RN) (by decide +kernel) rfl rfl (fun h => by cases h) (Nat.le_of_ble_eq_true rfl) (fun Z hZ => ?_)
  show Z 0 0 (TY cR c1 c2 c3) 0 [(0, .ref h0), (1, .int p1), (2, .int p2), (3, .int p3)] [] (CX h0 ra v1 v2 v3 cR g Y ++ PL LP f)
  refine z_iload_n (pc := 0) hZ 1 dN_sum_0 rfl rfl ?_
  refine z_callS (pc := 1) (As := [.int p1]) (rest := []) hZ (cN_isRegister l D (TY cR c1 c2 c3) (CX h0 ra v1 v2 v3 cR g Y ++ PL LP f) p1) zyN_isRegister (z_goodS ml_N_26 st_N_isRegister in_N co_N_isRegister) rfl rfl (by decide) rfl rfl (Nat.le_of_ble_eq_true rfl) ⟨Nat.zero_le _, Nat.zero_le _⟩ dN_sum_1 (z_ki (fun r1_1 w1 tys1 hp => ?_))
  obtain ⟨rfl, rfl, p1_1⟩ := hp
  refine z_if_eq (pc := 4) hZ 15 dN_sum_4 (by decide) (fun c4_2 => ?_) (fun c4_2 => ?_)
  · refine z_iconst (pc := 15) hZ 0 dN_sum_15 (by decide) ?_
    exact z_reti (pc := 16) hZ dN_sum_16 .boolean rfl rfl ⟨_, rfl, _, rfl, rfl, (by exact ⟨by first | exact ⟨fun _ => rfl, fun q => absurd (⟨reg_of (by assumption) (by assumption), row_of (by assumption) (by assumption)⟩) q⟩ | exact ⟨fun q => absurd q.1 (reg_no (by assumption) (by assumption)), fun _ => rfl⟩ | exact ⟨fun q => absurd q.2 (row_no (by assumption) (by assumption)), fun _ => rfl⟩, by first | exact stp_n fun q => absurd q.1 (reg_no p1_1 c4_2) | exact stp_n fun q => absurd q.2 (row_no nokey_ nokey_) | exact stp_y ⟨(reg_of p1_1 c4_2), (row_of nokey_ nokey_)⟩ (smi_e s28 (reg_of p1_1 c4_2) (clamp_e k28 nokey_) gnokey_ nokey_)⟩)⟩
  · refine z_iload_n (pc := 7) hZ 2 dN_sum_7 rfl rfl ?_
    refine z_iload_n (pc := 8) hZ 3 dN_sum_8 rfl rfl ?_
    refine z_callS (pc := 9) (As := [.int p2, .int p3]) (rest := []) hZ (cN_isRow l D (TY cR c1 c2 c3) (CX h0 ra v1 v2 v3 cR g Y ++ PL LP f) p2 p3) zyN_isRow (z_goodS ml_N_80 st_N_isRow in_N co_N_isRow) rfl rfl (by decide) rfl rfl (Nat.le_of_ble_eq_true rfl) ⟨Nat.zero_le _, Nat.zero_le _⟩ dN_sum_9 (z_ki (fun r9_3 w1 tys1 hp => ?_))
    obtain ⟨rfl, rfl, p9_3⟩ := hp
    refine z_if_ne (pc := 12) hZ 17 dN_sum_12 (by decide) (fun c12_4 => ?_) (fun c12_4 => ?_)
    · refine z_aload_n (pc := 17) hZ 0 dN_sum_17 rfl rfl ?_
      refine z_get (pc := 18) (ci := 1) hZ 0 rfl rfl uc_N 1 (by decide) (zb fl_N_16) rfl dN_sum_18 ?_
      refine z_lconst (pc := 21) hZ 0 dN_sum_21 (by decide) ?_
      obtain ⟨q22_5, hq22_5⟩ := zp_at (X := CX h0 ra v1 v2 v3 cR g Y) (f := f) hH.1
      refine z_callVN (pc := 22) (As := [.long 0]) (rest := []) hZ (cV_setWhole l D (TY cR c1 c2 c3) (CX h0 ra v1 v2 v3 cR g Y) LP f v1 hH.1 0) zyV_setWhole (z_good co_V_setWhole) nl_N_30 (zb in_V) (zb im_V_setWhole) (zb se_V_setWhole) q22_5 hq22_5 rfl rfl rfl (by decide) rfl rfl (Nat.le_of_ble_eq_true rfl) ⟨Nat.zero_le _, Nat.zero_le _⟩ dN_sum_22 (z_kv (fun w1 tys1 hp => ?_))
      obtain ⟨f22_5, rfl, rfl, p22_5⟩ := hp
      refine z_iconst (pc := 25) hZ 0 dN_sum_25 (by decide) ?_
      refine z_istore (pc := 26) hZ [(4, .int 0), (0, .ref h0), (1, .int p1), (2, .int p2), (3, .int p3)] dN_sum_26 (by decide) rfl ?_
      have L28 : ∀ (N28 : Nat) (x4_28 : Int32) (f_28 : Nat → V3), ((p3).toInt - x4_28.toInt).toNat < N28 → (0 ≤ x4_28.toInt) → (x4_28.toInt ≤ p3.toInt) → (SMI f f_28 v1 v2 v3 g p2 x4_28) → Z 0 0 (TY cR c1 c2 c3) 28 [(4, .int x4_28), (0, .ref h0), (1, .int p1), (2, .int p2), (3, .int p3)] [] (CX h0 ra v1 v2 v3 cR g Y ++ PL LP f_28) := by
        intro N28
        induction N28 with
        | zero => intro x4_28 f_28 m28; exact absurd m28 (Nat.not_lt_zero _)
        | succ N28 ih28 =>
          intro x4_28 f_28 m28 i28 k28 s28
          refine z_iload (pc := 28) hZ 0 dN_sum_28 rfl ?_
          refine z_iload_n (pc := 30) hZ 4 dN_sum_30 rfl rfl ?_
          refine z_icmp_ge (pc := 31) hZ 62 dN_sum_31 (by decide) (fun c31_6 => ?_) (fun c31_6 => ?_)
          · refine z_aload_n (pc := 62) hZ 1 dN_sum_62 rfl rfl ?_
            refine z_get (pc := 63) (ci := 1) hZ 0 rfl rfl uc_N 0 (by decide) (zb fl_N_11) rfl dN_sum_63 ?_
            refine z_iload_n (pc := 66) hZ 2 dN_sum_66 rfl rfl ?_
            obtain ⟨y67_6, hy67_6, gy67_6⟩ := zH_at hH (i := p1) (by first | assumption | exact reg_of (by assumption) (by assumption))
            refine z_aald (pc := 67) hZ 1 0 rfl rfl (by first | assumption | exact reg_of (by assumption) (by assumption)) gy67_6 dN_sum_67 ?_
            refine z_aload_n (pc := 68) hZ 1 dN_sum_68 rfl rfl ?_
            refine z_get (pc := 69) (ci := 1) hZ 0 rfl rfl uc_N 1 (by decide) (zb fl_N_16) rfl dN_sum_69 ?_
            obtain ⟨q72_8, hq72_8⟩ := zp_at (X := CX h0 ra v1 v2 v3 cR g Y) (f := f_28) hy67_6
            refine z_callVN (pc := 72) (As := [.ref v1]) (rest := []) hZ (cV_become l D (TY cR c1 c2 c3) (CX h0 ra v1 v2 v3 cR g Y) LP f_28 y67_6 hy67_6 v1 hH.1) zyV_become (z_good co_V_become) nl_N_46 (zb in_V) (zb im_V_become) (zb se_V_become) q72_8 hq72_8 rfl rfl rfl (by decide) rfl rfl (Nat.le_of_ble_eq_true rfl) ⟨Nat.zero_le _, Nat.zero_le _⟩ dN_sum_72 (z_kv (fun w1 tys1 hp => ?_))
            obtain ⟨f72_8, rfl, rfl, p72_8⟩ := hp
            refine z_iconst (pc := 75) hZ 1 dN_sum_75 (by decide) ?_
            exact z_reti (pc := 76) hZ dN_sum_76 .boolean rfl rfl ⟨_, rfl, _, rfl, rfl, (by exact ⟨by first | exact ⟨fun _ => rfl, fun q => absurd (⟨reg_of (by assumption) (by assumption), row_of (by assumption) (by assumption)⟩) q⟩ | exact ⟨fun q => absurd q.1 (reg_no (by assumption) (by assumption)), fun _ => rfl⟩ | exact ⟨fun q => absurd q.2 (row_no (by assumption) (by assumption)), fun _ => rfl⟩, by first | exact stp_n fun q => absurd q.1 (reg_no p1_1 c4_2) | exact stp_n fun q => absurd q.2 (row_no p9_3 c12_4) | exact stp_y ⟨(reg_of p1_1 c4_2), (row_of p9_3 c12_4)⟩ (smi_e s28 (reg_of p1_1 c4_2) (clamp_e k28 c31_6) gy67_6 p72_8)⟩)⟩
          · refine z_aload_n (pc := 34) hZ 1 dN_sum_34 rfl rfl ?_
            refine z_get (pc := 35) (ci := 1) hZ 0 rfl rfl uc_N 2 (by decide) (zb fl_N_20) rfl dN_sum_35 ?_
            refine z_aload_n (pc := 38) hZ 1 dN_sum_38 rfl rfl ?_
            refine z_get (pc := 39) (ci := 1) hZ 0 rfl rfl uc_N 0 (by decide) (zb fl_N_11) rfl dN_sum_39 ?_
            refine z_iload_n (pc := 42) hZ 3 dN_sum_42 rfl rfl ?_
            refine z_iload (pc := 43) hZ 0 dN_sum_43 rfl ?_
            refine z_iadd (pc := 45) hZ dN_sum_45 (fun v45_9 ev45_9 => ?_)
            obtain ⟨y46_9, hy46_9, gy46_9⟩ := zH_at hH (i := v45_9) (by exact sum_idx (a := p2) (n := p3) (i := x4_28) (row_of (by assumption) (by assumption)) (by assumption) (by assumption) (by assumption))
            refine z_aald (pc := 46) hZ 1 0 rfl rfl (by exact sum_idx (a := p2) (n := p3) (i := x4_28) (row_of (by assumption) (by assumption)) (by assumption) (by assumption) (by assumption)) gy46_9 dN_sum_46 ?_
            obtain ⟨q47_11, hq47_11⟩ := zp_at (X := CX h0 ra v1 v2 v3 cR g Y) (f := f_28) hH.2.1
            refine z_callVN (pc := 47) (As := [.ref y46_9]) (rest := []) hZ (cV_become l D (TY cR c1 c2 c3) (CX h0 ra v1 v2 v3 cR g Y) LP f_28 v2 hH.2.1 y46_9 hy46_9) zyV_become (z_good co_V_become) nl_N_46 (zb in_V) (zb im_V_become) (zb se_V_become) q47_11 hq47_11 rfl rfl rfl (by decide) rfl rfl (Nat.le_of_ble_eq_true rfl) ⟨Nat.zero_le _, Nat.zero_le _⟩ dN_sum_47 (z_kv (fun w1 tys1 hp => ?_))
            obtain ⟨f47_11, rfl, rfl, p47_11⟩ := hp
            refine z_aload_n (pc := 50) hZ 1 dN_sum_50 rfl rfl ?_
            refine z_iconst (pc := 51) hZ 0 dN_sum_51 (by decide) ?_
            refine z_callV (pc := 52) (As := [.int 0]) (rest := []) hZ (cN_addOrMultiply l D cR c1 c2 c3 h0 ra v1 v2 v3 Y LP f47_11 g hH 0) zyN_addOrMultiply (z_goodV ml_N_54 im_N_addOrMultiply se_N_addOrMultiply in_N co_N_addOrMultiply) 0 rfl rfl rfl rfl (by decide) rfl rfl (Nat.le_of_ble_eq_true rfl) ⟨Nat.zero_le _, Nat.zero_le _⟩ dN_sum_52 (z_ki (fun r52_12 w1 tys1 hp => ?_))
            obtain ⟨f52_12, rfl, rfl, p52_12⟩ := hp
            refine z_pop (pc := 55) hZ dN_sum_55 rfl ?_
            refine z_iinc (pc := 56) hZ 0 (fun v9 => [(4, .int v9), (0, .ref h0), (1, .int p1), (2, .int p2), (3, .int p3)]) dN_sum_56 rfl (by decide) (fun _ => rfl) (fun v56_13 ev56_13 => ?_)
            refine z_goto (pc := 59) hZ 28 dN_sum_59 (by decide) ?_
            exact z_sub (pc := 28) hZ [0, 1, 2, 3, 4] rfl (ih28 v56_13 f52_12 (by exact Nat.lt_of_lt_of_le (dec_up (x := x4_28) (b := p3) (by assumption) (by assumption)) (Nat.le_of_lt_succ m28)) (by exact inc_nn (n := p3) (i := x4_28) (by assumption) (by assumption) (by assumption)) (by exact inc_le (n := p3) (i := x4_28) i28 c31_6 ev56_13) (by exact smi_s s28 (row_of p9_3 c12_4) i28 c31_6 ev45_9 gy46_9 p47_11 p52_12 ev56_13))
      exact z_sub (pc := 28) hZ [0, 1, 2, 3, 4] rfl (L28 _ 0 f22_5 (Nat.lt_succ_self _) (by decide) (by exact row_n (row_of p9_3 c12_4)) (by exact smi_0 p22_5))
    · refine z_iconst (pc := 15) hZ 0 dN_sum_15 (by decide) ?_
      exact z_reti (pc := 16) hZ dN_sum_16 .boolean rfl rfl ⟨_, rfl, _, rfl, rfl, (by exact ⟨by first | exact ⟨fun _ => rfl, fun q => absurd (⟨reg_of (by assumption) (by assumption), row_of (by assumption) (by assumption)⟩) q⟩ | exact ⟨fun q => absurd q.1 (reg_no (by assumption) (by assumption)), fun _ => rfl⟩ | exact ⟨fun q => absurd q.2 (row_no (by assumption) (by assumption)), fun _ => rfl⟩, by first | exact stp_n fun q => absurd q.1 (reg_no p1_1 c4_2) | exact stp_n fun q => absurd q.2 (row_no p9_3 c12_4) | exact stp_y ⟨(reg_of p1_1 c4_2), (row_of p9_3 c12_4)⟩ (smi_e s28 (reg_of p1_1 c4_2) (clamp_e k28 nokey_) gnokey_ nokey_)⟩)⟩
set_option maxHeartbeats 4000000 in
set_option maxRecDepth 100000 in
theorem cN_polynomial (l : Launch) (D : va_G) (cR c1 c2 c3 : ClassId) (h0 ra v1 v2 v3 : Nat) (Y : va_W) (LP : List Nat) (f : Nat → V3) (g : Nat → Option Nat) (hH : zH LP v1 v2 v3 g) (p1 : Int32) (p2 : Int32) (p3 : Int32) (p4 : Int32) : zM l D vwCl zNF zNM yN_polynomial wsN_polynomial { frames := 6, cells := 0, slots := 0, locals := 162 } [.ref h0, .int p1, .int p2, .int p3, .int p4] (CX h0 ra v1 v2 v3 cR g Y ++ PL LP f) (TY cR c1 c2 c3) (qI (fun r w' tys' => ∃ f' : Nat → V3, CX h0 ra v1 v2 v3 cR g Y ++ PL LP f' = w' ∧ (TY cR c1 c2 c3) = tys' ∧ ((((vp_in p1 32 ∧ vp_in p2 32 ∧ rowOK p3 p4) → r = 1) ∧ (¬ (vp_in p1 32 ∧ vp_in p2 32 ∧ rowOK p3 p4) → r = 0)) ∧ (STP f f' v1 v2 v3 g g (vp_in p1 32 ∧ vp_in p2 32 ∧ rowOK p3 p4) (polT p1 p2 p3 p4))))) := by
  refine z_met (cc := bN_polynomial) (maxL := 6) (ret := (some .boolean)) (isI := false) (own := RN) (by decide +kernel) rfl rfl (fun h => by cases h) (Nat.le_of_ble_eq_true rfl) (fun Z hZ => ?_)
  show Z 0 0 (TY cR c1 c2 c3) 0 [(0, .ref h0), (1, .int p1), (2, .int p2), (3, .int p3), (4, .int p4)] [] (CX h0 ra v1 v2 v3 cR g Y ++ PL LP f)
  refine z_iload_n (pc := 0) hZ 1 dN_polynomial_0 rfl rfl ?_
  refine z_callS (pc := 1) (As := [.int p1]) (rest := []) hZ (cN_isRegister l D (TY cR c1 c2 c3) (CX h0 ra v1 v2 v3 cR g Y ++ PL LP f) p1) zyN_isRegister (z_goodS ml_N_26 st_N_isRegister in_N co_N_isRegister) rfl rfl (by decide) rfl rfl (Nat.le_of_ble_eq_true rfl) ⟨Nat.zero_le _, Nat.zero_le _⟩ dN_polynomial_1 (z_ki (fun r1_1 w1 tys1 hp => ?_))
  obtain ⟨rfl, rfl, p1_1⟩ := hp
  refine z_if_eq (pc := 4) hZ 23 dN_polynomial_4 (by decide) (fun c4_2 => ?_) (fun c4_2 => ?_)
  · refine z_iconst (pc := 23) hZ 0 dN_polynomial_23 (by decide) ?_
    exact z_reti (pc := 24) hZ dN_polynomial_24 .boolean rfl rfl ⟨_, rfl, _, rfl, rfl, (by exact ⟨by first | exact ⟨fun _ => rfl, fun q => absurd (⟨reg_of (by assumption) (by assumption), reg_of (by assumption) (by assumption), row_of (by assumption) (by assumption)⟩) q⟩ | exact ⟨fun q => absurd q.1 (reg_no (by assumption) (by assumption)), fun _ => rfl⟩ | exact ⟨fun q => absurd q.2.1 (reg_no (by assumption) (by assumption)), fun _ => rfl⟩ | exact ⟨fun q => absurd q.2.2 (row_no (by assumption) (by assumption)), fun _ => rfl⟩, by first | exact stp_n fun q => absurd q.1 (reg_no p1_1 c4_2) | exact stp_n fun q => absurd q.2.1 (reg_no nokey_ nokey_) | exact stp_n fun q => absurd q.2.2 (row_no nokey_ nokey_) | exact stp_y ⟨(reg_of p1_1 c4_2), reg_of nokey_ nokey_, (row_of nokey_ nokey_)⟩ (pli_e q39 (row_of nokey_ nokey_) k39 nokey_ (reg_of p1_1 c4_2) gnokey_ nokey_)⟩)⟩
  · refine z_iload_n (pc := 7) hZ 2 dN_polynomial_7 rfl rfl ?_
    refine z_callS (pc := 8) (As := [.int p2]) (rest := []) hZ (cN_isRegister l D (TY cR c1 c2 c3) (CX h0 ra v1 v2 v3 cR g Y ++ PL LP f) p2) zyN_isRegister (z_goodS ml_N_26 st_N_isRegister in_N co_N_isRegister) rfl rfl (by decide) rfl rfl (Nat.le_of_ble_eq_true rfl) ⟨Nat.zero_le _, Nat.zero_le _⟩ dN_polynomial_8 (z_ki (fun r8_3 w1 tys1 hp => ?_))
    obtain ⟨rfl, rfl, p8_3⟩ := hp
    refine z_if_eq (pc := 11) hZ 23 dN_polynomial_11 (by decide) (fun c11_4 => ?_) (fun c11_4 => ?_)
    · refine z_iconst (pc := 23) hZ 0 dN_polynomial_23 (by decide) ?_
      exact z_reti (pc := 24) hZ dN_polynomial_24 .boolean rfl rfl ⟨_, rfl, _, rfl, rfl, (by exact ⟨by first | exact ⟨fun _ => rfl, fun q => absurd (⟨reg_of (by assumption) (by assumption), reg_of (by assumption) (by assumption), row_of (by assumption) (by assumption)⟩) q⟩ | exact ⟨fun q => absurd q.1 (reg_no (by assumption) (by assumption)), fun _ => rfl⟩ | exact ⟨fun q => absurd q.2.1 (reg_no (by assumption) (by assumption)), fun _ => rfl⟩ | exact ⟨fun q => absurd q.2.2 (row_no (by assumption) (by assumption)), fun _ => rfl⟩, by first | exact stp_n fun q => absurd q.1 (reg_no p1_1 c4_2) | exact stp_n fun q => absurd q.2.1 (reg_no p8_3 c11_4) | exact stp_n fun q => absurd q.2.2 (row_no nokey_ nokey_) | exact stp_y ⟨(reg_of p1_1 c4_2), reg_of p8_3 c11_4, (row_of nokey_ nokey_)⟩ (pli_e q39 (row_of nokey_ nokey_) k39 nokey_ (reg_of p1_1 c4_2) gnokey_ nokey_)⟩)⟩
    · refine z_iload_n (pc := 14) hZ 3 dN_polynomial_14 rfl rfl ?_
      refine z_iload (pc := 15) hZ 4 dN_polynomial_15 rfl ?_
      refine z_callS (pc := 17) (As := [.int p3, .int p4]) (rest := []) hZ (cN_isRow l D (TY cR c1 c2 c3) (CX h0 ra v1 v2 v3 cR g Y ++ PL LP f) p3 p4) zyN_isRow (z_goodS ml_N_80 st_N_isRow in_N co_N_isRow) rfl rfl (by decide) rfl rfl (Nat.le_of_ble_eq_true rfl) ⟨Nat.zero_le _, Nat.zero_le _⟩ dN_polynomial_17 (z_ki (fun r17_5 w1 tys1 hp => ?_))
      obtain ⟨rfl, rfl, p17_5⟩ := hp
      refine z_if_ne (pc := 20) hZ 25 dN_polynomial_20 (by decide) (fun c20_6 => ?_) (fun c20_6 => ?_)
      · refine z_aload_n (pc := 25) hZ 0 dN_polynomial_25 rfl rfl ?_
        refine z_get (pc := 26) (ci := 1) hZ 0 rfl rfl uc_N 1 (by decide) (zb fl_N_16) rfl dN_polynomial_26 ?_
        refine z_lconst (pc := 29) hZ 0 dN_polynomial_29 (by decide) ?_
        obtain ⟨q30_7, hq30_7⟩ := zp_at (X := CX h0 ra v1 v2 v3 cR g Y) (f := f) hH.1
        refine z_callVN (pc := 30) (As := [.long 0]) (rest := []) hZ (cV_setWhole l D (TY cR c1 c2 c3) (CX h0 ra v1 v2 v3 cR g Y) LP f v1 hH.1 0) zyV_setWhole (z_good co_V_setWhole) nl_N_30 (zb in_V) (zb im_V_setWhole) (zb se_V_setWhole) q30_7 hq30_7 rfl rfl rfl (by decide) rfl rfl (Nat.le_of_ble_eq_true rfl) ⟨Nat.zero_le _, Nat.zero_le _⟩ dN_polynomial_30 (z_kv (fun w1 tys1 hp => ?_))
        obtain ⟨f30_7, rfl, rfl, p30_7⟩ := hp
        refine z_iload (pc := 33) hZ 4 dN_polynomial_33 rfl ?_
        refine z_iconst (pc := 35) hZ 1 dN_polynomial_35 (by decide) ?_
        refine z_isub (pc := 36) hZ dN_polynomial_36 (fun v36_8 ev36_8 => ?_)
        refine z_istore (pc := 37) hZ [(5, .int v36_8), (0, .ref h0), (1, .int p1), (2, .int p2), (3, .int p3), (4, .int p4)] dN_polynomial_37 (by decide) rfl ?_
        have L39 : ∀ (N39 : Nat) (x5_39 : Int32) (f_39 : Nat → V3), (x5_39.toInt + 1).toNat < N39 → (x5_39.toInt < p4.toInt) → (-1 ≤ x5_39.toInt) → (PLI f f_39 v1 v2 v3 g p2 p3 p4 x5_39) → Z 0 0 (TY cR c1 c2 c3) 39 [(5, .int x5_39), (0, .ref h0), (1, .int p1), (2, .int p2), (3, .int p3)] [] (CX h0 ra v1 v2 v3 cR g Y ++ PL LP f_39) := by
          intro N39
          induction N39 with
          | zero => intro x5_39 f_39 m39; exact absurd m39 (Nat.not_lt_zero _)
          | succ N39 ih39 =>
            intro x5_39 f_39 m39 i39 k39 q39
            refine z_iload (pc := 39) hZ 0 dN_polynomial_39 rfl ?_
            refine z_if_lt (pc := 41) hZ 91 dN_polynomial_41 (by decide) (fun c41_9 => ?_) (fun c41_9 => ?_)
            · refine z_aload_n (pc := 91) hZ 1 dN_polynomial_91 rfl rfl ?_
              refine z_get (pc := 92) (ci := 1) hZ 0 rfl rfl uc_N 0 (by decide) (zb fl_N_11) rfl dN_polynomial_92 ?_
              refine z_iload_n (pc := 95) hZ 2 dN_polynomial_95 rfl rfl ?_
              obtain ⟨y96_9, hy96_9, gy96_9⟩ := zH_at hH (i := p1) (by first | assumption | exact reg_of (by assumption) (by assumption))
              refine z_aald (pc := 96) hZ 1 0 rfl rfl (by first | assumption | exact reg_of (by assumption) (by assumption)) gy96_9 dN_polynomial_96 ?_
              refine z_aload_n (pc := 97) hZ 1 dN_polynomial_97 rfl rfl ?_
              refine z_get (pc := 98) (ci := 1) hZ 0 rfl rfl uc_N 1 (by decide) (zb fl_N_16) rfl dN_polynomial_98 ?_
              obtain ⟨q101_11, hq101_11⟩ := zp_at (X := CX h0 ra v1 v2 v3 cR g Y) (f := f_39) hy96_9
              refine z_callVN (pc := 101) (As := [.ref v1]) (rest := []) hZ (cV_become l D (TY cR c1 c2 c3) (CX h0 ra v1 v2 v3 cR g Y) LP f_39 y96_9 hy96_9 v1 hH.1) zyV_become (z_good co_V_become) nl_N_46 (zb in_V) (zb im_V_become) (zb se_V_become) q101_11 hq101_11 rfl rfl rfl (by decide) rfl rfl (Nat.le_of_ble_eq_true rfl) ⟨Nat.zero_le _, Nat.zero_le _⟩ dN_polynomial_101 (z_kv (fun w1 tys1 hp => ?_))
              obtain ⟨f101_11, rfl, rfl, p101_11⟩ := hp
              refine z_iconst (pc := 104) hZ 1 dN_polynomial_104 (by decide) ?_
              exact z_reti (pc := 105) hZ dN_polynomial_105 .boolean rfl rfl ⟨_, rfl, _, rfl, rfl, (by exact ⟨by first | exact ⟨fun _ => rfl, fun q => absurd (⟨reg_of (by assumption) (by assumption), reg_of (by assumption) (by assumption), row_of (by assumption) (by assumption)⟩) q⟩ | exact ⟨fun q => absurd q.1 (reg_no (by assumption) (by assumption)), fun _ => rfl⟩ | exact ⟨fun q => absurd q.2.1 (reg_no (by assumption) (by assumption)), fun _ => rfl⟩ | exact ⟨fun q => absurd q.2.2 (row_no (by assumption) (by assumption)), fun _ => rfl⟩, by first | exact stp_n fun q => absurd q.1 (reg_no p1_1 c4_2) | exact stp_n fun q => absurd q.2.1 (reg_no p8_3 c11_4) | exact stp_n fun q => absurd q.2.2 (row_no p17_5 c20_6) | exact stp_y ⟨(reg_of p1_1 c4_2), reg_of p8_3 c11_4, (row_of p17_5 c20_6)⟩ (pli_e q39 (row_of p17_5 c20_6) k39 c41_9 (reg_of p1_1 c4_2) gy96_9 p101_11)⟩)⟩
            · refine z_aload_n (pc := 44) hZ 1 dN_polynomial_44 rfl rfl ?_
              refine z_get (pc := 45) (ci := 1) hZ 0 rfl rfl uc_N 2 (by decide) (zb fl_N_20) rfl dN_polynomial_45 ?_
              refine z_aload_n (pc := 48) hZ 1 dN_polynomial_48 rfl rfl ?_
              refine z_get (pc := 49) (ci := 1) hZ 0 rfl rfl uc_N 0 (by decide) (zb fl_N_11) rfl dN_polynomial_49 ?_
              refine z_iload_n (pc := 52) hZ 3 dN_polynomial_52 rfl rfl ?_
              obtain ⟨y53_11, hy53_11, gy53_11⟩ := zH_at hH (i := p2) (by first | assumption | exact reg_of (by assumption) (by assumption))
              refine z_aald (pc := 53) hZ 1 0 rfl rfl (by first | assumption | exact reg_of (by assumption) (by assumption)) gy53_11 dN_polynomial_53 ?_
              obtain ⟨q54_13, hq54_13⟩ := zp_at (X := CX h0 ra v1 v2 v3 cR g Y) (f := f_39) hH.2.1
              refine z_callVN (pc := 54) (As := [.ref y53_11]) (rest := []) hZ (cV_become l D (TY cR c1 c2 c3) (CX h0 ra v1 v2 v3 cR g Y) LP f_39 v2 hH.2.1 y53_11 hy53_11) zyV_become (z_good co_V_become) nl_N_46 (zb in_V) (zb im_V_become) (zb se_V_become) q54_13 hq54_13 rfl rfl rfl (by decide) rfl rfl (Nat.le_of_ble_eq_true rfl) ⟨Nat.zero_le _, Nat.zero_le _⟩ dN_polynomial_54 (z_kv (fun w1 tys1 hp => ?_))
              obtain ⟨f54_13, rfl, rfl, p54_13⟩ := hp
              refine z_aload_n (pc := 57) hZ 1 dN_polynomial_57 rfl rfl ?_
              refine z_iconst (pc := 58) hZ 2 dN_polynomial_58 (by decide) ?_
              refine z_callV (pc := 59) (As := [.int 2]) (rest := []) hZ (cN_addOrMultiply l D cR c1 c2 c3 h0 ra v1 v2 v3 Y LP f54_13 g hH 2) zyN_addOrMultiply (z_goodV ml_N_54 im_N_addOrMultiply se_N_addOrMultiply in_N co_N_addOrMultiply) 0 rfl rfl rfl rfl (by decide) rfl rfl (Nat.le_of_ble_eq_true rfl) ⟨Nat.zero_le _, Nat.zero_le _⟩ dN_polynomial_59 (z_ki (fun r59_14 w1 tys1 hp => ?_))
              obtain ⟨f59_14, rfl, rfl, p59_14⟩ := hp
              refine z_pop (pc := 62) hZ dN_polynomial_62 rfl ?_
              refine z_aload_n (pc := 63) hZ 1 dN_polynomial_63 rfl rfl ?_
              refine z_get (pc := 64) (ci := 1) hZ 0 rfl rfl uc_N 2 (by decide) (zb fl_N_20) rfl dN_polynomial_64 ?_
              refine z_aload_n (pc := 67) hZ 1 dN_polynomial_67 rfl rfl ?_
              refine z_get (pc := 68) (ci := 1) hZ 0 rfl rfl uc_N 0 (by decide) (zb fl_N_11) rfl dN_polynomial_68 ?_
              refine z_iload_n (pc := 71) hZ 4 dN_polynomial_71 rfl rfl ?_
              refine z_iload (pc := 72) hZ 0 dN_polynomial_72 rfl ?_
              refine z_iadd (pc := 74) hZ dN_polynomial_74 (fun v74_15 ev74_15 => ?_)
              obtain ⟨y75_15, hy75_15, gy75_15⟩ := zH_at hH (i := v74_15) (by exact pol_idx (a := p3) (n := p4) (i := x5_39) (row_of (by assumption) (by assumption)) (by assumption) (by assumption) (by assumption))
              refine z_aald (pc := 75) hZ 1 0 rfl rfl (by exact pol_idx (a := p3) (n := p4) (i := x5_39) (row_of (by assumption) (by assumption)) (by assumption) (by assumption) (by assumption)) gy75_15 dN_polynomial_75 ?_
              obtain ⟨q76_17, hq76_17⟩ := zp_at (X := CX h0 ra v1 v2 v3 cR g Y) (f := f59_14) hH.2.1
              refine z_callVN (pc := 76) (As := [.ref y75_15]) (rest := []) hZ (cV_become l D (TY cR c1 c2 c3) (CX h0 ra v1 v2 v3 cR g Y) LP f59_14 v2 hH.2.1 y75_15 hy75_15) zyV_become (z_good co_V_become) nl_N_46 (zb in_V) (zb im_V_become) (zb se_V_become) q76_17 hq76_17 rfl rfl rfl (by decide) rfl rfl (Nat.le_of_ble_eq_true rfl) ⟨Nat.zero_le _, Nat.zero_le _⟩ dN_polynomial_76 (z_kv (fun w1 tys1 hp => ?_))
              obtain ⟨f76_17, rfl, rfl, p76_17⟩ := hp
              refine z_aload_n (pc := 79) hZ 1 dN_polynomial_79 rfl rfl ?_
              refine z_iconst (pc := 80) hZ 0 dN_polynomial_80 (by decide) ?_
              refine z_callV (pc := 81) (As := [.int 0]) (rest := []) hZ (cN_addOrMultiply l D cR c1 c2 c3 h0 ra v1 v2 v3 Y LP f76_17 g hH 0) zyN_addOrMultiply (z_goodV ml_N_54 im_N_addOrMultiply se_N_addOrMultiply in_N co_N_addOrMultiply) 0 rfl rfl rfl rfl (by decide) rfl rfl (Nat.le_of_ble_eq_true rfl) ⟨Nat.zero_le _, Nat.zero_le _⟩ dN_polynomial_81 (z_ki (fun r81_18 w1 tys1 hp => ?_))
              obtain ⟨f81_18, rfl, rfl, p81_18⟩ := hp
              refine z_pop (pc := 84) hZ dN_polynomial_84 rfl ?_
              refine z_iinc (pc := 85) hZ 0 (fun v9 => [(5, .int v9), (0, .ref h0), (1, .int p1), (2, .int p2), (3, .int p3)]) dN_polynomial_85 rfl (by decide) (fun _ => rfl) (fun v85_19 ev85_19 => ?_)
              refine z_goto (pc := 88) hZ 39 dN_polynomial_88 (by decide) ?_
              exact z_sub (pc := 39) hZ [0, 1, 2, 3, 4] rfl (ih39 v85_19 f81_18 (by exact Nat.lt_of_lt_of_le (pol_m (i := x5_39) (by assumption) (by assumption)) (Nat.le_of_lt_succ m39)) (by exact pol_n (i := x5_39) (by assumption) (by assumption) (by assumption)) (by exact dec_m1 (i := x5_39) c41_9 ev85_19) (by exact pli_s q39 (row_of p17_5 c20_6) (reg_of p8_3 c11_4) i39 c41_9 gy53_11 p54_13 p59_14 ev74_15 gy75_15 p76_17 p81_18 ev85_19))
        exact z_sub (pc := 39) hZ [0, 1, 2, 3, 4] rfl (L39 _ v36_8 f30_7 (Nat.lt_succ_self _) (by exact pol_0 (a := p3) (row_of (by assumption) (by assumption)) (by assumption)) (by exact pol_m1 (row_of p17_5 c20_6) ev36_8) (by exact pli_0 (row_of p17_5 c20_6) p30_7 ev36_8))
      · refine z_iconst (pc := 23) hZ 0 dN_polynomial_23 (by decide) ?_
        exact z_reti (pc := 24) hZ dN_polynomial_24 .boolean rfl rfl ⟨_, rfl, _, rfl, rfl, (by exact ⟨by first | exact ⟨fun _ => rfl, fun q => absurd (⟨reg_of (by assumption) (by assumption), reg_of (by assumption) (by assumption), row_of (by assumption) (by assumption)⟩) q⟩ | exact ⟨fun q => absurd q.1 (reg_no (by assumption) (by assumption)), fun _ => rfl⟩ | exact ⟨fun q => absurd q.2.1 (reg_no (by assumption) (by assumption)), fun _ => rfl⟩ | exact ⟨fun q => absurd q.2.2 (row_no (by assumption) (by assumption)), fun _ => rfl⟩, by first | exact stp_n fun q => absurd q.1 (reg_no p1_1 c4_2) | exact stp_n fun q => absurd q.2.1 (reg_no p8_3 c11_4) | exact stp_n fun q => absurd q.2.2 (row_no p17_5 c20_6) | exact stp_y ⟨(reg_of p1_1 c4_2), reg_of p8_3 c11_4, (row_of p17_5 c20_6)⟩ (pli_e q39 (row_of p17_5 c20_6) k39 nokey_ (reg_of p1_1 c4_2) gnokey_ nokey_)⟩)⟩
set_option maxHeartbeats 4000000 in
set_option maxRecDepth 100000 in
theorem cN_insert (l : Launch) (D : va_G) (cR c1 c2 c3 : ClassId) (h0 ra v1 v2 v3 : Nat) (Y : va_W) (LP : List Nat) (f : Nat → V3) (g : Nat → Option Nat) (hH : zH LP v1 v2 v3 g) (p1 : Int32) (p2 : Int32) (hs1 : 0 ≤ p1.toInt) (hs2 : p1.toInt ≤ p2.toInt) (hs3 : p2.toInt < 32) : zM l D vwCl zNF zNM yN_insert wsN_insert { frames := 6, cells := 0, slots := 0, locals := 131 } [.ref h0, .int p1, .int p2] (CX h0 ra v1 v2 v3 cR g Y ++ PL LP f) (TY cR c1 c2 c3) (qV (fun w' tys' => ∃ g' : Nat → Option Nat, CX h0 ra v1 v2 v3 cR g' Y ++ PL LP f = w' ∧ (TY cR c1 c2 c3) = tys' ∧ zH LP v1 v2 v3 g' ∧ (zJ v1 v2 v3 g → zJ v1 v2 v3 g' ∧ ∀ s, RA f g s → RA f g' (insN s p1.toNatClampNeg p2.toNatClampNeg)))) := by
  refine z_met (cc := bN_insert) (maxL := 5) (ret := none) (isI := false) (own := RN) (by decide +kernel) rfl rfl (fun h => by cases h) (Nat.le_of_ble_eq_true rfl) (fun Z hZ => ?_)
  show Z 0 0 (TY cR c1 c2 c3) 0 [(0, .ref h0), (1, .int p1), (2, .int p2)] [] (CX h0 ra v1 v2 v3 cR g Y ++ PL LP f)
  refine z_aload_n (pc := 0) hZ 0 dN_insert_0 rfl rfl ?_
  refine z_get (pc := 1) (ci := 1) hZ 0 rfl rfl uc_N 0 (by decide) (zb fl_N_11) rfl dN_insert_1 ?_
  refine z_iload_n (pc := 4) hZ 2 dN_insert_4 rfl rfl ?_
  obtain ⟨y5_0, hy5_0, gy5_0⟩ := zH_at hH (i := p2) (by exact vp_of (Int.le_trans hs1 hs2) hs3)
  refine z_aald (pc := 5) hZ 1 0 rfl rfl (by exact vp_of (Int.le_trans hs1 hs2) hs3) gy5_0 dN_insert_5 ?_
  refine z_astore_n (pc := 6) hZ [(3, .ref y5_0), (0, .ref h0), (1, .int p1), (2, .int p2)] dN_insert_6 rfl (by decide) rfl ?_
  refine z_iload_n (pc := 7) hZ 3 dN_insert_7 rfl rfl ?_
  refine z_istore (pc := 8) hZ [(4, .int p2), (3, .ref y5_0), (0, .ref h0), (1, .int p1), (2, .int p2)] dN_insert_8 (by decide) rfl ?_
  have L10 : ∀ (N10 : Nat) (x4_10 : Int32) (g_10 : Nat → Option Nat), (x4_10.toInt - p1.toInt).toNat < N10 → (zH LP v1 v2 v3 g_10) → (p1.toInt ≤ x4_10.toInt) → (x4_10.toInt ≤ p2.toInt) → (INI f v1 v2 v3 g g_10 y5_0 p1 p2 x4_10) → Z 0 0 (TY cR c1 c2 c3) 10 [(4, .int x4_10), (3, .ref y5_0), (0, .ref h0), (1, .int p1)] [] (CX h0 ra v1 v2 v3 cR g_10 Y ++ PL LP f) := by
    intro N10
    induction N10 with
    | zero => intro x4_10 g_10 m10; exact absurd m10 (Nat.not_lt_zero _)
    | succ N10 ih10 =>
      intro x4_10 g_10 m10 hH_10 i10 j10 q10
      refine z_iload (pc := 10) hZ 0 dN_insert_10 rfl ?_
      refine z_iload_n (pc := 12) hZ 3 dN_insert_12 rfl rfl ?_
      refine z_icmp_le (pc := 13) hZ 54 dN_insert_13 (by decide) (fun c13_2 => ?_) (fun c13_2 => ?_)
      · refine z_aload_n (pc := 54) hZ 2 dN_insert_54 rfl rfl ?_
        refine z_get (pc := 55) (ci := 1) hZ 0 rfl rfl uc_N 0 (by decide) (zb fl_N_11) rfl dN_insert_55 ?_
        refine z_iload (pc := 58) hZ 0 dN_insert_58 rfl ?_
        refine z_aload_n (pc := 60) hZ 1 dN_insert_60 rfl rfl ?_
        obtain ⟨q61_2, hq61_2⟩ := zp_at (X := CX h0 ra v1 v2 v3 cR g_10 Y) (f := f) hy5_0
        refine z_aast (pc := 61) hZ 1 0 q61_2 rfl rfl hq61_2 rfl (by exact vp_of (Int.le_trans hs1 i10) (Int.lt_of_le_of_lt j10 hs3)) dN_insert_61 (fun g61_2 eg61_2 => ?_)
        have hg61_2 : zH LP v1 v2 v3 g61_2 := zH_up hH_10 hy5_0 eg61_2
        show Z 0 0 (TY cR c1 c2 c3) (61 + 1) [(4, .int x4_10), (3, .ref y5_0), (0, .ref h0), (1, .int p1)] [] (CX h0 ra v1 v2 v3 cR g61_2 Y ++ PL LP f)
        exact z_retv (pc := 62) hZ dN_insert_62 rfl ⟨rfl, _, rfl, rfl, hg61_2, (by first | exact ini_e q10 hs1 hs3 j10 (Or.inl c13_2) i10 eg61_2 | exact ini_e q10 hs1 hs3 j10 (Or.inr ⟨_, _, _, c13_2, nokey_, gnokey_, nokey_, nokey_⟩) i10 eg61_2)⟩
      · refine z_aload_n (pc := 16) hZ 1 dN_insert_16 rfl rfl ?_
        refine z_aload_n (pc := 17) hZ 2 dN_insert_17 rfl rfl ?_
        refine z_get (pc := 18) (ci := 1) hZ 0 rfl rfl uc_N 0 (by decide) (zb fl_N_11) rfl dN_insert_18 ?_
        refine z_iload (pc := 21) hZ 0 dN_insert_21 rfl ?_
        refine z_iconst (pc := 23) hZ 1 dN_insert_23 (by decide) ?_
        refine z_isub (pc := 24) hZ dN_insert_24 (fun v24_4 ev24_4 => ?_)
        obtain ⟨y25_4, hy25_4, gy25_4⟩ := zH_at hH_10 (i := v24_4) (by exact ins_i (a := p1) (p := p2) (x := x4_10) hs1 hs3 (by assumption) (by assumption) (by assumption))
        refine z_aald (pc := 25) hZ 1 0 rfl rfl (by exact ins_i (a := p1) (p := p2) (x := x4_10) hs1 hs3 (by assumption) (by assumption) (by assumption)) gy25_4 dN_insert_25 ?_
        refine z_callSN (pc := 26) (As := [.ref y5_0, .ref y25_4]) (rest := []) hZ (cO_goesBefore l D (TY cR c1 c2 c3) (CX h0 ra v1 v2 v3 cR g_10 Y) LP f y5_0 hy5_0 y25_4 hy25_4) zyO_goesBefore (z_good co_O_goesBefore) nl_N_88 (zb in_O) (zb st_O_goesBefore) rfl rfl (by decide) rfl rfl (Nat.le_of_ble_eq_true rfl) ⟨Nat.zero_le _, Nat.zero_le _⟩ dN_insert_26 (z_ki (fun r26_6 w1 tys1 hp => ?_))
        obtain ⟨rfl, rfl, p26_6⟩ := hp
        refine z_if_eq (pc := 29) hZ 54 dN_insert_29 (by decide) (fun c29_7 => ?_) (fun c29_7 => ?_)
        · refine z_aload_n (pc := 54) hZ 2 dN_insert_54 rfl rfl ?_
          refine z_get (pc := 55) (ci := 1) hZ 0 rfl rfl uc_N 0 (by decide) (zb fl_N_11) rfl dN_insert_55 ?_
          refine z_iload (pc := 58) hZ 0 dN_insert_58 rfl ?_
          refine z_aload_n (pc := 60) hZ 1 dN_insert_60 rfl rfl ?_
          obtain ⟨q61_7, hq61_7⟩ := zp_at (X := CX h0 ra v1 v2 v3 cR g_10 Y) (f := f) hy5_0
          refine z_aast (pc := 61) hZ 1 0 q61_7 rfl rfl hq61_7 rfl (by exact vp_of (Int.le_trans hs1 i10) (Int.lt_of_le_of_lt j10 hs3)) dN_insert_61 (fun g61_7 eg61_7 => ?_)
          have hg61_7 : zH LP v1 v2 v3 g61_7 := zH_up hH_10 hy5_0 eg61_7
          show Z 0 0 (TY cR c1 c2 c3) (61 + 1) [(4, .int x4_10), (3, .ref y5_0), (0, .ref h0), (1, .int p1)] [] (CX h0 ra v1 v2 v3 cR g61_7 Y ++ PL LP f)
          exact z_retv (pc := 62) hZ dN_insert_62 rfl ⟨rfl, _, rfl, rfl, hg61_7, (by first | exact ini_e q10 hs1 hs3 j10 (Or.inl c13_2) i10 eg61_7 | exact ini_e q10 hs1 hs3 j10 (Or.inr ⟨_, _, _, c13_2, ev24_4, gy25_4, p26_6, c29_7⟩) i10 eg61_7)⟩
        · refine z_aload_n (pc := 32) hZ 2 dN_insert_32 rfl rfl ?_
          refine z_get (pc := 33) (ci := 1) hZ 0 rfl rfl uc_N 0 (by decide) (zb fl_N_11) rfl dN_insert_33 ?_
          refine z_iload (pc := 36) hZ 0 dN_insert_36 rfl ?_
          refine z_aload_n (pc := 38) hZ 2 dN_insert_38 rfl rfl ?_
          refine z_get (pc := 39) (ci := 1) hZ 0 rfl rfl uc_N 0 (by decide) (zb fl_N_11) rfl dN_insert_39 ?_
          refine z_iload (pc := 42) hZ 0 dN_insert_42 rfl ?_
          refine z_iconst (pc := 44) hZ 1 dN_insert_44 (by decide) ?_
          refine z_isub (pc := 45) hZ dN_insert_45 (fun v45_9 ev45_9 => ?_)
          obtain ⟨y46_9, hy46_9, gy46_9⟩ := zH_at hH_10 (i := v45_9) (by exact ins_i (a := p1) (p := p2) (x := x4_10) hs1 hs3 (by assumption) (by assumption) (by assumption))
          refine z_aald (pc := 46) hZ 1 0 rfl rfl (by exact ins_i (a := p1) (p := p2) (x := x4_10) hs1 hs3 (by assumption) (by assumption) (by assumption)) gy46_9 dN_insert_46 ?_
          obtain ⟨q47_10, hq47_10⟩ := zp_at (X := CX h0 ra v1 v2 v3 cR g_10 Y) (f := f) hy46_9
          refine z_aast (pc := 47) hZ 1 0 q47_10 rfl rfl hq47_10 rfl (by exact vp_of (Int.le_trans hs1 i10) (Int.lt_of_le_of_lt j10 hs3)) dN_insert_47 (fun g47_10 eg47_10 => ?_)
          have hg47_10 : zH LP v1 v2 v3 g47_10 := zH_up hH_10 hy46_9 eg47_10
          show Z 0 0 (TY cR c1 c2 c3) (47 + 1) [(4, .int x4_10), (3, .ref y5_0), (0, .ref h0), (1, .int p1)] [] (CX h0 ra v1 v2 v3 cR g47_10 Y ++ PL LP f)
          refine z_iinc (pc := 48) hZ 0 (fun v9 => [(4, .int v9), (3, .ref y5_0), (0, .ref h0), (1, .int p1)]) dN_insert_48 rfl (by decide) (fun _ => rfl) (fun v48_12 ev48_12 => ?_)
          refine z_goto (pc := 51) hZ 10 dN_insert_51 (by decide) ?_
          exact z_sub (pc := 10) hZ [0, 1, 2, 3] rfl (ih10 v48_12 g47_10 (by exact Nat.lt_of_lt_of_le (ins_n (a := p1) (p := p2) (x := x4_10) hs1 hs3 (by assumption) (by assumption) (by assumption)).2.2 (Nat.le_of_lt_succ m10)) (by exact hg47_10) (by exact (ins_n (a := p1) (p := p2) (x := x4_10) hs1 hs3 (by assumption) (by assumption) (by assumption)).1) (by exact (ins_n (a := p1) (p := p2) (x := x4_10) hs1 hs3 (by assumption) (by assumption) (by assumption)).2.1) (by exact ini_s q10 hs1 hs3 j10 c13_2 ev24_4 gy25_4 p26_6 c29_7 ev45_9 gy46_9 eg47_10 ev48_12))
  exact z_sub (pc := 10) hZ [0, 1, 2, 3] rfl (L10 _ p2 g (Nat.lt_succ_self _) (by exact hH) (by exact hs2) (by exact Int.le_refl _) (by exact ini_0 gy5_0))
set_option maxHeartbeats 4000000 in
set_option maxRecDepth 100000 in
theorem cN_sort (l : Launch) (D : va_G) (cR c1 c2 c3 : ClassId) (h0 ra v1 v2 v3 : Nat) (Y : va_W) (LP : List Nat) (f : Nat → V3) (g : Nat → Option Nat) (hH : zH LP v1 v2 v3 g) (p1 : Int32) (p2 : Int32) : zM l D vwCl zNF zNM yN_sort wsN_sort { frames := 7, cells := 0, slots := 0, locals := 155 } [.ref h0, .int p1, .int p2] (CX h0 ra v1 v2 v3 cR g Y ++ PL LP f) (TY cR c1 c2 c3) (qI (fun r w' tys' => ∃ g' : Nat → Option Nat, CX h0 ra v1 v2 v3 cR g' Y ++ PL LP f = w' ∧ (TY cR c1 c2 c3) = tys' ∧ zH LP v1 v2 v3 g' ∧ ((((rowOK p1 p2) → r = 1) ∧ (¬ (rowOK p1 p2) → r = 0)) ∧ (STP f f v1 v2 v3 g g' (rowOK p1 p2) (sortT p1 p2))))) := by
  refine z_met (cc := bN_sort) (maxL := 4) (ret := (some .boolean)) (isI := false) (own := RN) (by decide +kernel) rfl rfl (fun h => by cases h) (Nat.le_of_ble_eq_true rfl) (fun Z hZ => ?_)
  show Z 0 0 (TY cR c1 c2 c3) 0 [(0, .ref h0), (1, .int p1), (2, .int p2)] [] (CX h0 ra v1 v2 v3 cR g Y ++ PL LP f)
  refine z_iload_n (pc := 0) hZ 1 dN_sort_0 rfl rfl ?_
  refine z_iload_n (pc := 1) hZ 2 dN_sort_1 rfl rfl ?_
  refine z_callS (pc := 2) (As := [.int p1, .int p2]) (rest := []) hZ (cN_isRow l D (TY cR c1 c2 c3) (CX h0 ra v1 v2 v3 cR g Y ++ PL LP f) p1 p2) zyN_isRow (z_goodS ml_N_80 st_N_isRow in_N co_N_isRow) rfl rfl (by decide) rfl rfl (Nat.le_of_ble_eq_true rfl) ⟨Nat.zero_le _, Nat.zero_le _⟩ dN_sort_2 (z_ki (fun r2_1 w1 tys1 hp => ?_))
  obtain ⟨rfl, rfl, p2_1⟩ := hp
  refine z_if_ne (pc := 5) hZ 10 dN_sort_5 (by decide) (fun c5_2 => ?_) (fun c5_2 => ?_)
  · refine z_iload_n (pc := 10) hZ 1 dN_sort_10 rfl rfl ?_
    refine z_iconst (pc := 11) hZ 1 dN_sort_11 (by decide) ?_
    refine z_iadd (pc := 12) hZ dN_sort_12 (fun v12_3 ev12_3 => ?_)
    refine z_istore_n (pc := 13) hZ [(3, .int v12_3), (0, .ref h0), (1, .int p1), (2, .int p2)] dN_sort_13 rfl (by decide) rfl ?_
    have L14 : ∀ (N14 : Nat) (x3_14 : Int32) (g_14 : Nat → Option Nat), ((p1 + p2).toInt - x3_14.toInt).toNat < N14 → (zH LP v1 v2 v3 g_14) → (p1.toInt < x3_14.toInt) → (x3_14.toInt ≤ max (p1.toInt + 1) (p1.toInt + p2.toInt)) → (SRI f f v1 v2 v3 g g_14 p1 x3_14) → Z 0 0 (TY cR c1 c2 c3) 14 [(3, .int x3_14), (0, .ref h0), (1, .int p1), (2, .int p2)] [] (CX h0 ra v1 v2 v3 cR g_14 Y ++ PL LP f) := by
      intro N14
      induction N14 with
      | zero => intro x3_14 g_14 m14; exact absurd m14 (Nat.not_lt_zero _)
      | succ N14 ih14 =>
        intro x3_14 g_14 m14 hH_14 i14 k14 q14
        refine z_iload_n (pc := 14) hZ 0 dN_sort_14 rfl rfl ?_
        refine z_iload_n (pc := 15) hZ 2 dN_sort_15 rfl rfl ?_
        refine z_iload_n (pc := 16) hZ 3 dN_sort_16 rfl rfl ?_
        refine z_iadd (pc := 17) hZ dN_sort_17 (fun v17_4 ev17_4 => ?_)
        refine z_icmp_ge (pc := 18) hZ 33 dN_sort_18 (by decide) (fun c18_5 => ?_) (fun c18_5 => ?_)
        · refine z_iconst (pc := 33) hZ 1 dN_sort_33 (by decide) ?_
          exact z_reti (pc := 34) hZ dN_sort_34 .boolean rfl rfl ⟨_, rfl, _, rfl, rfl, hH_14, (by exact ⟨by first | exact ⟨fun _ => rfl, fun q => absurd (row_of (by assumption) (by assumption)) q⟩ | exact ⟨fun q => absurd q (row_no (by assumption) (by assumption)), fun _ => rfl⟩, by first | exact stp_n (row_no p2_1 c5_2) | exact sri_e q14 (row_of p2_1 c5_2) ev17_4 c18_5 k14⟩)⟩
        · refine z_aload_n (pc := 21) hZ 1 dN_sort_21 rfl rfl ?_
          refine z_iload_n (pc := 22) hZ 2 dN_sort_22 rfl rfl ?_
          refine z_iload_n (pc := 23) hZ 0 dN_sort_23 rfl rfl ?_
          refine z_callV (pc := 24) (As := [.int p1, .int x3_14]) (rest := []) hZ (cN_insert l D cR c1 c2 c3 h0 ra v1 v2 v3 Y LP f g_14 hH_14 p1 x3_14 (by exact (row_of (by assumption) (by assumption) : rowOK p1 p2).1) (by exact Int.le_of_lt (by assumption)) (by exact srt_b (a := p1) (n := p2) (row_of (by assumption) (by assumption)) (by assumption) (by assumption))) zyN_insert (z_goodV ml_N_84 im_N_insert se_N_insert in_N co_N_insert) 0 rfl rfl rfl rfl (by decide) rfl rfl (Nat.le_of_ble_eq_true rfl) ⟨Nat.zero_le _, Nat.zero_le _⟩ dN_sort_24 (z_kv (fun w1 tys1 hp => ?_))
          obtain ⟨g24_6, rfl, rfl, hg24_6, p24_6⟩ := hp
          refine z_iinc (pc := 27) hZ 0 (fun v9 => [(3, .int v9), (0, .ref h0), (1, .int p1), (2, .int p2)]) dN_sort_27 rfl (by decide) (fun _ => rfl) (fun v27_7 ev27_7 => ?_)
          refine z_goto (pc := 30) hZ 14 dN_sort_30 (by decide) ?_
          exact z_sub (pc := 14) hZ [0, 1, 2, 3] rfl (ih14 v27_7 g24_6 (by exact Nat.lt_of_lt_of_le (dec_upc (b := p1 + p2) (x := x3_14) (by assumption) (by assumption) (by assumption)) (Nat.le_of_lt_succ m14)) (by exact hg24_6) (by exact srt_n (a := p1) (n := p2) (i := x3_14) (row_of (by assumption) (by assumption)) (by assumption) (by assumption) (by assumption) (by assumption)) (by exact srt_k (row_of p2_1 c5_2) ev17_4 c18_5 ev27_7) (by exact sri_s q14 (row_of p2_1 c5_2) ev17_4 c18_5 p24_6 ev27_7))
    exact z_sub (pc := 14) hZ [0, 1, 2, 3] rfl (L14 _ v12_3 g (Nat.lt_succ_self _) (by exact hH) (by exact srt_0 (n := p2) (row_of (by assumption) (by assumption)) (by assumption)) (by exact srt_k0 (row_of p2_1 c5_2) ev12_3) (by exact sri_0 (row_of p2_1 c5_2) ev12_3))
  · refine z_iconst (pc := 8) hZ 0 dN_sort_8 (by decide) ?_
    exact z_reti (pc := 9) hZ dN_sort_9 .boolean rfl rfl ⟨_, rfl, _, rfl, rfl, hH, (by exact ⟨by first | exact ⟨fun _ => rfl, fun q => absurd (row_of (by assumption) (by assumption)) q⟩ | exact ⟨fun q => absurd q (row_no (by assumption) (by assumption)), fun _ => rfl⟩, by first | exact stp_n (row_no p2_1 c5_2) | exact sri_e q14 (row_of p2_1 c5_2) nokey_ nokey_ k14⟩)⟩
