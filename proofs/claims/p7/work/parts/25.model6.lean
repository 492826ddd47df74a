set_option maxHeartbeats 4000000 in
set_option maxRecDepth 100000 in
theorem cM_kind (l : Launch) (D : va_G) (cR c1 c2 c3 : ClassId) (h0 a1 a2 a3 : Nat) (Y : va_W) (ka : Int32) (na : Int64) (ea : Int32) (kb : Int32) (nb : Int64) (eb : Int32) (k : Int32) (n : Int64) (e : Int32) (bits : Int64) (scale : Int32) (K : Nat → Int32) (N : Nat → Int64) (E : Nat → Int32) (p1 : Int32) : zM l D vwCl zNF zNM yM_kind wsM_kind { frames := 1, cells := 0, slots := 0, locals := 20 } [.ref h0, .int p1] (MW h0 a1 a2 a3 c1 c2 c3 (ka, na, ea, kb, nb, eb, k, n, e, bits, scale, K, N, E) ++ Y) (TY cR c1 c2 c3) (qI (fun r w' tys' => MW h0 a1 a2 a3 c1 c2 c3 (ka, na, ea, kb, nb, eb, k, n, e, bits, scale, K, N, E) ++ Y = w' ∧ (TY cR c1 c2 c3) = tys' ∧ (KDM K N E p1 r))) := by
  refine z_met (cc := bM_kind) (maxL := 2) (ret := (some .int)) (isI := false) (own := RM) (by decide +kernel) rfl rfl (fun h => by cases h) (Nat.le_of_ble_eq_true rfl) (fun Z hZ => ?_)
  show Z 0 0 (TY cR c1 c2 c3) 0 [(0, .ref h0), (1, .int p1)] [] (MW h0 a1 a2 a3 c1 c2 c3 (ka, na, ea, kb, nb, eb, k, n, e, bits, scale, K, N, E) ++ Y)
  refine z_iload_n (pc := 0) hZ 1 dM_kind_0 rfl rfl ?_
  refine z_callS (pc := 1) (As := [.int p1]) (rest := []) hZ (cM_isRegister l D (TY cR c1 c2 c3) (MW h0 a1 a2 a3 c1 c2 c3 (ka, na, ea, kb, nb, eb, k, n, e, bits, scale, K, N, E) ++ Y) p1) zyM_isRegister (z_goodS ml_M_204 st_M_isRegister in_M co_M_isRegister) rfl rfl (by decide) rfl rfl (Nat.le_of_ble_eq_true rfl) ⟨Nat.zero_le _, Nat.zero_le _⟩ dM_kind_1 (z_ki (fun r1_1 w1 tys1 hp => ?_))
  obtain ⟨rfl, rfl, p1_1⟩ := hp
  refine z_if_eq (pc := 4) hZ 16 dM_kind_4 (by decide) (fun c4_2 => ?_) (fun c4_2 => ?_)
  · refine z_iconst (pc := 16) hZ (-1) dM_kind_16 (by decide) ?_
    exact z_reti (pc := 17) hZ dM_kind_17 .int rfl rfl ⟨_, rfl, rfl, rfl, (by first | exact kdm_n (reg_no p1_1 c4_2) | exact kdm_y (reg_of p1_1 c4_2) nokey_)⟩
  · refine z_aload_n (pc := 7) hZ 0 dM_kind_7 rfl rfl ?_
    refine z_get (pc := 8) (ci := 2) hZ 0 rfl rfl uc_M 0 (by decide) (zb fl_M_7) rfl dM_kind_8 ?_
    refine z_iload_n (pc := 11) hZ 1 dM_kind_11 rfl rfl ?_
    refine z_iald (pc := 12) hZ 1 1 rfl rfl (by first | assumption | exact reg_of (by assumption) (by assumption)) dM_kind_12 (fun v12_3 ev12_3 => ?_)
    refine z_goto (pc := 13) hZ 17 dM_kind_13 (by decide) ?_
    exact z_reti (pc := 17) hZ dM_kind_17 .int rfl rfl ⟨_, rfl, rfl, rfl, (by first | exact kdm_n (reg_no p1_1 c4_2) | exact kdm_y (reg_of p1_1 c4_2) ev12_3)⟩
set_option maxHeartbeats 4000000 in
set_option maxRecDepth 100000 in
theorem cM_whole (l : Launch) (D : va_G) (cR c1 c2 c3 : ClassId) (h0 a1 a2 a3 : Nat) (Y : va_W) (ka : Int32) (na : Int64) (ea : Int32) (kb : Int32) (nb : Int64) (eb : Int32) (k : Int32) (n : Int64) (e : Int32) (bits : Int64) (scale : Int32) (K : Nat → Int32) (N : Nat → Int64) (E : Nat → Int32) (p1 : Int32) (p2 : Int64) (hAK : AK K N E) : zM l D vwCl zNF zNM yM_whole wsM_whole { frames := 1, cells := 0, slots := 0, locals := 22 } [.ref h0, .int p1, .long p2] (MW h0 a1 a2 a3 c1 c2 c3 (ka, na, ea, kb, nb, eb, k, n, e, bits, scale, K, N, E) ++ Y) (TY cR c1 c2 c3) (qI (fun r w' tys' => ∃ k' : Int32, ∃ n' : Int64, ∃ e' : Int32, ∃ K' : Nat → Int32, ∃ N' : Nat → Int64, ∃ E' : Nat → Int32, MW h0 a1 a2 a3 c1 c2 c3 (ka, na, ea, kb, nb, eb, k', n', e', bits, scale, K', N', E') ++ Y = w' ∧ (TY cR c1 c2 c3) = tys' ∧ ((((vp_in p1 32) → r = 1) ∧ (¬ (vp_in p1 32) → r = 0)) ∧ AK K' N' E' ∧ STM K N E K' N' E' (vp_in p1 32) (wholeT p1 p2)))) := by
  refine z_met (cc := bM_whole) (maxL := 4) (ret := (some .boolean)) (isI := false) (own := RM) (by decide +kernel) rfl rfl (fun h => by cases h) (Nat.le_of_ble_eq_true rfl) (fun Z hZ => ?_)
  show Z 0 0 (TY cR c1 c2 c3) 0 [(0, .ref h0), (1, .int p1), (2, .long p2)] [] (MW h0 a1 a2 a3 c1 c2 c3 (ka, na, ea, kb, nb, eb, k, n, e, bits, scale, K, N, E) ++ Y)
  refine z_iload_n (pc := 0) hZ 1 dM_whole_0 rfl rfl ?_
  refine z_callS (pc := 1) (As := [.int p1]) (rest := []) hZ (cM_isRegister l D (TY cR c1 c2 c3) (MW h0 a1 a2 a3 c1 c2 c3 (ka, na, ea, kb, nb, eb, k, n, e, bits, scale, K, N, E) ++ Y) p1) zyM_isRegister (z_goodS ml_M_204 st_M_isRegister in_M co_M_isRegister) rfl rfl (by decide) rfl rfl (Nat.le_of_ble_eq_true rfl) ⟨Nat.zero_le _, Nat.zero_le _⟩ dM_whole_1 (z_ki (fun r1_1 w1 tys1 hp => ?_))
  obtain ⟨rfl, rfl, p1_1⟩ := hp
  refine z_if_ne (pc := 4) hZ 9 dM_whole_4 (by decide) (fun c4_2 => ?_) (fun c4_2 => ?_)
  · refine z_aload_n (pc := 9) hZ 0 dM_whole_9 rfl rfl ?_
    refine z_lload_n (pc := 10) hZ 2 dM_whole_10 rfl rfl ?_
    refine z_callV (pc := 11) (As := [.long p2]) (rest := []) hZ (cM_setWhole l D cR c1 c2 c3 h0 a1 a2 a3 Y ka na ea kb nb eb k n e bits scale K N E p2) zyM_setWhole (z_goodV ml_M_134 im_M_setWhole se_M_setWhole in_M co_M_setWhole) 0 rfl rfl rfl rfl (by decide) rfl rfl (Nat.le_of_ble_eq_true rfl) ⟨Nat.zero_le _, Nat.zero_le _⟩ dM_whole_11 (z_kv (fun w1 tys1 hp => ?_))
    obtain ⟨k11_3, n11_3, e11_3, rfl, rfl, p11_3⟩ := hp
    refine z_aload_n (pc := 14) hZ 0 dM_whole_14 rfl rfl ?_
    refine z_iload_n (pc := 15) hZ 1 dM_whole_15 rfl rfl ?_
    refine z_callV (pc := 16) (As := [.int p1]) (rest := []) hZ (cM_put l D cR c1 c2 c3 h0 a1 a2 a3 Y ka na ea kb nb eb k11_3 n11_3 e11_3 bits scale K N E p1 (by first | assumption | exact reg_of (by assumption) (by assumption))) zyM_put (z_goodV ml_M_207 im_M_put se_M_put in_M co_M_put) 0 rfl rfl rfl rfl (by decide) rfl rfl (Nat.le_of_ble_eq_true rfl) ⟨Nat.zero_le _, Nat.zero_le _⟩ dM_whole_16 (z_kv (fun w1 tys1 hp => ?_))
    obtain ⟨K16_4, N16_4, E16_4, rfl, rfl, p16_4⟩ := hp
    refine z_iconst (pc := 19) hZ 1 dM_whole_19 (by decide) ?_
    exact z_reti (pc := 20) hZ dM_whole_20 .boolean rfl rfl ⟨_, rfl, _, _, _, _, _, _, rfl, rfl, (by exact ⟨by first | exact ⟨fun _ => rfl, fun q => absurd (reg_of (by assumption) (by assumption)) q⟩ | exact ⟨fun q => absurd q (reg_no (by assumption) (by assumption)), fun _ => rfl⟩, by first | exact AK_put hAK p16_4 (Or.inl (p11_3).1) | exact hAK, by first | exact stm_n (reg_no p1_1 c4_2) | exact stm_y (reg_of p1_1 c4_2) fun s hs => RMs_put hs p16_4 (ma_w p11_3)⟩)⟩
  · refine z_iconst (pc := 7) hZ 0 dM_whole_7 (by decide) ?_
    exact z_reti (pc := 8) hZ dM_whole_8 .boolean rfl rfl ⟨_, rfl, _, _, _, _, _, _, rfl, rfl, (by exact ⟨by first | exact ⟨fun _ => rfl, fun q => absurd (reg_of (by assumption) (by assumption)) q⟩ | exact ⟨fun q => absurd q (reg_no (by assumption) (by assumption)), fun _ => rfl⟩, by first | exact AK_put hAK nokey_ (Or.inl (nokey_).1) | exact hAK, by first | exact stm_n (reg_no p1_1 c4_2) | exact stm_y (reg_of p1_1 c4_2) fun s hs => RMs_put hs nokey_ (ma_w nokey_)⟩)⟩
set_option maxHeartbeats 4000000 in
set_option maxRecDepth 100000 in
theorem cM_real (l : Launch) (D : va_G) (cR c1 c2 c3 : ClassId) (h0 a1 a2 a3 : Nat) (Y : va_W) (ka : Int32) (na : Int64) (ea : Int32) (kb : Int32) (nb : Int64) (eb : Int32) (k : Int32) (n : Int64) (e : Int32) (bits : Int64) (scale : Int32) (K : Nat → Int32) (N : Nat → Int64) (E : Nat → Int32) (p1 : Int32) (p2 : Int64) (p3 : Int32) (hAK : AK K N E) : zM l D vwCl zNF zNM yM_real wsM_real { frames := 3, cells := 0, slots := 0, locals := 82 } [.ref h0, .int p1, .long p2, .int p3] (MW h0 a1 a2 a3 c1 c2 c3 (ka, na, ea, kb, nb, eb, k, n, e, bits, scale, K, N, E) ++ Y) (TY cR c1 c2 c3) (qI (fun r w' tys' => ∃ k' : Int32, ∃ n' : Int64, ∃ e' : Int32, ∃ K' : Nat → Int32, ∃ N' : Nat → Int64, ∃ E' : Nat → Int32, MW h0 a1 a2 a3 c1 c2 c3 (ka, na, ea, kb, nb, eb, k', n', e', bits, scale, K', N', E') ++ Y = w' ∧ (TY cR c1 c2 c3) = tys' ∧ ((((vp_in p1 32 ∧ ¬ p3 < -1200 ∧ p3 ≤ 1200) → r = 1) ∧ (¬ (vp_in p1 32 ∧ ¬ p3 < -1200 ∧ p3 ≤ 1200) → r = 0)) ∧ AK K' N' E' ∧ STM K N E K' N' E' (vp_in p1 32 ∧ ¬ p3 < -1200 ∧ p3 ≤ 1200) (realT p1 p2 p3)))) := by
  refine z_met (cc := bM_real) (maxL := 5) (ret := (some .boolean)) (isI := false) (own := RM) (by decide +kernel) rfl rfl (fun h => by cases h) (Nat.le_of_ble_eq_true rfl) (fun Z hZ => ?_)
  show Z 0 0 (TY cR c1 c2 c3) 0 [(0, .ref h0), (1, .int p1), (2, .long p2), (4, .int p3)] [] (MW h0 a1 a2 a3 c1 c2 c3 (ka, na, ea, kb, nb, eb, k, n, e, bits, scale, K, N, E) ++ Y)
  refine z_iload_n (pc := 0) hZ 1 dM_real_0 rfl rfl ?_
  refine z_callS (pc := 1) (As := [.int p1]) (rest := []) hZ (cM_isRegister l D (TY cR c1 c2 c3) (MW h0 a1 a2 a3 c1 c2 c3 (ka, na, ea, kb, nb, eb, k, n, e, bits, scale, K, N, E) ++ Y) p1) zyM_isRegister (z_goodS ml_M_204 st_M_isRegister in_M co_M_isRegister) rfl rfl (by decide) rfl rfl (Nat.le_of_ble_eq_true rfl) ⟨Nat.zero_le _, Nat.zero_le _⟩ dM_real_1 (z_ki (fun r1_1 w1 tys1 hp => ?_))
  obtain ⟨rfl, rfl, p1_1⟩ := hp
  refine z_if_eq (pc := 4) hZ 23 dM_real_4 (by decide) (fun c4_2 => ?_) (fun c4_2 => ?_)
  · refine z_iconst (pc := 23) hZ 0 dM_real_23 (by decide) ?_
    exact z_reti (pc := 24) hZ dM_real_24 .boolean rfl rfl ⟨_, rfl, _, _, _, _, _, _, rfl, rfl, (by exact ⟨by first | exact ⟨fun _ => rfl, fun q => absurd (⟨reg_of (by assumption) (by assumption), (by assumption), (by assumption)⟩) q⟩ | exact ⟨fun q => absurd q.1 (reg_no (by assumption) (by assumption)), fun _ => rfl⟩ | exact ⟨fun q => absurd (by assumption) q.2.1, fun _ => rfl⟩ | exact ⟨fun q => absurd q.2.2 (by assumption), fun _ => rfl⟩, by first | exact AK_put hAK nokey_ (VK_of (((nokey_).1)).1) | exact hAK, by first | exact stm_n fun q => absurd q.1 (reg_no p1_1 c4_2) | exact stm_n fun q => absurd nokey_ q.2.1 | exact stm_n fun q => absurd q.2.2 nokey_ | exact stm_y ⟨(reg_of p1_1 c4_2), nokey_, nokey_⟩ fun s hs => RMs_put hs nokey_ (rem_c 0 (nokey_).2.2 nokey_ nokey_ nokey_ nokey_ (sr_0 nokey_) (nokey_).2.2) | exact stm_y ⟨(reg_of p1_1 c4_2), nokey_, nokey_⟩ fun s hs => RMs_put hs nokey_ (rem_c 1 (nokey_).2.2 nokey_ nokey_ nokey_ nokey_ (sr_1 nokey_) (nokey_).2.2)⟩)⟩
  · refine z_iload (pc := 7) hZ 3 dM_real_7 rfl ?_
    refine z_sipush (pc := 9) hZ (-1200) dM_real_9 (by decide) ?_
    refine z_icmp_lt (pc := 12) hZ 23 dM_real_12 (by decide) (fun c12_3 => ?_) (fun c12_3 => ?_)
    · refine z_iconst (pc := 23) hZ 0 dM_real_23 (by decide) ?_
      exact z_reti (pc := 24) hZ dM_real_24 .boolean rfl rfl ⟨_, rfl, _, _, _, _, _, _, rfl, rfl, (by exact ⟨by first | exact ⟨fun _ => rfl, fun q => absurd (⟨reg_of (by assumption) (by assumption), (by assumption), (by assumption)⟩) q⟩ | exact ⟨fun q => absurd q.1 (reg_no (by assumption) (by assumption)), fun _ => rfl⟩ | exact ⟨fun q => absurd (by assumption) q.2.1, fun _ => rfl⟩ | exact ⟨fun q => absurd q.2.2 (by assumption), fun _ => rfl⟩, by first | exact AK_put hAK nokey_ (VK_of (((nokey_).1)).1) | exact hAK, by first | exact stm_n fun q => absurd q.1 (reg_no p1_1 c4_2) | exact stm_n fun q => absurd c12_3 q.2.1 | exact stm_n fun q => absurd q.2.2 nokey_ | exact stm_y ⟨(reg_of p1_1 c4_2), c12_3, nokey_⟩ fun s hs => RMs_put hs nokey_ (rem_c 0 (nokey_).2.2 nokey_ c12_3 nokey_ nokey_ (sr_0 nokey_) (nokey_).2.2) | exact stm_y ⟨(reg_of p1_1 c4_2), c12_3, nokey_⟩ fun s hs => RMs_put hs nokey_ (rem_c 1 (nokey_).2.2 nokey_ c12_3 nokey_ nokey_ (sr_1 nokey_) (nokey_).2.2)⟩)⟩
    · refine z_iload (pc := 15) hZ 3 dM_real_15 rfl ?_
      refine z_sipush (pc := 17) hZ 1200 dM_real_17 (by decide) ?_
      refine z_icmp_le (pc := 20) hZ 25 dM_real_20 (by decide) (fun c20_4 => ?_) (fun c20_4 => ?_)
      · refine z_aload_n (pc := 25) hZ 0 dM_real_25 rfl rfl ?_
        refine z_lload_n (pc := 26) hZ 2 dM_real_26 rfl rfl ?_
        refine z_iconst (pc := 27) hZ 0 dM_real_27 (by decide) ?_
        refine z_callV (pc := 28) (As := [.long p2, .int 0]) (rest := []) hZ (cM_nearestOf l D cR c1 c2 c3 h0 a1 a2 a3 Y ka na ea kb nb eb k n e bits scale K N E p2 0 (by decide)) zyM_nearestOf (z_goodV ml_M_69 im_M_nearestOf se_M_nearestOf in_M co_M_nearestOf) 0 rfl rfl rfl rfl (by decide) rfl rfl (Nat.le_of_ble_eq_true rfl) ⟨Nat.zero_le _, Nat.zero_le _⟩ dM_real_28 (z_kv (fun w1 tys1 hp => ?_))
        obtain ⟨k28_5, n28_5, e28_5, rfl, rfl, p28_5⟩ := hp
        refine z_aload_n (pc := 31) hZ 0 dM_real_31 rfl rfl ?_
        refine z_aload_n (pc := 32) hZ 0 dM_real_32 rfl rfl ?_
        refine z_get (pc := 33) (ci := 2) hZ 0 rfl rfl uc_M 10 (by decide) (zb fl_M_24) rfl dM_real_33 ?_
        refine z_callS (pc := 36) (As := [.long n28_5]) (rest := [.ref h0]) hZ (cM_size l D (TY cR c1 c2 c3) (MW h0 a1 a2 a3 c1 c2 c3 (ka, na, ea, kb, nb, eb, k28_5, n28_5, e28_5, bits, scale, K, N, E) ++ Y) n28_5) zyM_size (z_goodS ml_M_47 st_M_size in_M co_M_size) rfl rfl (by decide) rfl rfl (Nat.le_of_ble_eq_true rfl) ⟨Nat.zero_le _, Nat.zero_le _⟩ dM_real_36 (z_kl (fun r36_6 w1 tys1 hp => ?_))
        obtain ⟨rfl, rfl, p36_6⟩ := hp
        refine z_aload_n (pc := 39) hZ 0 dM_real_39 rfl rfl ?_
        refine z_get (pc := 40) (ci := 2) hZ 0 rfl rfl uc_M 11 (by decide) (zb fl_M_28) rfl dM_real_40 ?_
        refine z_iload (pc := 43) hZ 3 dM_real_43 rfl ?_
        refine z_iadd (pc := 45) hZ dM_real_45 (fun v45_7 ev45_7 => ?_)
        refine z_aload_n (pc := 46) hZ 0 dM_real_46 rfl rfl ?_
        refine z_get (pc := 47) (ci := 2) hZ 0 rfl rfl uc_M 10 (by decide) (zb fl_M_24) rfl dM_real_47 ?_
        refine z_lconst (pc := 50) hZ 0 dM_real_50 (by decide) ?_
        refine z_lif_ge (pc := 51) hZ 59 dM_real_51 dM_real_52 (by decide) (fun c52_8 => ?_) (fun c52_8 => ?_)
        · refine z_iconst (pc := 59) hZ 0 dM_real_59 (by decide) ?_
          refine z_callV (pc := 60) (As := [.long r36_6, .int v45_7, .int 0]) (rest := []) hZ (cM_nearest l D cR c1 c2 c3 h0 a1 a2 a3 Y ka na ea kb nb eb k28_5 n28_5 e28_5 bits scale K N E r36_6 v45_7 0 (by exact (sz_b (((p28_5).1)).2 p36_6).1) (by exact Int.lt_of_le_of_lt (sz_b (((p28_5).1)).2 p36_6).2.1 (by decide)) (by exact re_e (((p28_5).1)).2 c12_3 c20_4 ev45_7)) zyM_nearest (z_goodV ml_M_43 im_M_nearest se_M_nearest in_M co_M_nearest) 0 rfl rfl rfl rfl (by decide) rfl rfl (Nat.le_of_ble_eq_true rfl) ⟨Nat.zero_le _, Nat.zero_le _⟩ dM_real_60 (z_kv (fun w1 tys1 hp => ?_))
          obtain ⟨k60_9, n60_9, e60_9, rfl, rfl, p60_9⟩ := hp
          refine z_aload_n (pc := 63) hZ 0 dM_real_63 rfl rfl ?_
          refine z_iload_n (pc := 64) hZ 1 dM_real_64 rfl rfl ?_
          refine z_callV (pc := 65) (As := [.int p1]) (rest := []) hZ (cM_put l D cR c1 c2 c3 h0 a1 a2 a3 Y ka na ea kb nb eb k60_9 n60_9 e60_9 bits scale K N E p1 (by first | assumption | exact reg_of (by assumption) (by assumption))) zyM_put (z_goodV ml_M_207 im_M_put se_M_put in_M co_M_put) 0 rfl rfl rfl rfl (by decide) rfl rfl (Nat.le_of_ble_eq_true rfl) ⟨Nat.zero_le _, Nat.zero_le _⟩ dM_real_65 (z_kv (fun w1 tys1 hp => ?_))
          obtain ⟨K65_10, N65_10, E65_10, rfl, rfl, p65_10⟩ := hp
          refine z_iconst (pc := 68) hZ 1 dM_real_68 (by decide) ?_
          exact z_reti (pc := 69) hZ dM_real_69 .boolean rfl rfl ⟨_, rfl, _, _, _, _, _, _, rfl, rfl, (by exact ⟨by first | exact ⟨fun _ => rfl, fun q => absurd (⟨reg_of (by assumption) (by assumption), (by assumption), (by assumption)⟩) q⟩ | exact ⟨fun q => absurd q.1 (reg_no (by assumption) (by assumption)), fun _ => rfl⟩ | exact ⟨fun q => absurd (by assumption) q.2.1, fun _ => rfl⟩ | exact ⟨fun q => absurd q.2.2 (by assumption), fun _ => rfl⟩, by first | exact AK_put hAK p65_10 (VK_of (((p60_9).1)).1) | exact hAK, by first | exact stm_n fun q => absurd q.1 (reg_no p1_1 c4_2) | exact stm_n fun q => absurd c12_3 q.2.1 | exact stm_n fun q => absurd q.2.2 c20_4 | exact stm_y ⟨(reg_of p1_1 c4_2), c12_3, c20_4⟩ fun s hs => RMs_put hs p65_10 (rem_c 0 (p28_5).2.2 p36_6 c12_3 c20_4 ev45_7 (sr_0 c52_8) (p60_9).2.2) | exact stm_y ⟨(reg_of p1_1 c4_2), c12_3, c20_4⟩ fun s hs => RMs_put hs p65_10 (rem_c 1 (p28_5).2.2 p36_6 c12_3 c20_4 ev45_7 (sr_1 c52_8) (p60_9).2.2)⟩)⟩
        · refine z_iconst (pc := 55) hZ 1 dM_real_55 (by decide) ?_
          refine z_goto (pc := 56) hZ 60 dM_real_56 (by decide) ?_
          refine z_callV (pc := 60) (As := [.long r36_6, .int v45_7, .int 1]) (rest := []) hZ (cM_nearest l D cR c1 c2 c3 h0 a1 a2 a3 Y ka na ea kb nb eb k28_5 n28_5 e28_5 bits scale K N E r36_6 v45_7 1 (by exact (sz_b (((p28_5).1)).2 p36_6).1) (by exact Int.lt_of_le_of_lt (sz_b (((p28_5).1)).2 p36_6).2.1 (by decide)) (by exact re_e (((p28_5).1)).2 c12_3 c20_4 ev45_7)) zyM_nearest (z_goodV ml_M_43 im_M_nearest se_M_nearest in_M co_M_nearest) 0 rfl rfl rfl rfl (by decide) rfl rfl (Nat.le_of_ble_eq_true rfl) ⟨Nat.zero_le _, Nat.zero_le _⟩ dM_real_60 (z_kv (fun w1 tys1 hp => ?_))
          obtain ⟨k60_11, n60_11, e60_11, rfl, rfl, p60_11⟩ := hp
          refine z_aload_n (pc := 63) hZ 0 dM_real_63 rfl rfl ?_
          refine z_iload_n (pc := 64) hZ 1 dM_real_64 rfl rfl ?_
          refine z_callV (pc := 65) (As := [.int p1]) (rest := []) hZ (cM_put l D cR c1 c2 c3 h0 a1 a2 a3 Y ka na ea kb nb eb k60_11 n60_11 e60_11 bits scale K N E p1 (by first | assumption | exact reg_of (by assumption) (by assumption))) zyM_put (z_goodV ml_M_207 im_M_put se_M_put in_M co_M_put) 0 rfl rfl rfl rfl (by decide) rfl rfl (Nat.le_of_ble_eq_true rfl) ⟨Nat.zero_le _, Nat.zero_le _⟩ dM_real_65 (z_kv (fun w1 tys1 hp => ?_))
          obtain ⟨K65_12, N65_12, E65_12, rfl, rfl, p65_12⟩ := hp
          refine z_iconst (pc := 68) hZ 1 dM_real_68 (by decide) ?_
          exact z_reti (pc := 69) hZ dM_real_69 .boolean rfl rfl ⟨_, rfl, _, _, _, _, _, _, rfl, rfl, (by exact ⟨by first | exact ⟨fun _ => rfl, fun q => absurd (⟨reg_of (by assumption) (by assumption), (by assumption), (by assumption)⟩) q⟩ | exact ⟨fun q => absurd q.1 (reg_no (by assumption) (by assumption)), fun _ => rfl⟩ | exact ⟨fun q => absurd (by assumption) q.2.1, fun _ => rfl⟩ | exact ⟨fun q => absurd q.2.2 (by assumption), fun _ => rfl⟩, by first | exact AK_put hAK p65_12 (VK_of (((p60_11).1)).1) | exact hAK, by first | exact stm_n fun q => absurd q.1 (reg_no p1_1 c4_2) | exact stm_n fun q => absurd c12_3 q.2.1 | exact stm_n fun q => absurd q.2.2 c20_4 | exact stm_y ⟨(reg_of p1_1 c4_2), c12_3, c20_4⟩ fun s hs => RMs_put hs p65_12 (rem_c 0 (p28_5).2.2 p36_6 c12_3 c20_4 ev45_7 (sr_0 c52_8) (p60_11).2.2) | exact stm_y ⟨(reg_of p1_1 c4_2), c12_3, c20_4⟩ fun s hs => RMs_put hs p65_12 (rem_c 1 (p28_5).2.2 p36_6 c12_3 c20_4 ev45_7 (sr_1 c52_8) (p60_11).2.2)⟩)⟩
      · refine z_iconst (pc := 23) hZ 0 dM_real_23 (by decide) ?_
        exact z_reti (pc := 24) hZ dM_real_24 .boolean rfl rfl ⟨_, rfl, _, _, _, _, _, _, rfl, rfl, (by exact ⟨by first | exact ⟨fun _ => rfl, fun q => absurd (⟨reg_of (by assumption) (by assumption), (by assumption), (by assumption)⟩) q⟩ | exact ⟨fun q => absurd q.1 (reg_no (by assumption) (by assumption)), fun _ => rfl⟩ | exact ⟨fun q => absurd (by assumption) q.2.1, fun _ => rfl⟩ | exact ⟨fun q => absurd q.2.2 (by assumption), fun _ => rfl⟩, by first | exact AK_put hAK nokey_ (VK_of (((nokey_).1)).1) | exact hAK, by first | exact stm_n fun q => absurd q.1 (reg_no p1_1 c4_2) | exact stm_n fun q => absurd c12_3 q.2.1 | exact stm_n fun q => absurd q.2.2 c20_4 | exact stm_y ⟨(reg_of p1_1 c4_2), c12_3, c20_4⟩ fun s hs => RMs_put hs nokey_ (rem_c 0 (nokey_).2.2 nokey_ c12_3 c20_4 nokey_ (sr_0 nokey_) (nokey_).2.2) | exact stm_y ⟨(reg_of p1_1 c4_2), c12_3, c20_4⟩ fun s hs => RMs_put hs nokey_ (rem_c 1 (nokey_).2.2 nokey_ c12_3 c20_4 nokey_ (sr_1 nokey_) (nokey_).2.2)⟩)⟩
set_option maxHeartbeats 4000000 in
set_option maxRecDepth 100000 in
theorem cM_special (l : Launch) (D : va_G) (cR c1 c2 c3 : ClassId) (h0 a1 a2 a3 : Nat) (Y : va_W) (ka : Int32) (na : Int64) (ea : Int32) (kb : Int32) (nb : Int64) (eb : Int32) (k : Int32) (n : Int64) (e : Int32) (bits : Int64) (scale : Int32) (K : Nat → Int32) (N : Nat → Int64) (E : Nat → Int32) (p1 : Int32) (p2 : Int32) (hAK : AK K N E) : zM l D vwCl zNF zNM yM_special wsM_special { frames := 1, cells := 0, slots := 0, locals := 21 } [.ref h0, .int p1, .int p2] (MW h0 a1 a2 a3 c1 c2 c3 (ka, na, ea, kb, nb, eb, k, n, e, bits, scale, K, N, E) ++ Y) (TY cR c1 c2 c3) (qI (fun r w' tys' => ∃ k' : Int32, ∃ n' : Int64, ∃ e' : Int32, ∃ K' : Nat → Int32, ∃ N' : Nat → Int64, ∃ E' : Nat → Int32, MW h0 a1 a2 a3 c1 c2 c3 (ka, na, ea, kb, nb, eb, k', n', e', bits, scale, K', N', E') ++ Y = w' ∧ (TY cR c1 c2 c3) = tys' ∧ ((((vp_in p1 32 ∧ ¬ p2 < 3 ∧ p2 ≤ 5) → r = 1) ∧ (¬ (vp_in p1 32 ∧ ¬ p2 < 3 ∧ p2 ≤ 5) → r = 0)) ∧ AK K' N' E' ∧ STM K N E K' N' E' (vp_in p1 32 ∧ ¬ p2 < 3 ∧ p2 ≤ 5) (specT p1 p2)))) := by
  refine z_met (cc := bM_special) (maxL := 3) (ret := (some .boolean)) (isI := false) (own := RM) (by decide +kernel) rfl rfl (fun h => by cases h) (Nat.le_of_ble_eq_true rfl) (fun Z hZ => ?_)
  show Z 0 0 (TY cR c1 c2 c3) 0 [(0, .ref h0), (1, .int p1), (2, .int p2)] [] (MW h0 a1 a2 a3 c1 c2 c3 (ka, na, ea, kb, nb, eb, k, n, e, bits, scale, K, N, E) ++ Y)
  refine z_iload_n (pc := 0) hZ 1 dM_special_0 rfl rfl ?_
  refine z_callS (pc := 1) (As := [.int p1]) (rest := []) hZ (cM_isRegister l D (TY cR c1 c2 c3) (MW h0 a1 a2 a3 c1 c2 c3 (ka, na, ea, kb, nb, eb, k, n, e, bits, scale, K, N, E) ++ Y) p1) zyM_isRegister (z_goodS ml_M_204 st_M_isRegister in_M co_M_isRegister) rfl rfl (by decide) rfl rfl (Nat.le_of_ble_eq_true rfl) ⟨Nat.zero_le _, Nat.zero_le _⟩ dM_special_1 (z_ki (fun r1_1 w1 tys1 hp => ?_))
  obtain ⟨rfl, rfl, p1_1⟩ := hp
  refine z_if_eq (pc := 4) hZ 17 dM_special_4 (by decide) (fun c4_2 => ?_) (fun c4_2 => ?_)
  · refine z_iconst (pc := 17) hZ 0 dM_special_17 (by decide) ?_
    exact z_reti (pc := 18) hZ dM_special_18 .boolean rfl rfl ⟨_, rfl, _, _, _, _, _, _, rfl, rfl, (by exact ⟨by first | exact ⟨fun _ => rfl, fun q => absurd (⟨reg_of (by assumption) (by assumption), (by assumption), (by assumption)⟩) q⟩ | exact ⟨fun q => absurd q.1 (reg_no (by assumption) (by assumption)), fun _ => rfl⟩ | exact ⟨fun q => absurd (by assumption) q.2.1, fun _ => rfl⟩ | exact ⟨fun q => absurd q.2.2 (by assumption), fun _ => rfl⟩, by first | exact AK_put hAK nokey_ (VK_of (sp_3 nokey_ nokey_ nokey_)) | exact hAK, by first | exact stm_n fun q => absurd q.1 (reg_no p1_1 c4_2) | exact stm_n fun q => absurd nokey_ q.2.1 | exact stm_n fun q => absurd q.2.2 nokey_ | exact stm_y ⟨(reg_of p1_1 c4_2), nokey_, nokey_⟩ fun s hs => RMs_put hs nokey_ (spm_c nokey_ nokey_ nokey_)⟩)⟩
  · refine z_iload_n (pc := 7) hZ 2 dM_special_7 rfl rfl ?_
    refine z_iconst (pc := 8) hZ 3 dM_special_8 (by decide) ?_
    refine z_icmp_lt (pc := 9) hZ 17 dM_special_9 (by decide) (fun c9_3 => ?_) (fun c9_3 => ?_)
    · refine z_iconst (pc := 17) hZ 0 dM_special_17 (by decide) ?_
      exact z_reti (pc := 18) hZ dM_special_18 .boolean rfl rfl ⟨_, rfl, _, _, _, _, _, _, rfl, rfl, (by exact ⟨by first | exact ⟨fun _ => rfl, fun q => absurd (⟨reg_of (by assumption) (by assumption), (by assumption), (by assumption)⟩) q⟩ | exact ⟨fun q => absurd q.1 (reg_no (by assumption) (by assumption)), fun _ => rfl⟩ | exact ⟨fun q => absurd (by assumption) q.2.1, fun _ => rfl⟩ | exact ⟨fun q => absurd q.2.2 (by assumption), fun _ => rfl⟩, by first | exact AK_put hAK nokey_ (VK_of (sp_3 c9_3 nokey_ nokey_)) | exact hAK, by first | exact stm_n fun q => absurd q.1 (reg_no p1_1 c4_2) | exact stm_n fun q => absurd c9_3 q.2.1 | exact stm_n fun q => absurd q.2.2 nokey_ | exact stm_y ⟨(reg_of p1_1 c4_2), c9_3, nokey_⟩ fun s hs => RMs_put hs nokey_ (spm_c c9_3 nokey_ nokey_)⟩)⟩
    · refine z_iload_n (pc := 12) hZ 2 dM_special_12 rfl rfl ?_
      refine z_iconst (pc := 13) hZ 5 dM_special_13 (by decide) ?_
      refine z_icmp_le (pc := 14) hZ 19 dM_special_14 (by decide) (fun c14_4 => ?_) (fun c14_4 => ?_)
      · refine z_aload_n (pc := 19) hZ 0 dM_special_19 rfl rfl ?_
        refine z_iload_n (pc := 20) hZ 2 dM_special_20 rfl rfl ?_
        refine z_callV (pc := 21) (As := [.int p2]) (rest := []) hZ (cM_setSpecial l D cR c1 c2 c3 h0 a1 a2 a3 Y ka na ea kb nb eb k n e bits scale K N E p2) zyM_setSpecial (z_goodV ml_M_35 im_M_setSpecial se_M_setSpecial in_M co_M_setSpecial) 0 rfl rfl rfl rfl (by decide) rfl rfl (Nat.le_of_ble_eq_true rfl) ⟨Nat.zero_le _, Nat.zero_le _⟩ dM_special_21 (z_kv (fun w1 tys1 hp => ?_))
        obtain ⟨k21_5, n21_5, e21_5, rfl, rfl, p21_5⟩ := hp
        refine z_aload_n (pc := 24) hZ 0 dM_special_24 rfl rfl ?_
        refine z_iload_n (pc := 25) hZ 1 dM_special_25 rfl rfl ?_
        refine z_callV (pc := 26) (As := [.int p1]) (rest := []) hZ (cM_put l D cR c1 c2 c3 h0 a1 a2 a3 Y ka na ea kb nb eb k21_5 n21_5 e21_5 bits scale K N E p1 (by first | assumption | exact reg_of (by assumption) (by assumption))) zyM_put (z_goodV ml_M_207 im_M_put se_M_put in_M co_M_put) 0 rfl rfl rfl rfl (by decide) rfl rfl (Nat.le_of_ble_eq_true rfl) ⟨Nat.zero_le _, Nat.zero_le _⟩ dM_special_26 (z_kv (fun w1 tys1 hp => ?_))
        obtain ⟨K26_6, N26_6, E26_6, rfl, rfl, p26_6⟩ := hp
        refine z_iconst (pc := 29) hZ 1 dM_special_29 (by decide) ?_
        exact z_reti (pc := 30) hZ dM_special_30 .boolean rfl rfl ⟨_, rfl, _, _, _, _, _, _, rfl, rfl, (by exact ⟨by first | exact ⟨fun _ => rfl, fun q => absurd (⟨reg_of (by assumption) (by assumption), (by assumption), (by assumption)⟩) q⟩ | exact ⟨fun q => absurd q.1 (reg_no (by assumption) (by assumption)), fun _ => rfl⟩ | exact ⟨fun q => absurd (by assumption) q.2.1, fun _ => rfl⟩ | exact ⟨fun q => absurd q.2.2 (by assumption), fun _ => rfl⟩, by first | exact AK_put hAK p26_6 (VK_of (sp_3 c9_3 c14_4 p21_5)) | exact hAK, by first | exact stm_n fun q => absurd q.1 (reg_no p1_1 c4_2) | exact stm_n fun q => absurd c9_3 q.2.1 | exact stm_n fun q => absurd q.2.2 c14_4 | exact stm_y ⟨(reg_of p1_1 c4_2), c9_3, c14_4⟩ fun s hs => RMs_put hs p26_6 (spm_c c9_3 c14_4 p21_5)⟩)⟩
      · refine z_iconst (pc := 17) hZ 0 dM_special_17 (by decide) ?_
        exact z_reti (pc := 18) hZ dM_special_18 .boolean rfl rfl ⟨_, rfl, _, _, _, _, _, _, rfl, rfl, (by exact ⟨by first | exact ⟨fun _ => rfl, fun q => absurd (⟨reg_of (by assumption) (by assumption), (by assumption), (by assumption)⟩) q⟩ | exact ⟨fun q => absurd q.1 (reg_no (by assumption) (by assumption)), fun _ => rfl⟩ | exact ⟨fun q => absurd (by assumption) q.2.1, fun _ => rfl⟩ | exact ⟨fun q => absurd q.2.2 (by assumption), fun _ => rfl⟩, by first | exact AK_put hAK nokey_ (VK_of (sp_3 c9_3 c14_4 nokey_)) | exact hAK, by first | exact stm_n fun q => absurd q.1 (reg_no p1_1 c4_2) | exact stm_n fun q => absurd c9_3 q.2.1 | exact stm_n fun q => absurd q.2.2 c14_4 | exact stm_y ⟨(reg_of p1_1 c4_2), c9_3, c14_4⟩ fun s hs => RMs_put hs nokey_ (spm_c c9_3 c14_4 nokey_)⟩)⟩
set_option maxHeartbeats 4000000 in
set_option maxRecDepth 100000 in
theorem cM_operate (l : Launch) (D : va_G) (cR c1 c2 c3 : ClassId) (h0 a1 a2 a3 : Nat) (Y : va_W) (ka : Int32) (na : Int64) (ea : Int32) (kb : Int32) (nb : Int64) (eb : Int32) (k : Int32) (n : Int64) (e : Int32) (bits : Int64) (scale : Int32) (K : Nat → Int32) (N : Nat → Int64) (E : Nat → Int32) (p1 : Int32) (p2 : Int32) (p3 : Int32) (p4 : Int32) (hAK : AK K N E) : zM l D vwCl zNF zNM yM_operate wsM_operate { frames := 7, cells := 0, slots := 0, locals := 180 } [.ref h0, .int p1, .int p2, .int p3, .int p4] (MW h0 a1 a2 a3 c1 c2 c3 (ka, na, ea, kb, nb, eb, k, n, e, bits, scale, K, N, E) ++ Y) (TY cR c1 c2 c3) (qI (fun r w' tys' => ∃ ka' : Int32, ∃ na' : Int64, ∃ ea' : Int32, ∃ kb' : Int32, ∃ nb' : Int64, ∃ eb' : Int32, ∃ k' : Int32, ∃ n' : Int64, ∃ e' : Int32, ∃ bits' : Int64, ∃ scale' : Int32, ∃ K' : Nat → Int32, ∃ N' : Nat → Int64, ∃ E' : Nat → Int32, MW h0 a1 a2 a3 c1 c2 c3 (ka', na', ea', kb', nb', eb', k', n', e', bits', scale', K', N', E') ++ Y = w' ∧ (TY cR c1 c2 c3) = tys' ∧ (AK K' N' E' ∧ OPRm K N E K' N' E' p1 p2 p3 p4 r))) := by
  refine z_met (cc := bM_operate) (maxL := 6) (ret := (some .int)) (isI := false) (own := RM) (by decide +kernel) rfl rfl (fun h => by cases h) (Nat.le_of_ble_eq_true rfl) (fun Z hZ => ?_)
  show Z 0 0 (TY cR c1 c2 c3) 0 [(0, .ref h0), (1, .int p1), (2, .int p2), (3, .int p3), (4, .int p4)] [] (MW h0 a1 a2 a3 c1 c2 c3 (ka, na, ea, kb, nb, eb, k, n, e, bits, scale, K, N, E) ++ Y)
  refine z_iload_n (pc := 0) hZ 1 dM_operate_0 rfl rfl ?_
  refine z_if_lt (pc := 1) hZ 32 dM_operate_1 (by decide) (fun c1_1 => ?_) (fun c1_1 => ?_)
  · refine z_iconst (pc := 32) hZ (-1) dM_operate_32 (by decide) ?_
    exact z_reti (pc := 33) hZ dM_operate_33 .int rfl rfl ⟨_, rfl, _, _, _, _, _, _, _, _, _, _, _, _, _, _, rfl, rfl, (by first | exact ⟨hAK, oprm_n fun q => absurd c1_1 q.2.2.2.1⟩ | exact ⟨hAK, oprm_n fun q => absurd nokey_ q.2.2.2.2⟩ | exact ⟨hAK, oprm_n fun q => absurd q.1 (reg_no nokey_ nokey_)⟩ | exact ⟨hAK, oprm_n fun q => absurd q.2.1 (reg_no nokey_ nokey_)⟩ | exact ⟨hAK, oprm_n fun q => absurd q.2.2.1 (reg_no nokey_ nokey_)⟩)⟩
  · refine z_iload_n (pc := 4) hZ 1 dM_operate_4 rfl rfl ?_
    refine z_bipush (pc := 5) hZ 17 dM_operate_5 (by decide) ?_
    refine z_icmp_gt (pc := 7) hZ 32 dM_operate_7 (by decide) (fun c7_2 => ?_) (fun c7_2 => ?_)
    · refine z_iconst (pc := 32) hZ (-1) dM_operate_32 (by decide) ?_
      exact z_reti (pc := 33) hZ dM_operate_33 .int rfl rfl ⟨_, rfl, _, _, _, _, _, _, _, _, _, _, _, _, _, _, rfl, rfl, (by first | exact ⟨hAK, oprm_n fun q => absurd c1_1 q.2.2.2.1⟩ | exact ⟨hAK, oprm_n fun q => absurd c7_2 q.2.2.2.2⟩ | exact ⟨hAK, oprm_n fun q => absurd q.1 (reg_no nokey_ nokey_)⟩ | exact ⟨hAK, oprm_n fun q => absurd q.2.1 (reg_no nokey_ nokey_)⟩ | exact ⟨hAK, oprm_n fun q => absurd q.2.2.1 (reg_no nokey_ nokey_)⟩)⟩
    · refine z_iload_n (pc := 10) hZ 2 dM_operate_10 rfl rfl ?_
      refine z_callS (pc := 11) (As := [.int p2]) (rest := []) hZ (cM_isRegister l D (TY cR c1 c2 c3) (MW h0 a1 a2 a3 c1 c2 c3 (ka, na, ea, kb, nb, eb, k, n, e, bits, scale, K, N, E) ++ Y) p2) zyM_isRegister (z_goodS ml_M_204 st_M_isRegister in_M co_M_isRegister) rfl rfl (by decide) rfl rfl (Nat.le_of_ble_eq_true rfl) ⟨Nat.zero_le _, Nat.zero_le _⟩ dM_operate_11 (z_ki (fun r11_3 w1 tys1 hp => ?_))
      obtain ⟨rfl, rfl, p11_3⟩ := hp
      refine z_if_eq (pc := 14) hZ 32 dM_operate_14 (by decide) (fun c14_4 => ?_) (fun c14_4 => ?_)
      · refine z_iconst (pc := 32) hZ (-1) dM_operate_32 (by decide) ?_
        exact z_reti (pc := 33) hZ dM_operate_33 .int rfl rfl ⟨_, rfl, _, _, _, _, _, _, _, _, _, _, _, _, _, _, rfl, rfl, (by first | exact ⟨hAK, oprm_n fun q => absurd c1_1 q.2.2.2.1⟩ | exact ⟨hAK, oprm_n fun q => absurd c7_2 q.2.2.2.2⟩ | exact ⟨hAK, oprm_n fun q => absurd q.1 (reg_no p11_3 c14_4)⟩ | exact ⟨hAK, oprm_n fun q => absurd q.2.1 (reg_no nokey_ nokey_)⟩ | exact ⟨hAK, oprm_n fun q => absurd q.2.2.1 (reg_no nokey_ nokey_)⟩)⟩
      · refine z_iload_n (pc := 17) hZ 3 dM_operate_17 rfl rfl ?_
        refine z_callS (pc := 18) (As := [.int p3]) (rest := []) hZ (cM_isRegister l D (TY cR c1 c2 c3) (MW h0 a1 a2 a3 c1 c2 c3 (ka, na, ea, kb, nb, eb, k, n, e, bits, scale, K, N, E) ++ Y) p3) zyM_isRegister (z_goodS ml_M_204 st_M_isRegister in_M co_M_isRegister) rfl rfl (by decide) rfl rfl (Nat.le_of_ble_eq_true rfl) ⟨Nat.zero_le _, Nat.zero_le _⟩ dM_operate_18 (z_ki (fun r18_5 w1 tys1 hp => ?_))
        obtain ⟨rfl, rfl, p18_5⟩ := hp
        refine z_if_eq (pc := 21) hZ 32 dM_operate_21 (by decide) (fun c21_6 => ?_) (fun c21_6 => ?_)
        · refine z_iconst (pc := 32) hZ (-1) dM_operate_32 (by decide) ?_
          exact z_reti (pc := 33) hZ dM_operate_33 .int rfl rfl ⟨_, rfl, _, _, _, _, _, _, _, _, _, _, _, _, _, _, rfl, rfl, (by first | exact ⟨hAK, oprm_n fun q => absurd c1_1 q.2.2.2.1⟩ | exact ⟨hAK, oprm_n fun q => absurd c7_2 q.2.2.2.2⟩ | exact ⟨hAK, oprm_n fun q => absurd q.1 (reg_no p11_3 c14_4)⟩ | exact ⟨hAK, oprm_n fun q => absurd q.2.1 (reg_no p18_5 c21_6)⟩ | exact ⟨hAK, oprm_n fun q => absurd q.2.2.1 (reg_no nokey_ nokey_)⟩)⟩
        · refine z_iload (pc := 24) hZ 4 dM_operate_24 rfl ?_
          refine z_callS (pc := 26) (As := [.int p4]) (rest := []) hZ (cM_isRegister l D (TY cR c1 c2 c3) (MW h0 a1 a2 a3 c1 c2 c3 (ka, na, ea, kb, nb, eb, k, n, e, bits, scale, K, N, E) ++ Y) p4) zyM_isRegister (z_goodS ml_M_204 st_M_isRegister in_M co_M_isRegister) rfl rfl (by decide) rfl rfl (Nat.le_of_ble_eq_true rfl) ⟨Nat.zero_le _, Nat.zero_le _⟩ dM_operate_26 (z_ki (fun r26_7 w1 tys1 hp => ?_))
          obtain ⟨rfl, rfl, p26_7⟩ := hp
          refine z_if_ne (pc := 29) hZ 34 dM_operate_29 (by decide) (fun c29_8 => ?_) (fun c29_8 => ?_)
          · have HC : OPC p1 p2 p3 p4 := ⟨reg_of p11_3 c14_4, reg_of p18_5 c21_6, reg_of p26_7 c29_8, c1_1, c7_2⟩
            refine z_aload_n (pc := 34) hZ 0 dM_operate_34 rfl rfl ?_
            refine z_iload_n (pc := 35) hZ 3 dM_operate_35 rfl rfl ?_
            refine z_callV (pc := 36) (As := [.int p3]) (rest := []) hZ (cM_takeA l D cR c1 c2 c3 h0 a1 a2 a3 Y ka na ea kb nb eb k n e bits scale K N E p3 (by first | assumption | exact reg_of (by assumption) (by assumption))) zyM_takeA (z_goodV ml_M_210 im_M_takeA se_M_takeA in_M co_M_takeA) 0 rfl rfl rfl rfl (by decide) rfl rfl (Nat.le_of_ble_eq_true rfl) ⟨Nat.zero_le _, Nat.zero_le _⟩ dM_operate_36 (z_kv (fun w1 tys1 hp => ?_))
            obtain ⟨ka36_9, na36_9, ea36_9, rfl, rfl, p36_9⟩ := hp
            refine z_aload_n (pc := 39) hZ 0 dM_operate_39 rfl rfl ?_
            refine z_iload (pc := 40) hZ 4 dM_operate_40 rfl ?_
            refine z_callV (pc := 42) (As := [.int p4]) (rest := []) hZ (cM_takeB l D cR c1 c2 c3 h0 a1 a2 a3 Y ka36_9 na36_9 ea36_9 kb nb eb k n e bits scale K N E p4 (by first | assumption | exact reg_of (by assumption) (by assumption))) zyM_takeB (z_goodV ml_M_213 im_M_takeB se_M_takeB in_M co_M_takeB) 0 rfl rfl rfl rfl (by decide) rfl rfl (Nat.le_of_ble_eq_true rfl) ⟨Nat.zero_le _, Nat.zero_le _⟩ dM_operate_42 (z_kv (fun w1 tys1 hp => ?_))
            obtain ⟨kb42_10, nb42_10, eb42_10, rfl, rfl, p42_10⟩ := hp
            refine z_aload_n (pc := 45) hZ 0 dM_operate_45 rfl rfl ?_
            refine z_iload_n (pc := 46) hZ 1 dM_operate_46 rfl rfl ?_
            refine z_callV (pc := 47) (As := [.int p1]) (rest := []) hZ (cM_operation l D cR c1 c2 c3 h0 a1 a2 a3 Y ka36_9 na36_9 ea36_9 kb42_10 nb42_10 eb42_10 k n e bits scale K N E p1 (by exact AK_at hAK (reg_of p18_5 c21_6) p36_9) (by exact AK_at hAK (reg_of p26_7 c29_8) p42_10) (by exact c1_1)) zyM_operation (z_goodV ml_M_216 im_M_operation se_M_operation in_M co_M_operation) 0 rfl rfl rfl rfl (by decide) rfl rfl (Nat.le_of_ble_eq_true rfl) ⟨Nat.zero_le _, Nat.zero_le _⟩ dM_operate_47 (z_ki (fun r47_11 w1 tys1 hp => ?_))
            obtain ⟨ka47_11, na47_11, ea47_11, kb47_11, nb47_11, eb47_11, k47_11, n47_11, e47_11, bits47_11, scale47_11, rfl, rfl, p47_11⟩ := hp
            refine z_istore (pc := 50) hZ [(5, .int r47_11), (0, .ref h0), (1, .int p1), (2, .int p2), (3, .int p3), (4, .int p4)] dM_operate_50 (by decide) rfl ?_
            refine z_iload (pc := 52) hZ 0 dM_operate_52 rfl ?_
            refine z_if_ne (pc := 54) hZ 62 dM_operate_54 (by decide) (fun c54_12 => ?_) (fun c54_12 => ?_)
            · refine z_iload (pc := 62) hZ 0 dM_operate_62 rfl ?_
              exact z_reti (pc := 64) hZ dM_operate_64 .int rfl rfl ⟨_, rfl, _, _, _, _, _, _, _, _, _, _, _, _, _, _, rfl, rfl, (by first | exact ⟨AK_put hAK nokey_ ((p47_11).1.1 c54_12), oprm_y HC p36_9 p42_10 (p47_11).2 (Or.inl ⟨c54_12, nokey_⟩)⟩ | exact ⟨hAK, oprm_y HC p36_9 p42_10 (p47_11).2 (Or.inr ⟨c54_12, rfl, rfl, rfl⟩)⟩)⟩
            · refine z_aload_n (pc := 57) hZ 1 dM_operate_57 rfl rfl ?_
              refine z_iload_n (pc := 58) hZ 3 dM_operate_58 rfl rfl ?_
              refine z_callV (pc := 59) (As := [.int p2]) (rest := []) hZ (cM_put l D cR c1 c2 c3 h0 a1 a2 a3 Y ka47_11 na47_11 ea47_11 kb47_11 nb47_11 eb47_11 k47_11 n47_11 e47_11 bits47_11 scale47_11 K N E p2 (by first | assumption | exact reg_of (by assumption) (by assumption))) zyM_put (z_goodV ml_M_207 im_M_put se_M_put in_M co_M_put) 0 rfl rfl rfl rfl (by decide) rfl rfl (Nat.le_of_ble_eq_true rfl) ⟨Nat.zero_le _, Nat.zero_le _⟩ dM_operate_59 (z_kv (fun w1 tys1 hp => ?_))
              obtain ⟨K59_13, N59_13, E59_13, rfl, rfl, p59_13⟩ := hp
              refine z_iload (pc := 62) hZ 0 dM_operate_62 rfl ?_
              exact z_reti (pc := 64) hZ dM_operate_64 .int rfl rfl ⟨_, rfl, _, _, _, _, _, _, _, _, _, _, _, _, _, _, rfl, rfl, (by first | exact ⟨AK_put hAK p59_13 ((p47_11).1.1 c54_12), oprm_y HC p36_9 p42_10 (p47_11).2 (Or.inl ⟨c54_12, p59_13⟩)⟩ | exact ⟨hAK, oprm_y HC p36_9 p42_10 (p47_11).2 (Or.inr ⟨c54_12, rfl, rfl, rfl⟩)⟩)⟩
          · refine z_iconst (pc := 32) hZ (-1) dM_operate_32 (by decide) ?_
            exact z_reti (pc := 33) hZ dM_operate_33 .int rfl rfl ⟨_, rfl, _, _, _, _, _, _, _, _, _, _, _, _, _, _, rfl, rfl, (by first | exact ⟨hAK, oprm_n fun q => absurd c1_1 q.2.2.2.1⟩ | exact ⟨hAK, oprm_n fun q => absurd c7_2 q.2.2.2.2⟩ | exact ⟨hAK, oprm_n fun q => absurd q.1 (reg_no p11_3 c14_4)⟩ | exact ⟨hAK, oprm_n fun q => absurd q.2.1 (reg_no p18_5 c21_6)⟩ | exact ⟨hAK, oprm_n fun q => absurd q.2.2.1 (reg_no p26_7 c29_8)⟩)⟩
set_option maxHeartbeats 4000000 in
set_option maxRecDepth 100000 in
theorem cM_compare (l : Launch) (D : va_G) (cR c1 c2 c3 : ClassId) (h0 a1 a2 a3 : Nat) (Y : va_W) (ka : Int32) (na : Int64) (ea : Int32) (kb : Int32) (nb : Int64) (eb : Int32) (k : Int32) (n : Int64) (e : Int32) (bits : Int64) (scale : Int32) (K : Nat → Int32) (N : Nat → Int64) (E : Nat → Int32) (p1 : Int32) (p2 : Int32) (p3 : Int32) (hAK : AK K N E) : zM l D vwCl zNF zNM yM_compare wsM_compare { frames := 5, cells := 0, slots := 0, locals := 139 } [.ref h0, .int p1, .int p2, .int p3] (MW h0 a1 a2 a3 c1 c2 c3 (ka, na, ea, kb, nb, eb, k, n, e, bits, scale, K, N, E) ++ Y) (TY cR c1 c2 c3) (qI (fun r w' tys' => ∃ ka' : Int32, ∃ na' : Int64, ∃ ea' : Int32, ∃ kb' : Int32, ∃ nb' : Int64, ∃ eb' : Int32, ∃ k' : Int32, ∃ n' : Int64, ∃ e' : Int32, MW h0 a1 a2 a3 c1 c2 c3 (ka', na', ea', kb', nb', eb', k', n', e', bits, scale, K, N, E) ++ Y = w' ∧ (TY cR c1 c2 c3) = tys' ∧ (CPRm K N E p1 p2 p3 r))) := by
  refine z_met (cc := bM_compare) (maxL := 5) (ret := (some .int)) (isI := false) (own := RM) (by decide +kernel) rfl rfl (fun h => by cases h) (Nat.le_of_ble_eq_true rfl) (fun Z hZ => ?_)
  show Z 0 0 (TY cR c1 c2 c3) 0 [(0, .ref h0), (1, .int p1), (2, .int p2), (3, .int p3)] [] (MW h0 a1 a2 a3 c1 c2 c3 (ka, na, ea, kb, nb, eb, k, n, e, bits, scale, K, N, E) ++ Y)
  refine z_iload_n (pc := 0) hZ 1 dM_compare_0 rfl rfl ?_
  refine z_if_lt (pc := 1) hZ 23 dM_compare_1 (by decide) (fun c1_1 => ?_) (fun c1_1 => ?_)
  · refine z_iconst (pc := 23) hZ (-1) dM_compare_23 (by decide) ?_
    exact z_reti (pc := 24) hZ dM_compare_24 .int rfl rfl ⟨_, rfl, _, _, _, _, _, _, _, _, _, rfl, rfl, (by first | exact cprm_n fun q => absurd c1_1 q.2.2.1 | exact cprm_n fun q => absurd nokey_ q.2.2.2 | exact cprm_n fun q => absurd q.1 (reg_no nokey_ nokey_) | exact cprm_n fun q => absurd q.2.1 (reg_no nokey_ nokey_))⟩
  · refine z_iload_n (pc := 4) hZ 1 dM_compare_4 rfl rfl ?_
    refine z_iconst (pc := 5) hZ 2 dM_compare_5 (by decide) ?_
    refine z_icmp_gt (pc := 6) hZ 23 dM_compare_6 (by decide) (fun c6_2 => ?_) (fun c6_2 => ?_)
    · refine z_iconst (pc := 23) hZ (-1) dM_compare_23 (by decide) ?_
      exact z_reti (pc := 24) hZ dM_compare_24 .int rfl rfl ⟨_, rfl, _, _, _, _, _, _, _, _, _, rfl, rfl, (by first | exact cprm_n fun q => absurd c1_1 q.2.2.1 | exact cprm_n fun q => absurd c6_2 q.2.2.2 | exact cprm_n fun q => absurd q.1 (reg_no nokey_ nokey_) | exact cprm_n fun q => absurd q.2.1 (reg_no nokey_ nokey_))⟩
    · refine z_iload_n (pc := 9) hZ 2 dM_compare_9 rfl rfl ?_
      refine z_callS (pc := 10) (As := [.int p2]) (rest := []) hZ (cM_isRegister l D (TY cR c1 c2 c3) (MW h0 a1 a2 a3 c1 c2 c3 (ka, na, ea, kb, nb, eb, k, n, e, bits, scale, K, N, E) ++ Y) p2) zyM_isRegister (z_goodS ml_M_204 st_M_isRegister in_M co_M_isRegister) rfl rfl (by decide) rfl rfl (Nat.le_of_ble_eq_true rfl) ⟨Nat.zero_le _, Nat.zero_le _⟩ dM_compare_10 (z_ki (fun r10_3 w1 tys1 hp => ?_))
      obtain ⟨rfl, rfl, p10_3⟩ := hp
      refine z_if_eq (pc := 13) hZ 23 dM_compare_13 (by decide) (fun c13_4 => ?_) (fun c13_4 => ?_)
      · refine z_iconst (pc := 23) hZ (-1) dM_compare_23 (by decide) ?_
        exact z_reti (pc := 24) hZ dM_compare_24 .int rfl rfl ⟨_, rfl, _, _, _, _, _, _, _, _, _, rfl, rfl, (by first | exact cprm_n fun q => absurd c1_1 q.2.2.1 | exact cprm_n fun q => absurd c6_2 q.2.2.2 | exact cprm_n fun q => absurd q.1 (reg_no p10_3 c13_4) | exact cprm_n fun q => absurd q.2.1 (reg_no nokey_ nokey_))⟩
      · refine z_iload_n (pc := 16) hZ 3 dM_compare_16 rfl rfl ?_
        refine z_callS (pc := 17) (As := [.int p3]) (rest := []) hZ (cM_isRegister l D (TY cR c1 c2 c3) (MW h0 a1 a2 a3 c1 c2 c3 (ka, na, ea, kb, nb, eb, k, n, e, bits, scale, K, N, E) ++ Y) p3) zyM_isRegister (z_goodS ml_M_204 st_M_isRegister in_M co_M_isRegister) rfl rfl (by decide) rfl rfl (Nat.le_of_ble_eq_true rfl) ⟨Nat.zero_le _, Nat.zero_le _⟩ dM_compare_17 (z_ki (fun r17_5 w1 tys1 hp => ?_))
        obtain ⟨rfl, rfl, p17_5⟩ := hp
        refine z_if_ne (pc := 20) hZ 25 dM_compare_20 (by decide) (fun c20_6 => ?_) (fun c20_6 => ?_)
        · have HC : CPC p1 p2 p3 := ⟨reg_of p10_3 c13_4, reg_of p17_5 c20_6, c1_1, c6_2⟩
          refine z_aload_n (pc := 25) hZ 0 dM_compare_25 rfl rfl ?_
          refine z_iload_n (pc := 26) hZ 2 dM_compare_26 rfl rfl ?_
          refine z_callV (pc := 27) (As := [.int p2]) (rest := []) hZ (cM_takeA l D cR c1 c2 c3 h0 a1 a2 a3 Y ka na ea kb nb eb k n e bits scale K N E p2 (by first | assumption | exact reg_of (by assumption) (by assumption))) zyM_takeA (z_goodV ml_M_210 im_M_takeA se_M_takeA in_M co_M_takeA) 0 rfl rfl rfl rfl (by decide) rfl rfl (Nat.le_of_ble_eq_true rfl) ⟨Nat.zero_le _, Nat.zero_le _⟩ dM_compare_27 (z_kv (fun w1 tys1 hp => ?_))
          obtain ⟨ka27_7, na27_7, ea27_7, rfl, rfl, p27_7⟩ := hp
          refine z_aload_n (pc := 30) hZ 0 dM_compare_30 rfl rfl ?_
          refine z_iload_n (pc := 31) hZ 3 dM_compare_31 rfl rfl ?_
          refine z_callV (pc := 32) (As := [.int p3]) (rest := []) hZ (cM_takeB l D cR c1 c2 c3 h0 a1 a2 a3 Y ka27_7 na27_7 ea27_7 kb nb eb k n e bits scale K N E p3 (by first | assumption | exact reg_of (by assumption) (by assumption))) zyM_takeB (z_goodV ml_M_213 im_M_takeB se_M_takeB in_M co_M_takeB) 0 rfl rfl rfl rfl (by decide) rfl rfl (Nat.le_of_ble_eq_true rfl) ⟨Nat.zero_le _, Nat.zero_le _⟩ dM_compare_32 (z_kv (fun w1 tys1 hp => ?_))
          obtain ⟨kb32_8, nb32_8, eb32_8, rfl, rfl, p32_8⟩ := hp
          refine z_iload_n (pc := 35) hZ 1 dM_compare_35 rfl rfl ?_
          refine z_if_ne (pc := 36) hZ 46 dM_compare_36 (by decide) (fun c36_9 => ?_) (fun c36_9 => ?_)
          · refine z_aload_n (pc := 46) hZ 0 dM_compare_46 rfl rfl ?_
            refine z_iload_n (pc := 47) hZ 1 dM_compare_47 rfl rfl ?_
            refine z_iconst (pc := 48) hZ 2 dM_compare_48 (by decide) ?_
            refine z_icmp_ne (pc := 49) hZ 56 dM_compare_49 (by decide) (fun c49_10 => ?_) (fun c49_10 => ?_)
            · refine z_iconst (pc := 56) hZ 0 dM_compare_56 (by decide) ?_
              refine z_callV (pc := 57) (As := [.int 0]) (rest := []) hZ (cM_isLess l D cR c1 c2 c3 h0 a1 a2 a3 Y ka27_7 na27_7 ea27_7 kb32_8 nb32_8 eb32_8 k n e bits scale K N E 0 (by exact AK_at hAK (reg_of p10_3 c13_4) p27_7) (by exact AK_at hAK (reg_of p17_5 c20_6) p32_8) (by rfl)) zyM_isLess (z_goodV ml_M_223 im_M_isLess se_M_isLess in_M co_M_isLess) 0 rfl rfl rfl rfl (by decide) rfl rfl (Nat.le_of_ble_eq_true rfl) ⟨Nat.zero_le _, Nat.zero_le _⟩ dM_compare_57 (z_ki (fun r57_11 w1 tys1 hp => ?_))
              obtain ⟨kb57_11, nb57_11, k57_11, n57_11, e57_11, rfl, rfl, p57_11⟩ := hp
              refine z_istore (pc := 60) hZ [(4, .int r57_11), (0, .ref h0), (1, .int p1), (2, .int p2), (3, .int p3)] dM_compare_60 (by decide) rfl ?_
              refine z_iload (pc := 62) hZ 0 dM_compare_62 rfl ?_
              refine z_if_eq (pc := 64) hZ 71 dM_compare_64 (by decide) (fun c64_12 => ?_) (fun c64_12 => ?_)
              · refine z_iconst (pc := 71) hZ 0 dM_compare_71 (by decide) ?_
                exact z_reti (pc := 72) hZ dM_compare_72 .int rfl rfl ⟨_, rfl, _, _, _, _, _, _, _, _, _, rfl, rfl, (by first | exact cprm_y HC p27_7 p32_8 fun a b oa ob ha hb => cm_z (r := 0) c36_9 (cm_0 0 (nokey_ _ _ ha hb) (Or.inl ⟨c64_12, rfl⟩)) | exact cprm_y HC p27_7 p32_8 fun a b oa ob ha hb => cm_l 0 ((p57_11).2 (Or.inr rfl) _ _ oa ob ha hb) (Or.inr ⟨c49_10, rfl⟩) (Or.inl ⟨c64_12, rfl⟩) | exact cprm_y HC p27_7 p32_8 fun a b oa ob ha hb => cm_l 0 ((p57_11).2 (Or.inl rfl) _ _ oa ob ha hb) (Or.inl ⟨cpz_2 c1_1 c6_2 c36_9 c49_10, rfl⟩) (Or.inl ⟨c64_12, rfl⟩) | exact cprm_y HC p27_7 p32_8 fun a b oa ob ha hb => cm_z (r := 0) c36_9 (cm_0 1 (nokey_ _ _ ha hb) (Or.inr ⟨c64_12, rfl⟩)) | exact cprm_y HC p27_7 p32_8 fun a b oa ob ha hb => cm_l 1 ((p57_11).2 (Or.inr rfl) _ _ oa ob ha hb) (Or.inr ⟨c49_10, rfl⟩) (Or.inr ⟨c64_12, rfl⟩) | exact cprm_y HC p27_7 p32_8 fun a b oa ob ha hb => cm_l 1 ((p57_11).2 (Or.inl rfl) _ _ oa ob ha hb) (Or.inl ⟨cpz_2 c1_1 c6_2 c36_9 c49_10, rfl⟩) (Or.inr ⟨c64_12, rfl⟩))⟩
              · refine z_iconst (pc := 67) hZ 1 dM_compare_67 (by decide) ?_
                refine z_goto (pc := 68) hZ 72 dM_compare_68 (by decide) ?_
                exact z_reti (pc := 72) hZ dM_compare_72 .int rfl rfl ⟨_, rfl, _, _, _, _, _, _, _, _, _, rfl, rfl, (by first | exact cprm_y HC p27_7 p32_8 fun a b oa ob ha hb => cm_z (r := 0) c36_9 (cm_0 0 (nokey_ _ _ ha hb) (Or.inl ⟨c64_12, rfl⟩)) | exact cprm_y HC p27_7 p32_8 fun a b oa ob ha hb => cm_l 0 ((p57_11).2 (Or.inr rfl) _ _ oa ob ha hb) (Or.inr ⟨c49_10, rfl⟩) (Or.inl ⟨c64_12, rfl⟩) | exact cprm_y HC p27_7 p32_8 fun a b oa ob ha hb => cm_l 0 ((p57_11).2 (Or.inl rfl) _ _ oa ob ha hb) (Or.inl ⟨cpz_2 c1_1 c6_2 c36_9 c49_10, rfl⟩) (Or.inl ⟨c64_12, rfl⟩) | exact cprm_y HC p27_7 p32_8 fun a b oa ob ha hb => cm_z (r := 0) c36_9 (cm_0 1 (nokey_ _ _ ha hb) (Or.inr ⟨c64_12, rfl⟩)) | exact cprm_y HC p27_7 p32_8 fun a b oa ob ha hb => cm_l 1 ((p57_11).2 (Or.inr rfl) _ _ oa ob ha hb) (Or.inr ⟨c49_10, rfl⟩) (Or.inr ⟨c64_12, rfl⟩) | exact cprm_y HC p27_7 p32_8 fun a b oa ob ha hb => cm_l 1 ((p57_11).2 (Or.inl rfl) _ _ oa ob ha hb) (Or.inl ⟨cpz_2 c1_1 c6_2 c36_9 c49_10, rfl⟩) (Or.inr ⟨c64_12, rfl⟩))⟩
            · refine z_iconst (pc := 52) hZ 1 dM_compare_52 (by decide) ?_
              refine z_goto (pc := 53) hZ 57 dM_compare_53 (by decide) ?_
              refine z_callV (pc := 57) (As := [.int 1]) (rest := []) hZ (cM_isLess l D cR c1 c2 c3 h0 a1 a2 a3 Y ka27_7 na27_7 ea27_7 kb32_8 nb32_8 eb32_8 k n e bits scale K N E 1 (by exact AK_at hAK (reg_of p10_3 c13_4) p27_7) (by exact AK_at hAK (reg_of p17_5 c20_6) p32_8) (by rfl)) zyM_isLess (z_goodV ml_M_223 im_M_isLess se_M_isLess in_M co_M_isLess) 0 rfl rfl rfl rfl (by decide) rfl rfl (Nat.le_of_ble_eq_true rfl) ⟨Nat.zero_le _, Nat.zero_le _⟩ dM_compare_57 (z_ki (fun r57_13 w1 tys1 hp => ?_))
              obtain ⟨kb57_13, nb57_13, k57_13, n57_13, e57_13, rfl, rfl, p57_13⟩ := hp
              refine z_istore (pc := 60) hZ [(4, .int r57_13), (0, .ref h0), (1, .int p1), (2, .int p2), (3, .int p3)] dM_compare_60 (by decide) rfl ?_
              refine z_iload (pc := 62) hZ 0 dM_compare_62 rfl ?_
              refine z_if_eq (pc := 64) hZ 71 dM_compare_64 (by decide) (fun c64_14 => ?_) (fun c64_14 => ?_)
              · refine z_iconst (pc := 71) hZ 0 dM_compare_71 (by decide) ?_
                exact z_reti (pc := 72) hZ dM_compare_72 .int rfl rfl ⟨_, rfl, _, _, _, _, _, _, _, _, _, rfl, rfl, (by first | exact cprm_y HC p27_7 p32_8 fun a b oa ob ha hb => cm_z (r := 0) c36_9 (cm_0 0 (nokey_ _ _ ha hb) (Or.inl ⟨c64_14, rfl⟩)) | exact cprm_y HC p27_7 p32_8 fun a b oa ob ha hb => cm_l 0 ((p57_13).2 (Or.inr rfl) _ _ oa ob ha hb) (Or.inr ⟨c49_10, rfl⟩) (Or.inl ⟨c64_14, rfl⟩) | exact cprm_y HC p27_7 p32_8 fun a b oa ob ha hb => cm_l 0 ((p57_13).2 (Or.inl rfl) _ _ oa ob ha hb) (Or.inl ⟨cpz_2 c1_1 c6_2 c36_9 c49_10, rfl⟩) (Or.inl ⟨c64_14, rfl⟩) | exact cprm_y HC p27_7 p32_8 fun a b oa ob ha hb => cm_z (r := 0) c36_9 (cm_0 1 (nokey_ _ _ ha hb) (Or.inr ⟨c64_14, rfl⟩)) | exact cprm_y HC p27_7 p32_8 fun a b oa ob ha hb => cm_l 1 ((p57_13).2 (Or.inr rfl) _ _ oa ob ha hb) (Or.inr ⟨c49_10, rfl⟩) (Or.inr ⟨c64_14, rfl⟩) | exact cprm_y HC p27_7 p32_8 fun a b oa ob ha hb => cm_l 1 ((p57_13).2 (Or.inl rfl) _ _ oa ob ha hb) (Or.inl ⟨cpz_2 c1_1 c6_2 c36_9 c49_10, rfl⟩) (Or.inr ⟨c64_14, rfl⟩))⟩
              · refine z_iconst (pc := 67) hZ 1 dM_compare_67 (by decide) ?_
                refine z_goto (pc := 68) hZ 72 dM_compare_68 (by decide) ?_
                exact z_reti (pc := 72) hZ dM_compare_72 .int rfl rfl ⟨_, rfl, _, _, _, _, _, _, _, _, _, rfl, rfl, (by first | exact cprm_y HC p27_7 p32_8 fun a b oa ob ha hb => cm_z (r := 0) c36_9 (cm_0 0 (nokey_ _ _ ha hb) (Or.inl ⟨c64_14, rfl⟩)) | exact cprm_y HC p27_7 p32_8 fun a b oa ob ha hb => cm_l 0 ((p57_13).2 (Or.inr rfl) _ _ oa ob ha hb) (Or.inr ⟨c49_10, rfl⟩) (Or.inl ⟨c64_14, rfl⟩) | exact cprm_y HC p27_7 p32_8 fun a b oa ob ha hb => cm_l 0 ((p57_13).2 (Or.inl rfl) _ _ oa ob ha hb) (Or.inl ⟨cpz_2 c1_1 c6_2 c36_9 c49_10, rfl⟩) (Or.inl ⟨c64_14, rfl⟩) | exact cprm_y HC p27_7 p32_8 fun a b oa ob ha hb => cm_z (r := 0) c36_9 (cm_0 1 (nokey_ _ _ ha hb) (Or.inr ⟨c64_14, rfl⟩)) | exact cprm_y HC p27_7 p32_8 fun a b oa ob ha hb => cm_l 1 ((p57_13).2 (Or.inr rfl) _ _ oa ob ha hb) (Or.inr ⟨c49_10, rfl⟩) (Or.inr ⟨c64_14, rfl⟩) | exact cprm_y HC p27_7 p32_8 fun a b oa ob ha hb => cm_l 1 ((p57_13).2 (Or.inl rfl) _ _ oa ob ha hb) (Or.inl ⟨cpz_2 c1_1 c6_2 c36_9 c49_10, rfl⟩) (Or.inr ⟨c64_14, rfl⟩))⟩
          · refine z_aload_n (pc := 39) hZ 0 dM_compare_39 rfl rfl ?_
            refine z_callV (pc := 40) (As := []) (rest := []) hZ (cM_isEqual l D cR c1 c2 c3 h0 a1 a2 a3 Y ka27_7 na27_7 ea27_7 kb32_8 nb32_8 eb32_8 k n e bits scale K N E ) zyM_isEqual (z_goodV ml_M_219 im_M_isEqual se_M_isEqual in_M co_M_isEqual) 0 rfl rfl rfl rfl (by decide) rfl rfl (Nat.le_of_ble_eq_true rfl) ⟨Nat.zero_le _, Nat.zero_le _⟩ dM_compare_40 (z_ki (fun r40_15 w1 tys1 hp => ?_))
            obtain ⟨rfl, rfl, p40_15⟩ := hp
            refine z_goto (pc := 43) hZ 60 dM_compare_43 (by decide) ?_
            refine z_istore (pc := 60) hZ [(4, .int r40_15), (0, .ref h0), (1, .int p1), (2, .int p2), (3, .int p3)] dM_compare_60 (by decide) rfl ?_
            refine z_iload (pc := 62) hZ 0 dM_compare_62 rfl ?_
            refine z_if_eq (pc := 64) hZ 71 dM_compare_64 (by decide) (fun c64_16 => ?_) (fun c64_16 => ?_)
            · refine z_iconst (pc := 71) hZ 0 dM_compare_71 (by decide) ?_
              exact z_reti (pc := 72) hZ dM_compare_72 .int rfl rfl ⟨_, rfl, _, _, _, _, _, _, _, _, _, rfl, rfl, (by first | exact cprm_y HC p27_7 p32_8 fun a b oa ob ha hb => cm_z (r := 0) c36_9 (cm_0 0 (p40_15 _ _ ha hb) (Or.inl ⟨c64_16, rfl⟩)) | exact cprm_y HC p27_7 p32_8 fun a b oa ob ha hb => cm_l 0 ((nokey_).2 (Or.inr rfl) _ _ oa ob ha hb) (Or.inr ⟨nokey_, rfl⟩) (Or.inl ⟨c64_16, rfl⟩) | exact cprm_y HC p27_7 p32_8 fun a b oa ob ha hb => cm_l 0 ((nokey_).2 (Or.inl rfl) _ _ oa ob ha hb) (Or.inl ⟨cpz_2 c1_1 c6_2 c36_9 nokey_, rfl⟩) (Or.inl ⟨c64_16, rfl⟩) | exact cprm_y HC p27_7 p32_8 fun a b oa ob ha hb => cm_z (r := 0) c36_9 (cm_0 1 (p40_15 _ _ ha hb) (Or.inr ⟨c64_16, rfl⟩)) | exact cprm_y HC p27_7 p32_8 fun a b oa ob ha hb => cm_l 1 ((nokey_).2 (Or.inr rfl) _ _ oa ob ha hb) (Or.inr ⟨nokey_, rfl⟩) (Or.inr ⟨c64_16, rfl⟩) | exact cprm_y HC p27_7 p32_8 fun a b oa ob ha hb => cm_l 1 ((nokey_).2 (Or.inl rfl) _ _ oa ob ha hb) (Or.inl ⟨cpz_2 c1_1 c6_2 c36_9 nokey_, rfl⟩) (Or.inr ⟨c64_16, rfl⟩))⟩
            · refine z_iconst (pc := 67) hZ 1 dM_compare_67 (by decide) ?_
              refine z_goto (pc := 68) hZ 72 dM_compare_68 (by decide) ?_
              exact z_reti (pc := 72) hZ dM_compare_72 .int rfl rfl ⟨_, rfl, _, _, _, _, _, _, _, _, _, rfl, rfl, (by first | exact cprm_y HC p27_7 p32_8 fun a b oa ob ha hb => cm_z (r := 0) c36_9 (cm_0 0 (p40_15 _ _ ha hb) (Or.inl ⟨c64_16, rfl⟩)) | exact cprm_y HC p27_7 p32_8 fun a b oa ob ha hb => cm_l 0 ((nokey_).2 (Or.inr rfl) _ _ oa ob ha hb) (Or.inr ⟨nokey_, rfl⟩) (Or.inl ⟨c64_16, rfl⟩) | exact cprm_y HC p27_7 p32_8 fun a b oa ob ha hb => cm_l 0 ((nokey_).2 (Or.inl rfl) _ _ oa ob ha hb) (Or.inl ⟨cpz_2 c1_1 c6_2 c36_9 nokey_, rfl⟩) (Or.inl ⟨c64_16, rfl⟩) | exact cprm_y HC p27_7 p32_8 fun a b oa ob ha hb => cm_z (r := 0) c36_9 (cm_0 1 (p40_15 _ _ ha hb) (Or.inr ⟨c64_16, rfl⟩)) | exact cprm_y HC p27_7 p32_8 fun a b oa ob ha hb => cm_l 1 ((nokey_).2 (Or.inr rfl) _ _ oa ob ha hb) (Or.inr ⟨nokey_, rfl⟩) (Or.inr ⟨c64_16, rfl⟩) | exact cprm_y HC p27_7 p32_8 fun a b oa ob ha hb => cm_l 1 ((nokey_).2 (Or.inl rfl) _ _ oa ob ha hb) (Or.inl ⟨cpz_2 c1_1 c6_2 c36_9 nokey_, rfl⟩) (Or.inr ⟨c64_16, rfl⟩))⟩
        · refine z_iconst (pc := 23) hZ (-1) dM_compare_23 (by decide) ?_
          exact z_reti (pc := 24) hZ dM_compare_24 .int rfl rfl ⟨_, rfl, _, _, _, _, _, _, _, _, _, rfl, rfl, (by first | exact cprm_n fun q => absurd c1_1 q.2.2.1 | exact cprm_n fun q => absurd c6_2 q.2.2.2 | exact cprm_n fun q => absurd q.1 (reg_no p10_3 c13_4) | exact cprm_n fun q => absurd q.2.1 (reg_no p17_5 c20_6))⟩
set_option maxHeartbeats 4000000 in
set_option maxRecDepth 100000 in
theorem cM_sum (l : Launch) (D : va_G) (cR c1 c2 c3 : ClassId) (h0 a1 a2 a3 : Nat) (Y : va_W) (ka : Int32) (na : Int64) (ea : Int32) (kb : Int32) (nb : Int64) (eb : Int32) (k : Int32) (n : Int64) (e : Int32) (bits : Int64) (scale : Int32) (K : Nat → Int32) (N : Nat → Int64) (E : Nat → Int32) (p1 : Int32) (p2 : Int32) (p3 : Int32) (hAK : AK K N E) : zM l D vwCl zNF zNM yM_sum wsM_sum { frames := 7, cells := 0, slots := 0, locals := 180 } [.ref h0, .int p1, .int p2, .int p3] (MW h0 a1 a2 a3 c1 c2 c3 (ka, na, ea, kb, nb, eb, k, n, e, bits, scale, K, N, E) ++ Y) (TY cR c1 c2 c3) (qI (fun r w' tys' => ∃ ka' : Int32, ∃ na' : Int64, ∃ ea' : Int32, ∃ kb' : Int32, ∃ nb' : Int64, ∃ eb' : Int32, ∃ k' : Int32, ∃ n' : Int64, ∃ e' : Int32, ∃ bits' : Int64, ∃ scale' : Int32, ∃ K' : Nat → Int32, ∃ N' : Nat → Int64, ∃ E' : Nat → Int32, MW h0 a1 a2 a3 c1 c2 c3 (ka', na', ea', kb', nb', eb', k', n', e', bits', scale', K', N', E') ++ Y = w' ∧ (TY cR c1 c2 c3) = tys' ∧ ((((vp_in p1 32 ∧ rowOK p2 p3) → r = 1) ∧ (¬ (vp_in p1 32 ∧ rowOK p2 p3) → r = 0)) ∧ AK K' N' E' ∧ STM K N E K' N' E' (vp_in p1 32 ∧ rowOK p2 p3) (sumT p1 p2 p3)))) := by
  refine z_met (cc := bM_sum) (maxL := 5) (ret := (some .boolean)) (isI := false) (own := RM) (by decide +kernel) rfl rfl (fun h => by cases h) (Nat.le_of_ble_eq_true rfl) (fun Z hZ => ?_)
  show Z 0 0 (TY cR c1 c2 c3) 0 [(0, .ref h0), (1, .int p1), (2, .int p2), (3, .int p3)] [] (MW h0 a1 a2 a3 c1 c2 c3 (ka, na, ea, kb, nb, eb, k, n, e, bits, scale, K, N, E) ++ Y)
  refine z_iload_n (pc := 0) hZ 1 dM_sum_0 rfl rfl ?_
  refine z_callS (pc := 1) (As := [.int p1]) (rest := []) hZ (cM_isRegister l D (TY cR c1 c2 c3) (MW h0 a1 a2 a3 c1 c2 c3 (ka, na, ea, kb, nb, eb, k, n, e, bits, scale, K, N, E) ++ Y) p1) zyM_isRegister (z_goodS ml_M_204 st_M_isRegister in_M co_M_isRegister) rfl rfl (by decide) rfl rfl (Nat.le_of_ble_eq_true rfl) ⟨Nat.zero_le _, Nat.zero_le _⟩ dM_sum_1 (z_ki (fun r1_1 w1 tys1 hp => ?_))
  obtain ⟨rfl, rfl, p1_1⟩ := hp
  refine z_if_eq (pc := 4) hZ 15 dM_sum_4 (by decide) (fun c4_2 => ?_) (fun c4_2 => ?_)
  · refine z_iconst (pc := 15) hZ 0 dM_sum_15 (by decide) ?_
    exact z_reti (pc := 16) hZ dM_sum_16 .boolean rfl rfl ⟨_, rfl, _, _, _, _, _, _, _, _, _, _, _, _, _, _, rfl, rfl, (by exact ⟨by first | exact ⟨fun _ => rfl, fun q => absurd (⟨reg_of (by assumption) (by assumption), row_of (by assumption) (by assumption)⟩) q⟩ | exact ⟨fun q => absurd q.1 (reg_no (by assumption) (by assumption)), fun _ => rfl⟩ | exact ⟨fun q => absurd q.2 (row_no (by assumption) (by assumption)), fun _ => rfl⟩, by first | exact AK_put hAK nokey_ v25 | exact hAK, by first | exact stm_n fun q => absurd q.1 (reg_no p1_1 c4_2) | exact stm_n fun q => absurd q.2 (row_no nokey_ nokey_) | exact stm_y ⟨(reg_of p1_1 c4_2), (row_of nokey_ nokey_)⟩ (smm_e s25 (clamp_e k25 nokey_) nokey_)⟩)⟩
  · refine z_iload_n (pc := 7) hZ 2 dM_sum_7 rfl rfl ?_
    refine z_iload_n (pc := 8) hZ 3 dM_sum_8 rfl rfl ?_
    refine z_callS (pc := 9) (As := [.int p2, .int p3]) (rest := []) hZ (cM_areRegisters l D (TY cR c1 c2 c3) (MW h0 a1 a2 a3 c1 c2 c3 (ka, na, ea, kb, nb, eb, k, n, e, bits, scale, K, N, E) ++ Y) p2 p3) zyM_areRegisters (z_goodS ml_M_226 st_M_areRegisters in_M co_M_areRegisters) rfl rfl (by decide) rfl rfl (Nat.le_of_ble_eq_true rfl) ⟨Nat.zero_le _, Nat.zero_le _⟩ dM_sum_9 (z_ki (fun r9_3 w1 tys1 hp => ?_))
    obtain ⟨rfl, rfl, p9_3⟩ := hp
    refine z_if_ne (pc := 12) hZ 17 dM_sum_12 (by decide) (fun c12_4 => ?_) (fun c12_4 => ?_)
    · refine z_aload_n (pc := 17) hZ 0 dM_sum_17 rfl rfl ?_
      refine z_lconst (pc := 18) hZ 0 dM_sum_18 (by decide) ?_
      refine z_callV (pc := 19) (As := [.long 0]) (rest := []) hZ (cM_setWhole l D cR c1 c2 c3 h0 a1 a2 a3 Y ka na ea kb nb eb k n e bits scale K N E 0) zyM_setWhole (z_goodV ml_M_134 im_M_setWhole se_M_setWhole in_M co_M_setWhole) 0 rfl rfl rfl rfl (by decide) rfl rfl (Nat.le_of_ble_eq_true rfl) ⟨Nat.zero_le _, Nat.zero_le _⟩ dM_sum_19 (z_kv (fun w1 tys1 hp => ?_))
      obtain ⟨k19_5, n19_5, e19_5, rfl, rfl, p19_5⟩ := hp
      refine z_iconst (pc := 22) hZ 0 dM_sum_22 (by decide) ?_
      refine z_istore (pc := 23) hZ [(4, .int 0), (0, .ref h0), (1, .int p1), (2, .int p2), (3, .int p3)] dM_sum_23 (by decide) rfl ?_
      have L25 : ∀ (N25 : Nat) (x4_25 : Int32) (bits_25 : Int64) (e_25 : Int32) (ea_25 : Int32) (eb_25 : Int32) (k_25 : Int32) (ka_25 : Int32) (kb_25 : Int32) (n_25 : Int64) (na_25 : Int64) (nb_25 : Int64) (scale_25 : Int32), ((p3).toInt - x4_25.toInt).toNat < N25 → (0 ≤ x4_25.toInt) → (VK k_25 n_25 e_25) → (x4_25.toInt ≤ p3.toInt) → (SMM K N E k_25 n_25 e_25 p2 x4_25) → Z 0 0 (TY cR c1 c2 c3) 25 [(4, .int x4_25), (0, .ref h0), (1, .int p1), (2, .int p2), (3, .int p3)] [] (MW h0 a1 a2 a3 c1 c2 c3 (ka_25, na_25, ea_25, kb_25, nb_25, eb_25, k_25, n_25, e_25, bits_25, scale_25, K, N, E) ++ Y) := by
        intro N25
        induction N25 with
        | zero => intro x4_25 bits_25 e_25 ea_25 eb_25 k_25 ka_25 kb_25 n_25 na_25 nb_25 scale_25 m25; exact absurd m25 (Nat.not_lt_zero _)
        | succ N25 ih25 =>
          intro x4_25 bits_25 e_25 ea_25 eb_25 k_25 ka_25 kb_25 n_25 na_25 nb_25 scale_25 m25 i25 v25 k25 s25
          refine z_iload (pc := 25) hZ 0 dM_sum_25 rfl ?_
          refine z_iload_n (pc := 27) hZ 4 dM_sum_27 rfl rfl ?_
          refine z_icmp_ge (pc := 28) hZ 55 dM_sum_28 (by decide) (fun c28_6 => ?_) (fun c28_6 => ?_)
          · refine z_aload_n (pc := 55) hZ 1 dM_sum_55 rfl rfl ?_
            refine z_iload_n (pc := 56) hZ 2 dM_sum_56 rfl rfl ?_
            refine z_callV (pc := 57) (As := [.int p1]) (rest := []) hZ (cM_put l D cR c1 c2 c3 h0 a1 a2 a3 Y ka_25 na_25 ea_25 kb_25 nb_25 eb_25 k_25 n_25 e_25 bits_25 scale_25 K N E p1 (by first | assumption | exact reg_of (by assumption) (by assumption))) zyM_put (z_goodV ml_M_207 im_M_put se_M_put in_M co_M_put) 0 rfl rfl rfl rfl (by decide) rfl rfl (Nat.le_of_ble_eq_true rfl) ⟨Nat.zero_le _, Nat.zero_le _⟩ dM_sum_57 (z_kv (fun w1 tys1 hp => ?_))
            obtain ⟨K57_7, N57_7, E57_7, rfl, rfl, p57_7⟩ := hp
            refine z_iconst (pc := 60) hZ 1 dM_sum_60 (by decide) ?_
            exact z_reti (pc := 61) hZ dM_sum_61 .boolean rfl rfl ⟨_, rfl, _, _, _, _, _, _, _, _, _, _, _, _, _, _, rfl, rfl, (by exact ⟨by first | exact ⟨fun _ => rfl, fun q => absurd (⟨reg_of (by assumption) (by assumption), row_of (by assumption) (by assumption)⟩) q⟩ | exact ⟨fun q => absurd q.1 (reg_no (by assumption) (by assumption)), fun _ => rfl⟩ | exact ⟨fun q => absurd q.2 (row_no (by assumption) (by assumption)), fun _ => rfl⟩, by first | exact AK_put hAK p57_7 v25 | exact hAK, by first | exact stm_n fun q => absurd q.1 (reg_no p1_1 c4_2) | exact stm_n fun q => absurd q.2 (row_no p9_3 c12_4) | exact stm_y ⟨(reg_of p1_1 c4_2), (row_of p9_3 c12_4)⟩ (smm_e s25 (clamp_e k25 c28_6) p57_7)⟩)⟩
          · refine z_aload_n (pc := 31) hZ 1 dM_sum_31 rfl rfl ?_
            refine z_callV (pc := 32) (As := []) (rest := []) hZ (cM_resultToA l D cR c1 c2 c3 h0 a1 a2 a3 Y ka_25 na_25 ea_25 kb_25 nb_25 eb_25 k_25 n_25 e_25 bits_25 scale_25 K N E ) zyM_resultToA (z_goodV ml_M_72 im_M_resultToA se_M_resultToA in_M co_M_resultToA) 0 rfl rfl rfl rfl (by decide) rfl rfl (Nat.le_of_ble_eq_true rfl) ⟨Nat.zero_le _, Nat.zero_le _⟩ dM_sum_32 (z_kv (fun w1 tys1 hp => ?_))
            obtain ⟨ka32_8, na32_8, ea32_8, rfl, rfl, p32_8⟩ := hp
            refine z_aload_n (pc := 35) hZ 1 dM_sum_35 rfl rfl ?_
            refine z_iload_n (pc := 36) hZ 3 dM_sum_36 rfl rfl ?_
            refine z_iload (pc := 37) hZ 0 dM_sum_37 rfl ?_
            refine z_iadd (pc := 39) hZ dM_sum_39 (fun v39_9 ev39_9 => ?_)
            refine z_callV (pc := 40) (As := [.int v39_9]) (rest := []) hZ (cM_takeB l D cR c1 c2 c3 h0 a1 a2 a3 Y ka32_8 na32_8 ea32_8 kb_25 nb_25 eb_25 k_25 n_25 e_25 bits_25 scale_25 K N E v39_9 (by exact sum_idx (a := p2) (n := p3) (i := x4_25) (row_of p9_3 c12_4) i25 c28_6 ev39_9)) zyM_takeB (z_goodV ml_M_213 im_M_takeB se_M_takeB in_M co_M_takeB) 0 rfl rfl rfl rfl (by decide) rfl rfl (Nat.le_of_ble_eq_true rfl) ⟨Nat.zero_le _, Nat.zero_le _⟩ dM_sum_40 (z_kv (fun w1 tys1 hp => ?_))
            obtain ⟨kb40_10, nb40_10, eb40_10, rfl, rfl, p40_10⟩ := hp
            refine z_aload_n (pc := 43) hZ 1 dM_sum_43 rfl rfl ?_
            refine z_iconst (pc := 44) hZ 0 dM_sum_44 (by decide) ?_
            refine z_callV (pc := 45) (As := [.int 0]) (rest := []) hZ (cM_operation l D cR c1 c2 c3 h0 a1 a2 a3 Y ka32_8 na32_8 ea32_8 kb40_10 nb40_10 eb40_10 k_25 n_25 e_25 bits_25 scale_25 K N E 0 (by exact VK_eq p32_8 v25) (by exact AK_at hAK (sum_idx (a := p2) (n := p3) (i := x4_25) (row_of p9_3 c12_4) i25 c28_6 ev39_9) p40_10) (by decide)) zyM_operation (z_goodV ml_M_216 im_M_operation se_M_operation in_M co_M_operation) 0 rfl rfl rfl rfl (by decide) rfl rfl (Nat.le_of_ble_eq_true rfl) ⟨Nat.zero_le _, Nat.zero_le _⟩ dM_sum_45 (z_ki (fun r45_11 w1 tys1 hp => ?_))
            obtain ⟨ka45_11, na45_11, ea45_11, kb45_11, nb45_11, eb45_11, k45_11, n45_11, e45_11, bits45_11, scale45_11, rfl, rfl, p45_11⟩ := hp
            refine z_pop (pc := 48) hZ dM_sum_48 rfl ?_
            refine z_iinc (pc := 49) hZ 0 (fun v9 => [(4, .int v9), (0, .ref h0), (1, .int p1), (2, .int p2), (3, .int p3)]) dM_sum_49 rfl (by decide) (fun _ => rfl) (fun v49_12 ev49_12 => ?_)
            refine z_goto (pc := 52) hZ 25 dM_sum_52 (by decide) ?_
            exact z_sub (pc := 25) hZ [0, 1, 2, 3, 4] rfl (ih25 v49_12 bits45_11 e45_11 ea45_11 eb45_11 k45_11 ka45_11 kb45_11 n45_11 na45_11 nb45_11 scale45_11 (by exact Nat.lt_of_lt_of_le (dec_up (x := x4_25) (b := p3) (by assumption) (by assumption)) (Nat.le_of_lt_succ m25)) (by exact inc_nn (n := p3) (i := x4_25) i25 c28_6 ev49_12) (by exact (((p45_11).1)).2 v25) (by exact inc_le (n := p3) (i := x4_25) i25 c28_6 ev49_12) (by exact smm_s s25 (row_of p9_3 c12_4) i25 c28_6 p32_8 ev39_9 p40_10 (p45_11).2 ev49_12))
      exact z_sub (pc := 25) hZ [0, 1, 2, 3, 4] rfl (L25 _ 0 bits e19_5 ea eb k19_5 ka kb n19_5 na nb scale (Nat.lt_succ_self _) (by decide) (by exact Or.inl (p19_5).1) (by exact row_n (row_of p9_3 c12_4)) (by exact smm_0 p19_5))
    · refine z_iconst (pc := 15) hZ 0 dM_sum_15 (by decide) ?_
      exact z_reti (pc := 16) hZ dM_sum_16 .boolean rfl rfl ⟨_, rfl, _, _, _, _, _, _, _, _, _, _, _, _, _, _, rfl, rfl, (by exact ⟨by first | exact ⟨fun _ => rfl, fun q => absurd (⟨reg_of (by assumption) (by assumption), row_of (by assumption) (by assumption)⟩) q⟩ | exact ⟨fun q => absurd q.1 (reg_no (by assumption) (by assumption)), fun _ => rfl⟩ | exact ⟨fun q => absurd q.2 (row_no (by assumption) (by assumption)), fun _ => rfl⟩, by first | exact AK_put hAK nokey_ v25 | exact hAK, by first | exact stm_n fun q => absurd q.1 (reg_no p1_1 c4_2) | exact stm_n fun q => absurd q.2 (row_no p9_3 c12_4) | exact stm_y ⟨(reg_of p1_1 c4_2), (row_of p9_3 c12_4)⟩ (smm_e s25 (clamp_e k25 nokey_) nokey_)⟩)⟩
set_option maxHeartbeats 4000000 in
set_option maxRecDepth 100000 in
theorem cM_polynomial (l : Launch) (D : va_G) (cR c1 c2 c3 : ClassId) (h0 a1 a2 a3 : Nat) (Y : va_W) (ka : Int32) (na : Int64) (ea : Int32) (kb : Int32) (nb : Int64) (eb : Int32) (k : Int32) (n : Int64) (e : Int32) (bits : Int64) (scale : Int32) (K : Nat → Int32) (N : Nat → Int64) (E : Nat → Int32) (p1 : Int32) (p2 : Int32) (p3 : Int32) (p4 : Int32) (hAK : AK K N E) : zM l D vwCl zNF zNM yM_polynomial wsM_polynomial { frames := 7, cells := 0, slots := 0, locals := 180 } [.ref h0, .int p1, .int p2, .int p3, .int p4] (MW h0 a1 a2 a3 c1 c2 c3 (ka, na, ea, kb, nb, eb, k, n, e, bits, scale, K, N, E) ++ Y) (TY cR c1 c2 c3) (qI (fun r w' tys' => ∃ ka' : Int32, ∃ na' : Int64, ∃ ea' : Int32, ∃ kb' : Int32, ∃ nb' : Int64, ∃ eb' : Int32, ∃ k' : Int32, ∃ n' : Int64, ∃ e' : Int32, ∃ bits' : Int64, ∃ scale' : Int32, ∃ K' : Nat → Int32, ∃ N' : Nat → Int64, ∃ E' : Nat → Int32, MW h0 a1 a2 a3 c1 c2 c3 (ka', na', ea', kb', nb', eb', k', n', e', bits', scale', K', N', E') ++ Y = w' ∧ (TY cR c1 c2 c3) = tys' ∧ ((((vp_in p1 32 ∧ vp_in p2 32 ∧ rowOK p3 p4) → r = 1) ∧ (¬ (vp_in p1 32 ∧ vp_in p2 32 ∧ rowOK p3 p4) → r = 0)) ∧ AK K' N' E' ∧ STM K N E K' N' E' (vp_in p1 32 ∧ vp_in p2 32 ∧ rowOK p3 p4) (polT p1 p2 p3 p4)))) := by
  refine z_met (cc := bM_polynomial) (maxL := 6) (ret := (some .boolean)) (isI := false) (own := RM) (by decide +kernel) rfl rfl (fun h => by cases h) (Nat.le_of_ble_eq_true rfl) (fun Z hZ => ?_)
  show Z 0 0 (TY cR c1 c2 c3) 0 [(0, .ref h0), (1, .int p1), (2, .int p2), (3, .int p3), (4, .int p4)] [] (MW h0 a1 a2 a3 c1 c2 c3 (ka, na, ea, kb, nb, eb, k, n, e, bits, scale, K, N, E) ++ Y)
  refine z_iload_n (pc := 0) hZ 1 dM_polynomial_0 rfl rfl ?_
  refine z_callS (pc := 1) (As := [.int p1]) (rest := []) hZ (cM_isRegister l D (TY cR c1 c2 c3) (MW h0 a1 a2 a3 c1 c2 c3 (ka, na, ea, kb, nb, eb, k, n, e, bits, scale, K, N, E) ++ Y) p1) zyM_isRegister (z_goodS ml_M_204 st_M_isRegister in_M co_M_isRegister) rfl rfl (by decide) rfl rfl (Nat.le_of_ble_eq_true rfl) ⟨Nat.zero_le _, Nat.zero_le _⟩ dM_polynomial_1 (z_ki (fun r1_1 w1 tys1 hp => ?_))
  obtain ⟨rfl, rfl, p1_1⟩ := hp
  refine z_if_eq (pc := 4) hZ 23 dM_polynomial_4 (by decide) (fun c4_2 => ?_) (fun c4_2 => ?_)
  · refine z_iconst (pc := 23) hZ 0 dM_polynomial_23 (by decide) ?_
    exact z_reti (pc := 24) hZ dM_polynomial_24 .boolean rfl rfl ⟨_, rfl, _, _, _, _, _, _, _, _, _, _, _, _, _, _, rfl, rfl, (by exact ⟨by first | exact ⟨fun _ => rfl, fun q => absurd (⟨reg_of (by assumption) (by assumption), reg_of (by assumption) (by assumption), row_of (by assumption) (by assumption)⟩) q⟩ | exact ⟨fun q => absurd q.1 (reg_no (by assumption) (by assumption)), fun _ => rfl⟩ | exact ⟨fun q => absurd q.2.1 (reg_no (by assumption) (by assumption)), fun _ => rfl⟩ | exact ⟨fun q => absurd q.2.2 (row_no (by assumption) (by assumption)), fun _ => rfl⟩, by first | exact AK_put hAK nokey_ v36 | exact hAK, by first | exact stm_n fun q => absurd q.1 (reg_no p1_1 c4_2) | exact stm_n fun q => absurd q.2.1 (reg_no nokey_ nokey_) | exact stm_n fun q => absurd q.2.2 (row_no nokey_ nokey_) | exact stm_y ⟨(reg_of p1_1 c4_2), reg_of nokey_ nokey_, (row_of nokey_ nokey_)⟩ (plm_e q36 (row_of nokey_ nokey_) k36 nokey_ nokey_)⟩)⟩
  · refine z_iload_n (pc := 7) hZ 2 dM_polynomial_7 rfl rfl ?_
    refine z_callS (pc := 8) (As := [.int p2]) (rest := []) hZ (cM_isRegister l D (TY cR c1 c2 c3) (MW h0 a1 a2 a3 c1 c2 c3 (ka, na, ea, kb, nb, eb, k, n, e, bits, scale, K, N, E) ++ Y) p2) zyM_isRegister (z_goodS ml_M_204 st_M_isRegister in_M co_M_isRegister) rfl rfl (by decide) rfl rfl (Nat.le_of_ble_eq_true rfl) ⟨Nat.zero_le _, Nat.zero_le _⟩ dM_polynomial_8 (z_ki (fun r8_3 w1 tys1 hp => ?_))
    obtain ⟨rfl, rfl, p8_3⟩ := hp
    refine z_if_eq (pc := 11) hZ 23 dM_polynomial_11 (by decide) (fun c11_4 => ?_) (fun c11_4 => ?_)
    · refine z_iconst (pc := 23) hZ 0 dM_polynomial_23 (by decide) ?_
      exact z_reti (pc := 24) hZ dM_polynomial_24 .boolean rfl rfl ⟨_, rfl, _, _, _, _, _, _, _, _, _, _, _, _, _, _, rfl, rfl, (by exact ⟨by first | exact ⟨fun _ => rfl, fun q => absurd (⟨reg_of (by assumption) (by assumption), reg_of (by assumption) (by assumption), row_of (by assumption) (by assumption)⟩) q⟩ | exact ⟨fun q => absurd q.1 (reg_no (by assumption) (by assumption)), fun _ => rfl⟩ | exact ⟨fun q => absurd q.2.1 (reg_no (by assumption) (by assumption)), fun _ => rfl⟩ | exact ⟨fun q => absurd q.2.2 (row_no (by assumption) (by assumption)), fun _ => rfl⟩, by first | exact AK_put hAK nokey_ v36 | exact hAK, by first | exact stm_n fun q => absurd q.1 (reg_no p1_1 c4_2) | exact stm_n fun q => absurd q.2.1 (reg_no p8_3 c11_4) | exact stm_n fun q => absurd q.2.2 (row_no nokey_ nokey_) | exact stm_y ⟨(reg_of p1_1 c4_2), reg_of p8_3 c11_4, (row_of nokey_ nokey_)⟩ (plm_e q36 (row_of nokey_ nokey_) k36 nokey_ nokey_)⟩)⟩
    · refine z_iload_n (pc := 14) hZ 3 dM_polynomial_14 rfl rfl ?_
      refine z_iload (pc := 15) hZ 4 dM_polynomial_15 rfl ?_
      refine z_callS (pc := 17) (As := [.int p3, .int p4]) (rest := []) hZ (cM_areRegisters l D (TY cR c1 c2 c3) (MW h0 a1 a2 a3 c1 c2 c3 (ka, na, ea, kb, nb, eb, k, n, e, bits, scale, K, N, E) ++ Y) p3 p4) zyM_areRegisters (z_goodS ml_M_226 st_M_areRegisters in_M co_M_areRegisters) rfl rfl (by decide) rfl rfl (Nat.le_of_ble_eq_true rfl) ⟨Nat.zero_le _, Nat.zero_le _⟩ dM_polynomial_17 (z_ki (fun r17_5 w1 tys1 hp => ?_))
      obtain ⟨rfl, rfl, p17_5⟩ := hp
      refine z_if_ne (pc := 20) hZ 25 dM_polynomial_20 (by decide) (fun c20_6 => ?_) (fun c20_6 => ?_)
      · refine z_aload_n (pc := 25) hZ 0 dM_polynomial_25 rfl rfl ?_
        refine z_lconst (pc := 26) hZ 0 dM_polynomial_26 (by decide) ?_
        refine z_callV (pc := 27) (As := [.long 0]) (rest := []) hZ (cM_setWhole l D cR c1 c2 c3 h0 a1 a2 a3 Y ka na ea kb nb eb k n e bits scale K N E 0) zyM_setWhole (z_goodV ml_M_134 im_M_setWhole se_M_setWhole in_M co_M_setWhole) 0 rfl rfl rfl rfl (by decide) rfl rfl (Nat.le_of_ble_eq_true rfl) ⟨Nat.zero_le _, Nat.zero_le _⟩ dM_polynomial_27 (z_kv (fun w1 tys1 hp => ?_))
        obtain ⟨k27_7, n27_7, e27_7, rfl, rfl, p27_7⟩ := hp
        refine z_iload (pc := 30) hZ 4 dM_polynomial_30 rfl ?_
        refine z_iconst (pc := 32) hZ 1 dM_polynomial_32 (by decide) ?_
        refine z_isub (pc := 33) hZ dM_polynomial_33 (fun v33_8 ev33_8 => ?_)
        refine z_istore (pc := 34) hZ [(5, .int v33_8), (0, .ref h0), (1, .int p1), (2, .int p2), (3, .int p3), (4, .int p4)] dM_polynomial_34 (by decide) rfl ?_
        have L36 : ∀ (N36 : Nat) (x5_36 : Int32) (bits_36 : Int64) (e_36 : Int32) (ea_36 : Int32) (eb_36 : Int32) (k_36 : Int32) (ka_36 : Int32) (kb_36 : Int32) (n_36 : Int64) (na_36 : Int64) (nb_36 : Int64) (scale_36 : Int32), (x5_36.toInt + 1).toNat < N36 → (x5_36.toInt < p4.toInt) → (VK k_36 n_36 e_36) → (-1 ≤ x5_36.toInt) → (PLM K N E k_36 n_36 e_36 p2 p3 p4 x5_36) → Z 0 0 (TY cR c1 c2 c3) 36 [(5, .int x5_36), (0, .ref h0), (1, .int p1), (2, .int p2), (3, .int p3)] [] (MW h0 a1 a2 a3 c1 c2 c3 (ka_36, na_36, ea_36, kb_36, nb_36, eb_36, k_36, n_36, e_36, bits_36, scale_36, K, N, E) ++ Y) := by
          intro N36
          induction N36 with
          | zero => intro x5_36 bits_36 e_36 ea_36 eb_36 k_36 ka_36 kb_36 n_36 na_36 nb_36 scale_36 m36; exact absurd m36 (Nat.not_lt_zero _)
          | succ N36 ih36 =>
            intro x5_36 bits_36 e_36 ea_36 eb_36 k_36 ka_36 kb_36 n_36 na_36 nb_36 scale_36 m36 i36 v36 k36 q36
            refine z_iload (pc := 36) hZ 0 dM_polynomial_36 rfl ?_
            refine z_if_lt (pc := 38) hZ 80 dM_polynomial_38 (by decide) (fun c38_9 => ?_) (fun c38_9 => ?_)
            · refine z_aload_n (pc := 80) hZ 1 dM_polynomial_80 rfl rfl ?_
              refine z_iload_n (pc := 81) hZ 2 dM_polynomial_81 rfl rfl ?_
              refine z_callV (pc := 82) (As := [.int p1]) (rest := []) hZ (cM_put l D cR c1 c2 c3 h0 a1 a2 a3 Y ka_36 na_36 ea_36 kb_36 nb_36 eb_36 k_36 n_36 e_36 bits_36 scale_36 K N E p1 (by first | assumption | exact reg_of (by assumption) (by assumption))) zyM_put (z_goodV ml_M_207 im_M_put se_M_put in_M co_M_put) 0 rfl rfl rfl rfl (by decide) rfl rfl (Nat.le_of_ble_eq_true rfl) ⟨Nat.zero_le _, Nat.zero_le _⟩ dM_polynomial_82 (z_kv (fun w1 tys1 hp => ?_))
              obtain ⟨K82_10, N82_10, E82_10, rfl, rfl, p82_10⟩ := hp
              refine z_iconst (pc := 85) hZ 1 dM_polynomial_85 (by decide) ?_
              exact z_reti (pc := 86) hZ dM_polynomial_86 .boolean rfl rfl ⟨_, rfl, _, _, _, _, _, _, _, _, _, _, _, _, _, _, rfl, rfl, (by exact ⟨by first | exact ⟨fun _ => rfl, fun q => absurd (⟨reg_of (by assumption) (by assumption), reg_of (by assumption) (by assumption), row_of (by assumption) (by assumption)⟩) q⟩ | exact ⟨fun q => absurd q.1 (reg_no (by assumption) (by assumption)), fun _ => rfl⟩ | exact ⟨fun q => absurd q.2.1 (reg_no (by assumption) (by assumption)), fun _ => rfl⟩ | exact ⟨fun q => absurd q.2.2 (row_no (by assumption) (by assumption)), fun _ => rfl⟩, by first | exact AK_put hAK p82_10 v36 | exact hAK, by first | exact stm_n fun q => absurd q.1 (reg_no p1_1 c4_2) | exact stm_n fun q => absurd q.2.1 (reg_no p8_3 c11_4) | exact stm_n fun q => absurd q.2.2 (row_no p17_5 c20_6) | exact stm_y ⟨(reg_of p1_1 c4_2), reg_of p8_3 c11_4, (row_of p17_5 c20_6)⟩ (plm_e q36 (row_of p17_5 c20_6) k36 c38_9 p82_10)⟩)⟩
            · refine z_aload_n (pc := 41) hZ 1 dM_polynomial_41 rfl rfl ?_
              refine z_callV (pc := 42) (As := []) (rest := []) hZ (cM_resultToA l D cR c1 c2 c3 h0 a1 a2 a3 Y ka_36 na_36 ea_36 kb_36 nb_36 eb_36 k_36 n_36 e_36 bits_36 scale_36 K N E ) zyM_resultToA (z_goodV ml_M_72 im_M_resultToA se_M_resultToA in_M co_M_resultToA) 0 rfl rfl rfl rfl (by decide) rfl rfl (Nat.le_of_ble_eq_true rfl) ⟨Nat.zero_le _, Nat.zero_le _⟩ dM_polynomial_42 (z_kv (fun w1 tys1 hp => ?_))
              obtain ⟨ka42_11, na42_11, ea42_11, rfl, rfl, p42_11⟩ := hp
              refine z_aload_n (pc := 45) hZ 1 dM_polynomial_45 rfl rfl ?_
              refine z_iload_n (pc := 46) hZ 3 dM_polynomial_46 rfl rfl ?_
              refine z_callV (pc := 47) (As := [.int p2]) (rest := []) hZ (cM_takeB l D cR c1 c2 c3 h0 a1 a2 a3 Y ka42_11 na42_11 ea42_11 kb_36 nb_36 eb_36 k_36 n_36 e_36 bits_36 scale_36 K N E p2 (by exact reg_of p8_3 c11_4)) zyM_takeB (z_goodV ml_M_213 im_M_takeB se_M_takeB in_M co_M_takeB) 0 rfl rfl rfl rfl (by decide) rfl rfl (Nat.le_of_ble_eq_true rfl) ⟨Nat.zero_le _, Nat.zero_le _⟩ dM_polynomial_47 (z_kv (fun w1 tys1 hp => ?_))
              obtain ⟨kb47_12, nb47_12, eb47_12, rfl, rfl, p47_12⟩ := hp
              refine z_aload_n (pc := 50) hZ 1 dM_polynomial_50 rfl rfl ?_
              refine z_iconst (pc := 51) hZ 2 dM_polynomial_51 (by decide) ?_
              refine z_callV (pc := 52) (As := [.int 2]) (rest := []) hZ (cM_operation l D cR c1 c2 c3 h0 a1 a2 a3 Y ka42_11 na42_11 ea42_11 kb47_12 nb47_12 eb47_12 k_36 n_36 e_36 bits_36 scale_36 K N E 2 (by exact VK_eq p42_11 v36) (by exact AK_at hAK (reg_of p8_3 c11_4) p47_12) (by decide)) zyM_operation (z_goodV ml_M_216 im_M_operation se_M_operation in_M co_M_operation) 0 rfl rfl rfl rfl (by decide) rfl rfl (Nat.le_of_ble_eq_true rfl) ⟨Nat.zero_le _, Nat.zero_le _⟩ dM_polynomial_52 (z_ki (fun r52_13 w1 tys1 hp => ?_))
              obtain ⟨ka52_13, na52_13, ea52_13, kb52_13, nb52_13, eb52_13, k52_13, n52_13, e52_13, bits52_13, scale52_13, rfl, rfl, p52_13⟩ := hp
              refine z_pop (pc := 55) hZ dM_polynomial_55 rfl ?_
              refine z_aload_n (pc := 56) hZ 1 dM_polynomial_56 rfl rfl ?_
              refine z_callV (pc := 57) (As := []) (rest := []) hZ (cM_resultToA l D cR c1 c2 c3 h0 a1 a2 a3 Y ka52_13 na52_13 ea52_13 kb52_13 nb52_13 eb52_13 k52_13 n52_13 e52_13 bits52_13 scale52_13 K N E ) zyM_resultToA (z_goodV ml_M_72 im_M_resultToA se_M_resultToA in_M co_M_resultToA) 0 rfl rfl rfl rfl (by decide) rfl rfl (Nat.le_of_ble_eq_true rfl) ⟨Nat.zero_le _, Nat.zero_le _⟩ dM_polynomial_57 (z_kv (fun w1 tys1 hp => ?_))
              obtain ⟨ka57_14, na57_14, ea57_14, rfl, rfl, p57_14⟩ := hp
              refine z_aload_n (pc := 60) hZ 1 dM_polynomial_60 rfl rfl ?_
              refine z_iload_n (pc := 61) hZ 4 dM_polynomial_61 rfl rfl ?_
              refine z_iload (pc := 62) hZ 0 dM_polynomial_62 rfl ?_
              refine z_iadd (pc := 64) hZ dM_polynomial_64 (fun v64_15 ev64_15 => ?_)
              refine z_callV (pc := 65) (As := [.int v64_15]) (rest := []) hZ (cM_takeB l D cR c1 c2 c3 h0 a1 a2 a3 Y ka57_14 na57_14 ea57_14 kb52_13 nb52_13 eb52_13 k52_13 n52_13 e52_13 bits52_13 scale52_13 K N E v64_15 (by exact (pol_idx (a := p3) (n := p4) (i := x5_36) (row_of p17_5 c20_6) i36 c38_9 ev64_15))) zyM_takeB (z_goodV ml_M_213 im_M_takeB se_M_takeB in_M co_M_takeB) 0 rfl rfl rfl rfl (by decide) rfl rfl (Nat.le_of_ble_eq_true rfl) ⟨Nat.zero_le _, Nat.zero_le _⟩ dM_polynomial_65 (z_kv (fun w1 tys1 hp => ?_))
              obtain ⟨kb65_16, nb65_16, eb65_16, rfl, rfl, p65_16⟩ := hp
              refine z_aload_n (pc := 68) hZ 1 dM_polynomial_68 rfl rfl ?_
              refine z_iconst (pc := 69) hZ 0 dM_polynomial_69 (by decide) ?_
              refine z_callV (pc := 70) (As := [.int 0]) (rest := []) hZ (cM_operation l D cR c1 c2 c3 h0 a1 a2 a3 Y ka57_14 na57_14 ea57_14 kb65_16 nb65_16 eb65_16 k52_13 n52_13 e52_13 bits52_13 scale52_13 K N E 0 (by exact VK_eq p57_14 ((((p52_13).1)).2 v36)) (by exact AK_at hAK (pol_idx (a := p3) (n := p4) (i := x5_36) (row_of p17_5 c20_6) i36 c38_9 ev64_15) p65_16) (by decide)) zyM_operation (z_goodV ml_M_216 im_M_operation se_M_operation in_M co_M_operation) 0 rfl rfl rfl rfl (by decide) rfl rfl (Nat.le_of_ble_eq_true rfl) ⟨Nat.zero_le _, Nat.zero_le _⟩ dM_polynomial_70 (z_ki (fun r70_17 w1 tys1 hp => ?_))
              obtain ⟨ka70_17, na70_17, ea70_17, kb70_17, nb70_17, eb70_17, k70_17, n70_17, e70_17, bits70_17, scale70_17, rfl, rfl, p70_17⟩ := hp
              refine z_pop (pc := 73) hZ dM_polynomial_73 rfl ?_
              refine z_iinc (pc := 74) hZ 0 (fun v9 => [(5, .int v9), (0, .ref h0), (1, .int p1), (2, .int p2), (3, .int p3)]) dM_polynomial_74 rfl (by decide) (fun _ => rfl) (fun v74_18 ev74_18 => ?_)
              refine z_goto (pc := 77) hZ 36 dM_polynomial_77 (by decide) ?_
              exact z_sub (pc := 36) hZ [0, 1, 2, 3, 4] rfl (ih36 v74_18 bits70_17 e70_17 ea70_17 eb70_17 k70_17 ka70_17 kb70_17 n70_17 na70_17 nb70_17 scale70_17 (by exact Nat.lt_of_lt_of_le (pol_m (i := x5_36) c38_9 ev74_18) (Nat.le_of_lt_succ m36)) (by exact pol_n (i := x5_36) i36 c38_9 ev74_18) (by exact (((p70_17).1)).2 ((((p52_13).1)).2 v36)) (by exact dec_m1 (i := x5_36) c38_9 ev74_18) (by exact plm_s q36 (row_of p17_5 c20_6) (reg_of p8_3 c11_4) i36 c38_9 p42_11 p47_12 (p52_13).2 p57_14 ev64_15 p65_16 (p70_17).2 ev74_18))
        exact z_sub (pc := 36) hZ [0, 1, 2, 3, 4] rfl (L36 _ v33_8 bits e27_7 ea eb k27_7 ka kb n27_7 na nb scale (Nat.lt_succ_self _) (by exact pol_0 (a := p3) (row_of p17_5 c20_6) ev33_8) (by exact Or.inl (p27_7).1) (by exact pol_m1 (row_of p17_5 c20_6) ev33_8) (by exact plm_0 (row_of p17_5 c20_6) p27_7 ev33_8))
      · refine z_iconst (pc := 23) hZ 0 dM_polynomial_23 (by decide) ?_
        exact z_reti (pc := 24) hZ dM_polynomial_24 .boolean rfl rfl ⟨_, rfl, _, _, _, _, _, _, _, _, _, _, _, _, _, _, rfl, rfl, (by exact ⟨by first | exact ⟨fun _ => rfl, fun q => absurd (⟨reg_of (by assumption) (by assumption), reg_of (by assumption) (by assumption), row_of (by assumption) (by assumption)⟩) q⟩ | exact ⟨fun q => absurd q.1 (reg_no (by assumption) (by assumption)), fun _ => rfl⟩ | exact ⟨fun q => absurd q.2.1 (reg_no (by assumption) (by assumption)), fun _ => rfl⟩ | exact ⟨fun q => absurd q.2.2 (row_no (by assumption) (by assumption)), fun _ => rfl⟩, by first | exact AK_put hAK nokey_ v36 | exact hAK, by first | exact stm_n fun q => absurd q.1 (reg_no p1_1 c4_2) | exact stm_n fun q => absurd q.2.1 (reg_no p8_3 c11_4) | exact stm_n fun q => absurd q.2.2 (row_no p17_5 c20_6) | exact stm_y ⟨(reg_of p1_1 c4_2), reg_of p8_3 c11_4, (row_of p17_5 c20_6)⟩ (plm_e q36 (row_of p17_5 c20_6) k36 nokey_ nokey_)⟩)⟩
set_option maxHeartbeats 4000000 in
set_option maxRecDepth 100000 in
theorem cM_isBefore (l : Launch) (D : va_G) (cR c1 c2 c3 : ClassId) (h0 a1 a2 a3 : Nat) (Y : va_W) (ka : Int32) (na : Int64) (ea : Int32) (kb : Int32) (nb : Int64) (eb : Int32) (k : Int32) (n : Int64) (e : Int32) (bits : Int64) (scale : Int32) (K : Nat → Int32) (N : Nat → Int64) (E : Nat → Int32) (p1 : Int32) (p2 : Int32) (hAK : AK K N E) (h1i : vp_in p1 32) (h2i : vp_in p2 32) : zM l D vwCl zNF zNM yM_isBefore wsM_isBefore { frames := 6, cells := 0, slots := 0, locals := 163 } [.ref h0, .int p1, .int p2] (MW h0 a1 a2 a3 c1 c2 c3 (ka, na, ea, kb, nb, eb, k, n, e, bits, scale, K, N, E) ++ Y) (TY cR c1 c2 c3) (qI (fun r w' tys' => ∃ ka' : Int32, ∃ na' : Int64, ∃ ea' : Int32, ∃ kb' : Int32, ∃ nb' : Int64, ∃ eb' : Int32, ∃ k' : Int32, ∃ n' : Int64, ∃ e' : Int32, MW h0 a1 a2 a3 c1 c2 c3 (ka', na', ea', kb', nb', eb', k', n', e', bits, scale, K, N, E) ++ Y = w' ∧ (TY cR c1 c2 c3) = tys' ∧ (BFM K N E p1 p2 r))) := by
  refine z_met (cc := bM_isBefore) (maxL := 3) (ret := (some .boolean)) (isI := false) (own := RM) (by decide +kernel) rfl rfl (fun h => by cases h) (Nat.le_of_ble_eq_true rfl) (fun Z hZ => ?_)
  show Z 0 0 (TY cR c1 c2 c3) 0 [(0, .ref h0), (1, .int p1), (2, .int p2)] [] (MW h0 a1 a2 a3 c1 c2 c3 (ka, na, ea, kb, nb, eb, k, n, e, bits, scale, K, N, E) ++ Y)
  refine z_aload_n (pc := 0) hZ 0 dM_isBefore_0 rfl rfl ?_
  refine z_get (pc := 1) (ci := 2) hZ 0 rfl rfl uc_M 0 (by decide) (zb fl_M_7) rfl dM_isBefore_1 ?_
  refine z_iload_n (pc := 4) hZ 1 dM_isBefore_4 rfl rfl ?_
  refine z_iald (pc := 5) hZ 1 1 rfl rfl (by assumption) dM_isBefore_5 (fun v5_1 ev5_1 => ?_)
  refine z_iconst (pc := 6) hZ 5 dM_isBefore_6 (by decide) ?_
  refine z_icmp_eq (pc := 7) hZ 20 dM_isBefore_7 (by decide) (fun c7_2 => ?_) (fun c7_2 => ?_)
  · refine z_aload_n (pc := 20) hZ 0 dM_isBefore_20 rfl rfl ?_
    refine z_get (pc := 21) (ci := 2) hZ 0 rfl rfl uc_M 0 (by decide) (zb fl_M_7) rfl dM_isBefore_21 ?_
    refine z_iload_n (pc := 24) hZ 1 dM_isBefore_24 rfl rfl ?_
    refine z_iald (pc := 25) hZ 1 1 rfl rfl (by assumption) dM_isBefore_25 (fun v25_3 ev25_3 => ?_)
    refine z_iconst (pc := 26) hZ 5 dM_isBefore_26 (by decide) ?_
    refine z_icmp_eq (pc := 27) hZ 44 dM_isBefore_27 (by decide) (fun c27_4 => ?_) (fun c27_4 => ?_)
    · refine z_iconst (pc := 44) hZ 0 dM_isBefore_44 (by decide) ?_
      exact z_reti (pc := 45) hZ dM_isBefore_45 .boolean rfl rfl ⟨_, rfl, _, _, _, _, _, _, _, _, _, rfl, rfl, (by first | exact bfm_x 0 h1i h2i ev5_1 nokey_ (Or.inl ⟨c7_2, rfl⟩) | exact bfm_x (w := K p2.toNatClampNeg) 0 h1i h2i ev5_1 rfl (Or.inl ⟨c7_2, rfl⟩) | exact bfm_x 1 h1i h2i ev5_1 nokey_ (Or.inr ⟨c7_2, nokey_, rfl⟩) | exact gb_3 (v := (K p1.toNatClampNeg, 0, 0)) (w := (0, 0, 0)) (a := (.inr (.inr .gt))) (b := (.inr (.inr .gt))) (k3 := 0) ev5_1 c7_2 ev25_3 c27_4 | exact gb_3 (v := (K p1.toNatClampNeg, 0, 0)) (w := (0, 0, 0)) (a := (.inr (.inr .gt))) (b := (.inr (.inr .gt))) (k3 := 0) ev25_3 c27_4 ev5_1 c7_2 | exact gb_3 (v := (K p2.toNatClampNeg, 0, 0)) (w := (0, 0, 0)) (a := (.inr (.inr .gt))) (b := (.inr (.inr .gt))) (k3 := 0) nokey_ nokey_ nokey_ nokey_ | exact bfm_c 0 h1i h2i ev5_1 nokey_ c7_2 nokey_ nokey_ (Or.inl ⟨nokey_, rfl⟩) | exact bfm_c 1 h1i h2i ev5_1 nokey_ c7_2 nokey_ nokey_ (Or.inr ⟨nokey_, rfl⟩))⟩
    · refine z_aload_n (pc := 30) hZ 0 dM_isBefore_30 rfl rfl ?_
      refine z_get (pc := 31) (ci := 2) hZ 0 rfl rfl uc_M 0 (by decide) (zb fl_M_7) rfl dM_isBefore_31 ?_
      refine z_iload_n (pc := 34) hZ 2 dM_isBefore_34 rfl rfl ?_
      refine z_iald (pc := 35) hZ 1 1 rfl rfl (by assumption) dM_isBefore_35 (fun v35_5 ev35_5 => ?_)
      refine z_iconst (pc := 36) hZ 5 dM_isBefore_36 (by decide) ?_
      refine z_icmp_ne (pc := 37) hZ 44 dM_isBefore_37 (by decide) (fun c37_6 => ?_) (fun c37_6 => ?_)
      · refine z_iconst (pc := 44) hZ 0 dM_isBefore_44 (by decide) ?_
        exact z_reti (pc := 45) hZ dM_isBefore_45 .boolean rfl rfl ⟨_, rfl, _, _, _, _, _, _, _, _, _, rfl, rfl, (by first | exact bfm_x 0 h1i h2i ev5_1 nokey_ (Or.inl ⟨c7_2, rfl⟩) | exact bfm_x (w := K p2.toNatClampNeg) 0 h1i h2i ev5_1 rfl (Or.inl ⟨c7_2, rfl⟩) | exact bfm_x 1 h1i h2i ev5_1 ev35_5 (Or.inr ⟨c7_2, c37_6, rfl⟩) | exact gb_3 (v := (K p1.toNatClampNeg, 0, 0)) (w := (0, 0, 0)) (a := (.inr (.inr .gt))) (b := (.inr (.inr .gt))) (k3 := 0) ev5_1 c7_2 ev25_3 c27_4 | exact gb_3 (v := (K p1.toNatClampNeg, 0, 0)) (w := (0, 0, 0)) (a := (.inr (.inr .gt))) (b := (.inr (.inr .gt))) (k3 := 0) ev25_3 c27_4 ev5_1 c7_2 | exact gb_3 (v := (K p2.toNatClampNeg, 0, 0)) (w := (0, 0, 0)) (a := (.inr (.inr .gt))) (b := (.inr (.inr .gt))) (k3 := 0) ev35_5 c37_6 nokey_ nokey_ | exact bfm_c 0 h1i h2i ev5_1 nokey_ c7_2 nokey_ nokey_ (Or.inl ⟨nokey_, rfl⟩) | exact bfm_c 1 h1i h2i ev5_1 nokey_ c7_2 nokey_ nokey_ (Or.inr ⟨nokey_, rfl⟩))⟩
      · refine z_iconst (pc := 40) hZ 1 dM_isBefore_40 (by decide) ?_
        refine z_goto (pc := 41) hZ 45 dM_isBefore_41 (by decide) ?_
        exact z_reti (pc := 45) hZ dM_isBefore_45 .boolean rfl rfl ⟨_, rfl, _, _, _, _, _, _, _, _, _, rfl, rfl, (by first | exact bfm_x 0 h1i h2i ev5_1 nokey_ (Or.inl ⟨c7_2, rfl⟩) | exact bfm_x (w := K p2.toNatClampNeg) 0 h1i h2i ev5_1 rfl (Or.inl ⟨c7_2, rfl⟩) | exact bfm_x 1 h1i h2i ev5_1 ev35_5 (Or.inr ⟨c7_2, c37_6, rfl⟩) | exact gb_3 (v := (K p1.toNatClampNeg, 0, 0)) (w := (0, 0, 0)) (a := (.inr (.inr .gt))) (b := (.inr (.inr .gt))) (k3 := 0) ev5_1 c7_2 ev25_3 c27_4 | exact gb_3 (v := (K p1.toNatClampNeg, 0, 0)) (w := (0, 0, 0)) (a := (.inr (.inr .gt))) (b := (.inr (.inr .gt))) (k3 := 0) ev25_3 c27_4 ev5_1 c7_2 | exact gb_3 (v := (K p2.toNatClampNeg, 0, 0)) (w := (0, 0, 0)) (a := (.inr (.inr .gt))) (b := (.inr (.inr .gt))) (k3 := 0) ev35_5 c37_6 nokey_ nokey_ | exact bfm_c 0 h1i h2i ev5_1 nokey_ c7_2 nokey_ nokey_ (Or.inl ⟨nokey_, rfl⟩) | exact bfm_c 1 h1i h2i ev5_1 nokey_ c7_2 nokey_ nokey_ (Or.inr ⟨nokey_, rfl⟩))⟩
  · refine z_aload_n (pc := 10) hZ 0 dM_isBefore_10 rfl rfl ?_
    refine z_get (pc := 11) (ci := 2) hZ 0 rfl rfl uc_M 0 (by decide) (zb fl_M_7) rfl dM_isBefore_11 ?_
    refine z_iload_n (pc := 14) hZ 2 dM_isBefore_14 rfl rfl ?_
    refine z_iald (pc := 15) hZ 1 1 rfl rfl (by assumption) dM_isBefore_15 (fun v15_7 ev15_7 => ?_)
    refine z_iconst (pc := 16) hZ 5 dM_isBefore_16 (by decide) ?_
    refine z_icmp_ne (pc := 17) hZ 46 dM_isBefore_17 (by decide) (fun c17_8 => ?_) (fun c17_8 => ?_)
    · refine z_aload_n (pc := 46) hZ 0 dM_isBefore_46 rfl rfl ?_
      refine z_iconst (pc := 47) hZ 1 dM_isBefore_47 (by decide) ?_
      refine z_iload_n (pc := 48) hZ 1 dM_isBefore_48 rfl rfl ?_
      refine z_iload_n (pc := 49) hZ 2 dM_isBefore_49 rfl rfl ?_
      refine z_callV (pc := 50) (As := [.int 1, .int p1, .int p2]) (rest := []) hZ (cM_compare l D cR c1 c2 c3 h0 a1 a2 a3 Y ka na ea kb nb eb k n e bits scale K N E 1 p1 p2 (by exact hAK)) zyM_compare (z_goodV ml_M_230 im_M_compare se_M_compare in_M co_M_compare) 0 rfl rfl rfl rfl (by decide) rfl rfl (Nat.le_of_ble_eq_true rfl) ⟨Nat.zero_le _, Nat.zero_le _⟩ dM_isBefore_50 (z_ki (fun r50_9 w1 tys1 hp => ?_))
      obtain ⟨ka50_9, na50_9, ea50_9, kb50_9, nb50_9, eb50_9, k50_9, n50_9, e50_9, rfl, rfl, p50_9⟩ := hp
      refine z_iconst (pc := 53) hZ 1 dM_isBefore_53 (by decide) ?_
      refine z_icmp_ne (pc := 54) hZ 61 dM_isBefore_54 (by decide) (fun c54_10 => ?_) (fun c54_10 => ?_)
      · refine z_iconst (pc := 61) hZ 0 dM_isBefore_61 (by decide) ?_
        exact z_reti (pc := 62) hZ dM_isBefore_62 .boolean rfl rfl ⟨_, rfl, _, _, _, _, _, _, _, _, _, rfl, rfl, (by first | exact bfm_x 0 h1i h2i ev5_1 ev15_7 (Or.inl ⟨c7_2, rfl⟩) | exact bfm_x (w := K p2.toNatClampNeg) 0 h1i h2i ev5_1 rfl (Or.inl ⟨c7_2, rfl⟩) | exact bfm_x 1 h1i h2i ev5_1 nokey_ (Or.inr ⟨c7_2, nokey_, rfl⟩) | exact gb_3 (v := (K p1.toNatClampNeg, 0, 0)) (w := (0, 0, 0)) (a := (.inr (.inr .gt))) (b := (.inr (.inr .gt))) (k3 := 0) ev5_1 c7_2 nokey_ nokey_ | exact gb_3 (v := (K p1.toNatClampNeg, 0, 0)) (w := (0, 0, 0)) (a := (.inr (.inr .gt))) (b := (.inr (.inr .gt))) (k3 := 0) nokey_ nokey_ ev5_1 c7_2 | exact gb_3 (v := (K p2.toNatClampNeg, 0, 0)) (w := (0, 0, 0)) (a := (.inr (.inr .gt))) (b := (.inr (.inr .gt))) (k3 := 0) nokey_ nokey_ ev15_7 c17_8 | exact bfm_c 0 h1i h2i ev5_1 ev15_7 c7_2 c17_8 p50_9 (Or.inl ⟨c54_10, rfl⟩) | exact bfm_c 1 h1i h2i ev5_1 ev15_7 c7_2 c17_8 p50_9 (Or.inr ⟨c54_10, rfl⟩))⟩
      · refine z_iconst (pc := 57) hZ 1 dM_isBefore_57 (by decide) ?_
        refine z_goto (pc := 58) hZ 62 dM_isBefore_58 (by decide) ?_
        exact z_reti (pc := 62) hZ dM_isBefore_62 .boolean rfl rfl ⟨_, rfl, _, _, _, _, _, _, _, _, _, rfl, rfl, (by first | exact bfm_x 0 h1i h2i ev5_1 ev15_7 (Or.inl ⟨c7_2, rfl⟩) | exact bfm_x (w := K p2.toNatClampNeg) 0 h1i h2i ev5_1 rfl (Or.inl ⟨c7_2, rfl⟩) | exact bfm_x 1 h1i h2i ev5_1 nokey_ (Or.inr ⟨c7_2, nokey_, rfl⟩) | exact gb_3 (v := (K p1.toNatClampNeg, 0, 0)) (w := (0, 0, 0)) (a := (.inr (.inr .gt))) (b := (.inr (.inr .gt))) (k3 := 0) ev5_1 c7_2 nokey_ nokey_ | exact gb_3 (v := (K p1.toNatClampNeg, 0, 0)) (w := (0, 0, 0)) (a := (.inr (.inr .gt))) (b := (.inr (.inr .gt))) (k3 := 0) nokey_ nokey_ ev5_1 c7_2 | exact gb_3 (v := (K p2.toNatClampNeg, 0, 0)) (w := (0, 0, 0)) (a := (.inr (.inr .gt))) (b := (.inr (.inr .gt))) (k3 := 0) nokey_ nokey_ ev15_7 c17_8 | exact bfm_c 0 h1i h2i ev5_1 ev15_7 c7_2 c17_8 p50_9 (Or.inl ⟨c54_10, rfl⟩) | exact bfm_c 1 h1i h2i ev5_1 ev15_7 c7_2 c17_8 p50_9 (Or.inr ⟨c54_10, rfl⟩))⟩
    · refine z_aload_n (pc := 20) hZ 0 dM_isBefore_20 rfl rfl ?_
      refine z_get (pc := 21) (ci := 2) hZ 0 rfl rfl uc_M 0 (by decide) (zb fl_M_7) rfl dM_isBefore_21 ?_
      refine z_iload_n (pc := 24) hZ 1 dM_isBefore_24 rfl rfl ?_
      refine z_iald (pc := 25) hZ 1 1 rfl rfl (by assumption) dM_isBefore_25 (fun v25_11 ev25_11 => ?_)
      refine z_iconst (pc := 26) hZ 5 dM_isBefore_26 (by decide) ?_
      refine z_icmp_eq (pc := 27) hZ 44 dM_isBefore_27 (by decide) (fun c27_12 => ?_) (fun c27_12 => ?_)
      · refine z_iconst (pc := 44) hZ 0 dM_isBefore_44 (by decide) ?_
        exact z_reti (pc := 45) hZ dM_isBefore_45 .boolean rfl rfl ⟨_, rfl, _, _, _, _, _, _, _, _, _, rfl, rfl, (by first | exact bfm_x 0 h1i h2i ev5_1 ev15_7 (Or.inl ⟨c7_2, rfl⟩) | exact bfm_x (w := K p2.toNatClampNeg) 0 h1i h2i ev5_1 rfl (Or.inl ⟨c7_2, rfl⟩) | exact bfm_x 1 h1i h2i ev5_1 nokey_ (Or.inr ⟨c7_2, nokey_, rfl⟩) | exact gb_3 (v := (K p1.toNatClampNeg, 0, 0)) (w := (0, 0, 0)) (a := (.inr (.inr .gt))) (b := (.inr (.inr .gt))) (k3 := 0) ev5_1 c7_2 ev25_11 c27_12 | exact gb_3 (v := (K p1.toNatClampNeg, 0, 0)) (w := (0, 0, 0)) (a := (.inr (.inr .gt))) (b := (.inr (.inr .gt))) (k3 := 0) ev25_11 c27_12 ev5_1 c7_2 | exact gb_3 (v := (K p2.toNatClampNeg, 0, 0)) (w := (0, 0, 0)) (a := (.inr (.inr .gt))) (b := (.inr (.inr .gt))) (k3 := 0) nokey_ nokey_ ev15_7 c17_8 | exact bfm_c 0 h1i h2i ev5_1 ev15_7 c7_2 c17_8 nokey_ (Or.inl ⟨nokey_, rfl⟩) | exact bfm_c 1 h1i h2i ev5_1 ev15_7 c7_2 c17_8 nokey_ (Or.inr ⟨nokey_, rfl⟩))⟩
      · refine z_aload_n (pc := 30) hZ 0 dM_isBefore_30 rfl rfl ?_
        refine z_get (pc := 31) (ci := 2) hZ 0 rfl rfl uc_M 0 (by decide) (zb fl_M_7) rfl dM_isBefore_31 ?_
        refine z_iload_n (pc := 34) hZ 2 dM_isBefore_34 rfl rfl ?_
        refine z_iald (pc := 35) hZ 1 1 rfl rfl (by assumption) dM_isBefore_35 (fun v35_13 ev35_13 => ?_)
        refine z_iconst (pc := 36) hZ 5 dM_isBefore_36 (by decide) ?_
        refine z_icmp_ne (pc := 37) hZ 44 dM_isBefore_37 (by decide) (fun c37_14 => ?_) (fun c37_14 => ?_)
        · refine z_iconst (pc := 44) hZ 0 dM_isBefore_44 (by decide) ?_
          exact z_reti (pc := 45) hZ dM_isBefore_45 .boolean rfl rfl ⟨_, rfl, _, _, _, _, _, _, _, _, _, rfl, rfl, (by first | exact bfm_x 0 h1i h2i ev5_1 ev15_7 (Or.inl ⟨c7_2, rfl⟩) | exact bfm_x (w := K p2.toNatClampNeg) 0 h1i h2i ev5_1 rfl (Or.inl ⟨c7_2, rfl⟩) | exact bfm_x 1 h1i h2i ev5_1 ev35_13 (Or.inr ⟨c7_2, c37_14, rfl⟩) | exact gb_3 (v := (K p1.toNatClampNeg, 0, 0)) (w := (0, 0, 0)) (a := (.inr (.inr .gt))) (b := (.inr (.inr .gt))) (k3 := 0) ev5_1 c7_2 ev25_11 c27_12 | exact gb_3 (v := (K p1.toNatClampNeg, 0, 0)) (w := (0, 0, 0)) (a := (.inr (.inr .gt))) (b := (.inr (.inr .gt))) (k3 := 0) ev25_11 c27_12 ev5_1 c7_2 | exact gb_3 (v := (K p2.toNatClampNeg, 0, 0)) (w := (0, 0, 0)) (a := (.inr (.inr .gt))) (b := (.inr (.inr .gt))) (k3 := 0) ev35_13 c37_14 ev15_7 c17_8 | exact bfm_c 0 h1i h2i ev5_1 ev15_7 c7_2 c17_8 nokey_ (Or.inl ⟨nokey_, rfl⟩) | exact bfm_c 1 h1i h2i ev5_1 ev15_7 c7_2 c17_8 nokey_ (Or.inr ⟨nokey_, rfl⟩))⟩
        · refine z_iconst (pc := 40) hZ 1 dM_isBefore_40 (by decide) ?_
          refine z_goto (pc := 41) hZ 45 dM_isBefore_41 (by decide) ?_
          exact z_reti (pc := 45) hZ dM_isBefore_45 .boolean rfl rfl ⟨_, rfl, _, _, _, _, _, _, _, _, _, rfl, rfl, (by first | exact bfm_x 0 h1i h2i ev5_1 ev15_7 (Or.inl ⟨c7_2, rfl⟩) | exact bfm_x (w := K p2.toNatClampNeg) 0 h1i h2i ev5_1 rfl (Or.inl ⟨c7_2, rfl⟩) | exact bfm_x 1 h1i h2i ev5_1 ev35_13 (Or.inr ⟨c7_2, c37_14, rfl⟩) | exact gb_3 (v := (K p1.toNatClampNeg, 0, 0)) (w := (0, 0, 0)) (a := (.inr (.inr .gt))) (b := (.inr (.inr .gt))) (k3 := 0) ev5_1 c7_2 ev25_11 c27_12 | exact gb_3 (v := (K p1.toNatClampNeg, 0, 0)) (w := (0, 0, 0)) (a := (.inr (.inr .gt))) (b := (.inr (.inr .gt))) (k3 := 0) ev25_11 c27_12 ev5_1 c7_2 | exact gb_3 (v := (K p2.toNatClampNeg, 0, 0)) (w := (0, 0, 0)) (a := (.inr (.inr .gt))) (b := (.inr (.inr .gt))) (k3 := 0) ev35_13 c37_14 ev15_7 c17_8 | exact bfm_c 0 h1i h2i ev5_1 ev15_7 c7_2 c17_8 nokey_ (Or.inl ⟨nokey_, rfl⟩) | exact bfm_c 1 h1i h2i ev5_1 ev15_7 c7_2 c17_8 nokey_ (Or.inr ⟨nokey_, rfl⟩))⟩
set_option maxHeartbeats 4000000 in
set_option maxRecDepth 100000 in
theorem cM_exchange (l : Launch) (D : va_G) (cR c1 c2 c3 : ClassId) (h0 a1 a2 a3 : Nat) (Y : va_W) (ka : Int32) (na : Int64) (ea : Int32) (kb : Int32) (nb : Int64) (eb : Int32) (k : Int32) (n : Int64) (e : Int32) (bits : Int64) (scale : Int32) (K : Nat → Int32) (N : Nat → Int64) (E : Nat → Int32) (p1 : Int32) (p2 : Int32) (hAK : AK K N E) (h1i : vp_in p1 32) (h2i : vp_in p2 32) : zM l D vwCl zNF zNM yM_exchange wsM_exchange { frames := 1, cells := 0, slots := 0, locals := 21 } [.ref h0, .int p1, .int p2] (MW h0 a1 a2 a3 c1 c2 c3 (ka, na, ea, kb, nb, eb, k, n, e, bits, scale, K, N, E) ++ Y) (TY cR c1 c2 c3) (qV (fun w' tys' => ∃ ka' : Int32, ∃ na' : Int64, ∃ ea' : Int32, ∃ kb' : Int32, ∃ nb' : Int64, ∃ eb' : Int32, ∃ K' : Nat → Int32, ∃ N' : Nat → Int64, ∃ E' : Nat → Int32, MW h0 a1 a2 a3 c1 c2 c3 (ka', na', ea', kb', nb', eb', k, n, e, bits, scale, K', N', E') ++ Y = w' ∧ (TY cR c1 c2 c3) = tys' ∧ (AK K' N' E' ∧ (∀ s, RMs K N E s → RMs K' N' E' (swp s p1.toNatClampNeg p2.toNatClampNeg))))) := by
  refine z_met (cc := bM_exchange) (maxL := 3) (ret := none) (isI := false) (own := RM) (by decide +kernel) rfl rfl (fun h => by cases h) (Nat.le_of_ble_eq_true rfl) (fun Z hZ => ?_)
  show Z 0 0 (TY cR c1 c2 c3) 0 [(0, .ref h0), (1, .int p1), (2, .int p2)] [] (MW h0 a1 a2 a3 c1 c2 c3 (ka, na, ea, kb, nb, eb, k, n, e, bits, scale, K, N, E) ++ Y)
  refine z_aload_n (pc := 0) hZ 0 dM_exchange_0 rfl rfl ?_
  refine z_iload_n (pc := 1) hZ 1 dM_exchange_1 rfl rfl ?_
  refine z_callV (pc := 2) (As := [.int p1]) (rest := []) hZ (cM_takeA l D cR c1 c2 c3 h0 a1 a2 a3 Y ka na ea kb nb eb k n e bits scale K N E p1 (by exact h1i)) zyM_takeA (z_goodV ml_M_210 im_M_takeA se_M_takeA in_M co_M_takeA) 0 rfl rfl rfl rfl (by decide) rfl rfl (Nat.le_of_ble_eq_true rfl) ⟨Nat.zero_le _, Nat.zero_le _⟩ dM_exchange_2 (z_kv (fun w1 tys1 hp => ?_))
  obtain ⟨ka2_1, na2_1, ea2_1, rfl, rfl, p2_1⟩ := hp
  refine z_aload_n (pc := 5) hZ 0 dM_exchange_5 rfl rfl ?_
  refine z_iload_n (pc := 6) hZ 2 dM_exchange_6 rfl rfl ?_
  refine z_callV (pc := 7) (As := [.int p2]) (rest := []) hZ (cM_takeB l D cR c1 c2 c3 h0 a1 a2 a3 Y ka2_1 na2_1 ea2_1 kb nb eb k n e bits scale K N E p2 (by exact h2i)) zyM_takeB (z_goodV ml_M_213 im_M_takeB se_M_takeB in_M co_M_takeB) 0 rfl rfl rfl rfl (by decide) rfl rfl (Nat.le_of_ble_eq_true rfl) ⟨Nat.zero_le _, Nat.zero_le _⟩ dM_exchange_7 (z_kv (fun w1 tys1 hp => ?_))
  obtain ⟨kb7_2, nb7_2, eb7_2, rfl, rfl, p7_2⟩ := hp
  refine z_aload_n (pc := 10) hZ 0 dM_exchange_10 rfl rfl ?_
  refine z_get (pc := 11) (ci := 2) hZ 0 rfl rfl uc_M 0 (by decide) (zb fl_M_7) rfl dM_exchange_11 ?_
  refine z_iload_n (pc := 14) hZ 1 dM_exchange_14 rfl rfl ?_
  refine z_aload_n (pc := 15) hZ 0 dM_exchange_15 rfl rfl ?_
  refine z_get (pc := 16) (ci := 2) hZ 0 rfl rfl uc_M 6 (by decide) (zb fl_M_60) rfl dM_exchange_16 ?_
  refine z_iast (pc := 19) hZ 1 1 rfl rfl (by assumption) dM_exchange_19 (fun K19_2 eK19_2 => ?_)
  show Z 0 0 (TY cR c1 c2 c3) (19 + 1) [(0, .ref h0), (1, .int p1), (2, .int p2)] [] (MW h0 a1 a2 a3 c1 c2 c3 (ka2_1, na2_1, ea2_1, kb7_2, nb7_2, eb7_2, k, n, e, bits, scale, K19_2, N, E) ++ Y)
  refine z_aload_n (pc := 20) hZ 0 dM_exchange_20 rfl rfl ?_
  refine z_get (pc := 21) (ci := 2) hZ 0 rfl rfl uc_M 1 (by decide) (zb fl_M_13) rfl dM_exchange_21 ?_
  refine z_iload_n (pc := 24) hZ 1 dM_exchange_24 rfl rfl ?_
  refine z_aload_n (pc := 25) hZ 0 dM_exchange_25 rfl rfl ?_
  refine z_get (pc := 26) (ci := 2) hZ 0 rfl rfl uc_M 7 (by decide) (zb fl_M_63) rfl dM_exchange_26 ?_
  refine z_last (pc := 29) hZ 2 2 rfl rfl (by assumption) dM_exchange_29 (fun N29_3 eN29_3 => ?_)
  show Z 0 0 (TY cR c1 c2 c3) (29 + 1) [(0, .ref h0), (1, .int p1), (2, .int p2)] [] (MW h0 a1 a2 a3 c1 c2 c3 (ka2_1, na2_1, ea2_1, kb7_2, nb7_2, eb7_2, k, n, e, bits, scale, K19_2, N29_3, E) ++ Y)
  refine z_aload_n (pc := 30) hZ 0 dM_exchange_30 rfl rfl ?_
  refine z_get (pc := 31) (ci := 2) hZ 0 rfl rfl uc_M 2 (by decide) (zb fl_M_17) rfl dM_exchange_31 ?_
  refine z_iload_n (pc := 34) hZ 1 dM_exchange_34 rfl rfl ?_
  refine z_aload_n (pc := 35) hZ 0 dM_exchange_35 rfl rfl ?_
  refine z_get (pc := 36) (ci := 2) hZ 0 rfl rfl uc_M 8 (by decide) (zb fl_M_66) rfl dM_exchange_36 ?_
  refine z_iast (pc := 39) hZ 3 3 rfl rfl (by assumption) dM_exchange_39 (fun E39_4 eE39_4 => ?_)
  show Z 0 0 (TY cR c1 c2 c3) (39 + 1) [(0, .ref h0), (1, .int p1), (2, .int p2)] [] (MW h0 a1 a2 a3 c1 c2 c3 (ka2_1, na2_1, ea2_1, kb7_2, nb7_2, eb7_2, k, n, e, bits, scale, K19_2, N29_3, E39_4) ++ Y)
  refine z_aload_n (pc := 40) hZ 0 dM_exchange_40 rfl rfl ?_
  refine z_get (pc := 41) (ci := 2) hZ 0 rfl rfl uc_M 0 (by decide) (zb fl_M_7) rfl dM_exchange_41 ?_
  refine z_iload_n (pc := 44) hZ 2 dM_exchange_44 rfl rfl ?_
  refine z_aload_n (pc := 45) hZ 0 dM_exchange_45 rfl rfl ?_
  refine z_get (pc := 46) (ci := 2) hZ 0 rfl rfl uc_M 3 (by decide) (zb fl_M_51) rfl dM_exchange_46 ?_
  refine z_iast (pc := 49) hZ 1 1 rfl rfl (by assumption) dM_exchange_49 (fun K49_5 eK49_5 => ?_)
  show Z 0 0 (TY cR c1 c2 c3) (49 + 1) [(0, .ref h0), (1, .int p1), (2, .int p2)] [] (MW h0 a1 a2 a3 c1 c2 c3 (ka2_1, na2_1, ea2_1, kb7_2, nb7_2, eb7_2, k, n, e, bits, scale, K49_5, N29_3, E39_4) ++ Y)
  refine z_aload_n (pc := 50) hZ 0 dM_exchange_50 rfl rfl ?_
  refine z_get (pc := 51) (ci := 2) hZ 0 rfl rfl uc_M 1 (by decide) (zb fl_M_13) rfl dM_exchange_51 ?_
  refine z_iload_n (pc := 54) hZ 2 dM_exchange_54 rfl rfl ?_
  refine z_aload_n (pc := 55) hZ 0 dM_exchange_55 rfl rfl ?_
  refine z_get (pc := 56) (ci := 2) hZ 0 rfl rfl uc_M 4 (by decide) (zb fl_M_54) rfl dM_exchange_56 ?_
  refine z_last (pc := 59) hZ 2 2 rfl rfl (by assumption) dM_exchange_59 (fun N59_6 eN59_6 => ?_)
  show Z 0 0 (TY cR c1 c2 c3) (59 + 1) [(0, .ref h0), (1, .int p1), (2, .int p2)] [] (MW h0 a1 a2 a3 c1 c2 c3 (ka2_1, na2_1, ea2_1, kb7_2, nb7_2, eb7_2, k, n, e, bits, scale, K49_5, N59_6, E39_4) ++ Y)
  refine z_aload_n (pc := 60) hZ 0 dM_exchange_60 rfl rfl ?_
  refine z_get (pc := 61) (ci := 2) hZ 0 rfl rfl uc_M 2 (by decide) (zb fl_M_17) rfl dM_exchange_61 ?_
  refine z_iload_n (pc := 64) hZ 2 dM_exchange_64 rfl rfl ?_
  refine z_aload_n (pc := 65) hZ 0 dM_exchange_65 rfl rfl ?_
  refine z_get (pc := 66) (ci := 2) hZ 0 rfl rfl uc_M 5 (by decide) (zb fl_M_57) rfl dM_exchange_66 ?_
  refine z_iast (pc := 69) hZ 3 3 rfl rfl (by assumption) dM_exchange_69 (fun E69_7 eE69_7 => ?_)
  show Z 0 0 (TY cR c1 c2 c3) (69 + 1) [(0, .ref h0), (1, .int p1), (2, .int p2)] [] (MW h0 a1 a2 a3 c1 c2 c3 (ka2_1, na2_1, ea2_1, kb7_2, nb7_2, eb7_2, k, n, e, bits, scale, K49_5, N59_6, E69_7) ++ Y)
  exact z_retv (pc := 70) hZ dM_exchange_70 rfl ⟨rfl, _, _, _, _, _, _, _, _, _, rfl, rfl, (by exact ⟨by exact AK_ex hAK (AK_at hAK h1i p2_1) (AK_at hAK h2i p7_2) eK19_2 eN29_3 eE39_4 eK49_5 eN59_6 eE69_7, RMs_ex h1i h2i p2_1 p7_2 eK19_2 eN29_3 eE39_4 eK49_5 eN59_6 eE69_7⟩)⟩
set_option maxHeartbeats 4000000 in
set_option maxRecDepth 100000 in
theorem cM_sort (l : Launch) (D : va_G) (cR c1 c2 c3 : ClassId) (h0 a1 a2 a3 : Nat) (Y : va_W) (ka : Int32) (na : Int64) (ea : Int32) (kb : Int32) (nb : Int64) (eb : Int32) (k : Int32) (n : Int64) (e : Int32) (bits : Int64) (scale : Int32) (K : Nat → Int32) (N : Nat → Int64) (E : Nat → Int32) (p1 : Int32) (p2 : Int32) (hAK : AK K N E) : zM l D vwCl zNF zNM yM_sort wsM_sort { frames := 7, cells := 0, slots := 0, locals := 185 } [.ref h0, .int p1, .int p2] (MW h0 a1 a2 a3 c1 c2 c3 (ka, na, ea, kb, nb, eb, k, n, e, bits, scale, K, N, E) ++ Y) (TY cR c1 c2 c3) (qI (fun r w' tys' => ∃ ka' : Int32, ∃ na' : Int64, ∃ ea' : Int32, ∃ kb' : Int32, ∃ nb' : Int64, ∃ eb' : Int32, ∃ k' : Int32, ∃ n' : Int64, ∃ e' : Int32, ∃ K' : Nat → Int32, ∃ N' : Nat → Int64, ∃ E' : Nat → Int32, MW h0 a1 a2 a3 c1 c2 c3 (ka', na', ea', kb', nb', eb', k', n', e', bits, scale, K', N', E') ++ Y = w' ∧ (TY cR c1 c2 c3) = tys' ∧ ((((rowOK p1 p2) → r = 1) ∧ (¬ (rowOK p1 p2) → r = 0)) ∧ AK K' N' E' ∧ STM K N E K' N' E' (rowOK p1 p2) (sortT p1 p2)))) := by
  refine z_met (cc := bM_sort) (maxL := 5) (ret := (some .boolean)) (isI := false) (own := RM) (by decide +kernel) rfl rfl (fun h => by cases h) (Nat.le_of_ble_eq_true rfl) (fun Z hZ => ?_)
  show Z 0 0 (TY cR c1 c2 c3) 0 [(0, .ref h0), (1, .int p1), (2, .int p2)] [] (MW h0 a1 a2 a3 c1 c2 c3 (ka, na, ea, kb, nb, eb, k, n, e, bits, scale, K, N, E) ++ Y)
  refine z_iload_n (pc := 0) hZ 1 dM_sort_0 rfl rfl ?_
  refine z_iload_n (pc := 1) hZ 2 dM_sort_1 rfl rfl ?_
  refine z_callS (pc := 2) (As := [.int p1, .int p2]) (rest := []) hZ (cM_areRegisters l D (TY cR c1 c2 c3) (MW h0 a1 a2 a3 c1 c2 c3 (ka, na, ea, kb, nb, eb, k, n, e, bits, scale, K, N, E) ++ Y) p1 p2) zyM_areRegisters (z_goodS ml_M_226 st_M_areRegisters in_M co_M_areRegisters) rfl rfl (by decide) rfl rfl (Nat.le_of_ble_eq_true rfl) ⟨Nat.zero_le _, Nat.zero_le _⟩ dM_sort_2 (z_ki (fun r2_1 w1 tys1 hp => ?_))
  obtain ⟨rfl, rfl, p2_1⟩ := hp
  refine z_if_ne (pc := 5) hZ 10 dM_sort_5 (by decide) (fun c5_2 => ?_) (fun c5_2 => ?_)
  · refine z_iload_n (pc := 10) hZ 1 dM_sort_10 rfl rfl ?_
    refine z_iconst (pc := 11) hZ 1 dM_sort_11 (by decide) ?_
    refine z_iadd (pc := 12) hZ dM_sort_12 (fun v12_3 ev12_3 => ?_)
    refine z_istore_n (pc := 13) hZ [(3, .int v12_3), (0, .ref h0), (1, .int p1), (2, .int p2)] dM_sort_13 rfl (by decide) rfl ?_
    have L14 : ∀ (N14 : Nat) (x3_14 : Int32) (E_14 : Nat → Int32) (K_14 : Nat → Int32) (N_14 : Nat → Int64) (e_14 : Int32) (ea_14 : Int32) (eb_14 : Int32) (k_14 : Int32) (ka_14 : Int32) (kb_14 : Int32) (n_14 : Int64) (na_14 : Int64) (nb_14 : Int64), ((p1 + p2).toInt - x3_14.toInt).toNat < N14 → (p1.toInt < x3_14.toInt) → (AK K_14 N_14 E_14) → (x3_14.toInt ≤ max (p1.toInt + 1) (p1.toInt + p2.toInt)) → (SOM K N E K_14 N_14 E_14 p1 x3_14) → Z 0 0 (TY cR c1 c2 c3) 14 [(3, .int x3_14), (0, .ref h0), (1, .int p1), (2, .int p2)] [] (MW h0 a1 a2 a3 c1 c2 c3 (ka_14, na_14, ea_14, kb_14, nb_14, eb_14, k_14, n_14, e_14, bits, scale, K_14, N_14, E_14) ++ Y) := by
      intro N14
      induction N14 with
      | zero => intro x3_14 E_14 K_14 N_14 e_14 ea_14 eb_14 k_14 ka_14 kb_14 n_14 na_14 nb_14 m14; exact absurd m14 (Nat.not_lt_zero _)
      | succ N14 ih14 =>
        intro x3_14 E_14 K_14 N_14 e_14 ea_14 eb_14 k_14 ka_14 kb_14 n_14 na_14 nb_14 m14 i14 a14 k14 q14
        refine z_iload_n (pc := 14) hZ 0 dM_sort_14 rfl rfl ?_
        refine z_iload_n (pc := 15) hZ 2 dM_sort_15 rfl rfl ?_
        refine z_iload_n (pc := 16) hZ 3 dM_sort_16 rfl rfl ?_
        refine z_iadd (pc := 17) hZ dM_sort_17 (fun v17_4 ev17_4 => ?_)
        refine z_icmp_ge (pc := 18) hZ 65 dM_sort_18 (by decide) (fun c18_5 => ?_) (fun c18_5 => ?_)
        · refine z_iconst (pc := 65) hZ 1 dM_sort_65 (by decide) ?_
          exact z_reti (pc := 66) hZ dM_sort_66 .boolean rfl rfl ⟨_, rfl, _, _, _, _, _, _, _, _, _, _, _, _, rfl, rfl, (by exact ⟨by first | exact ⟨fun _ => rfl, fun q => absurd (row_of (by assumption) (by assumption)) q⟩ | exact ⟨fun q => absurd q (row_no (by assumption) (by assumption)), fun _ => rfl⟩, by first | exact a14 | exact hAK, by first | exact stm_n (row_no p2_1 c5_2) | exact som_e q14 (row_of p2_1 c5_2) ev17_4 c18_5 k14⟩)⟩
        · refine z_iload_n (pc := 21) hZ 0 dM_sort_21 rfl rfl ?_
          refine z_istore (pc := 22) hZ [(4, .int x3_14), (3, .int x3_14), (0, .ref h0), (1, .int p1), (2, .int p2)] dM_sort_22 (by decide) rfl ?_
          have L24 : ∀ (N24 : Nat) (x4_24 : Int32) (E_24 : Nat → Int32) (K_24 : Nat → Int32) (N_24 : Nat → Int64) (e_24 : Int32) (ea_24 : Int32) (eb_24 : Int32) (k_24 : Int32) (ka_24 : Int32) (kb_24 : Int32) (n_24 : Int64) (na_24 : Int64) (nb_24 : Int64), (x4_24.toInt - p1.toInt).toNat < N24 → (p1.toInt ≤ x4_24.toInt) → (x4_24.toInt ≤ x3_14.toInt) → (AK K_24 N_24 E_24) → (SIM2 K N E K_24 N_24 E_24 p1 x3_14 x4_24) → Z 0 0 (TY cR c1 c2 c3) 24 [(4, .int x4_24), (3, .int x3_14), (0, .ref h0), (1, .int p1), (2, .int p2)] [] (MW h0 a1 a2 a3 c1 c2 c3 (ka_24, na_24, ea_24, kb_24, nb_24, eb_24, k_24, n_24, e_24, bits, scale, K_24, N_24, E_24) ++ Y) := by
            intro N24
            induction N24 with
            | zero => intro x4_24 E_24 K_24 N_24 e_24 ea_24 eb_24 k_24 ka_24 kb_24 n_24 na_24 nb_24 m24; exact absurd m24 (Nat.not_lt_zero _)
            | succ N24 ih24 =>
              intro x4_24 E_24 K_24 N_24 e_24 ea_24 eb_24 k_24 ka_24 kb_24 n_24 na_24 nb_24 m24 i24 j24 a24 q24
              refine z_iload (pc := 24) hZ 0 dM_sort_24 rfl ?_
              refine z_iload_n (pc := 26) hZ 3 dM_sort_26 rfl rfl ?_
              refine z_icmp_le (pc := 27) hZ 59 dM_sort_27 (by decide) (fun c27_6 => ?_) (fun c27_6 => ?_)
              · refine z_iinc (pc := 59) hZ 1 (fun v9 => [(3, .int v9), (4, .int x4_24), (0, .ref h0), (1, .int p1), (2, .int p2)]) dM_sort_59 rfl (by decide) (fun _ => rfl) (fun v59_7 ev59_7 => ?_)
                refine z_goto (pc := 62) hZ 14 dM_sort_62 (by decide) ?_
                exact z_sub (pc := 14) hZ [0, 2, 3, 4] rfl (ih14 v59_7 E_24 K_24 N_24 e_24 ea_24 eb_24 k_24 ka_24 kb_24 n_24 na_24 nb_24 (by exact Nat.lt_of_lt_of_le (dec_upc (b := p1 + p2) (x := x3_14) ev17_4 c18_5 ev59_7) (Nat.le_of_lt_succ m14)) (by exact srt_n (a := p1) (n := p2) (i := x3_14) (row_of p2_1 c5_2) i14 ev17_4 c18_5 ev59_7) (by exact a24) (by exact srt_k (row_of p2_1 c5_2) ev17_4 c18_5 ev59_7) (by first | exact sim2_e q24 (row_of p2_1 c5_2) ev17_4 c18_5 j24 i24 (Or.inl c27_6) ev59_7 | exact sim2_e q24 (row_of p2_1 c5_2) ev17_4 c18_5 j24 i24 (Or.inr ⟨_, _, c27_6, nokey_, nokey_, nokey_⟩) ev59_7))
              · refine z_aload_n (pc := 30) hZ 2 dM_sort_30 rfl rfl ?_
                refine z_iload (pc := 31) hZ 0 dM_sort_31 rfl ?_
                refine z_iload (pc := 33) hZ 0 dM_sort_33 rfl ?_
                refine z_iconst (pc := 35) hZ 1 dM_sort_35 (by decide) ?_
                refine z_isub (pc := 36) hZ dM_sort_36 (fun v36_8 ev36_8 => ?_)
                refine z_callV (pc := 37) (As := [.int x4_24, .int v36_8]) (rest := []) hZ (cM_isBefore l D cR c1 c2 c3 h0 a1 a2 a3 Y ka_24 na_24 ea_24 kb_24 nb_24 eb_24 k_24 n_24 e_24 bits scale K_24 N_24 E_24 x4_24 v36_8 (by exact a24) (by exact vp_of (Int.le_trans (row_of p2_1 c5_2).1 i24) (Int.lt_of_le_of_lt j24 (srt_b (a := p1) (n := p2) (row_of p2_1 c5_2) ev17_4 c18_5))) (by exact ins_i (a := p1) (p := x3_14) (x := x4_24) (row_of p2_1 c5_2).1 (srt_b (a := p1) (n := p2) (row_of p2_1 c5_2) ev17_4 c18_5) j24 c27_6 ev36_8)) zyM_isBefore (z_goodV ml_M_234 im_M_isBefore se_M_isBefore in_M co_M_isBefore) 0 rfl rfl rfl rfl (by decide) rfl rfl (Nat.le_of_ble_eq_true rfl) ⟨Nat.zero_le _, Nat.zero_le _⟩ dM_sort_37 (z_ki (fun r37_9 w1 tys1 hp => ?_))
                obtain ⟨ka37_9, na37_9, ea37_9, kb37_9, nb37_9, eb37_9, k37_9, n37_9, e37_9, rfl, rfl, p37_9⟩ := hp
                refine z_if_eq (pc := 40) hZ 59 dM_sort_40 (by decide) (fun c40_10 => ?_) (fun c40_10 => ?_)
                · refine z_iinc (pc := 59) hZ 1 (fun v9 => [(3, .int v9), (4, .int x4_24), (0, .ref h0), (1, .int p1), (2, .int p2)]) dM_sort_59 rfl (by decide) (fun _ => rfl) (fun v59_11 ev59_11 => ?_)
                  refine z_goto (pc := 62) hZ 14 dM_sort_62 (by decide) ?_
                  exact z_sub (pc := 14) hZ [0, 2, 3, 4] rfl (ih14 v59_11 E_24 K_24 N_24 e37_9 ea37_9 eb37_9 k37_9 ka37_9 kb37_9 n37_9 na37_9 nb37_9 (by exact Nat.lt_of_lt_of_le (dec_upc (b := p1 + p2) (x := x3_14) ev17_4 c18_5 ev59_11) (Nat.le_of_lt_succ m14)) (by exact srt_n (a := p1) (n := p2) (i := x3_14) (row_of p2_1 c5_2) i14 ev17_4 c18_5 ev59_11) (by exact a24) (by exact srt_k (row_of p2_1 c5_2) ev17_4 c18_5 ev59_11) (by first | exact sim2_e q24 (row_of p2_1 c5_2) ev17_4 c18_5 j24 i24 (Or.inl c27_6) ev59_11 | exact sim2_e q24 (row_of p2_1 c5_2) ev17_4 c18_5 j24 i24 (Or.inr ⟨_, _, c27_6, ev36_8, p37_9, c40_10⟩) ev59_11))
                · refine z_aload_n (pc := 43) hZ 2 dM_sort_43 rfl rfl ?_
                  refine z_iload (pc := 44) hZ 0 dM_sort_44 rfl ?_
                  refine z_iload (pc := 46) hZ 0 dM_sort_46 rfl ?_
                  refine z_iconst (pc := 48) hZ 1 dM_sort_48 (by decide) ?_
                  refine z_isub (pc := 49) hZ dM_sort_49 (fun v49_12 ev49_12 => ?_)
                  refine z_callV (pc := 50) (As := [.int x4_24, .int v49_12]) (rest := []) hZ (cM_exchange l D cR c1 c2 c3 h0 a1 a2 a3 Y ka37_9 na37_9 ea37_9 kb37_9 nb37_9 eb37_9 k37_9 n37_9 e37_9 bits scale K_24 N_24 E_24 x4_24 v49_12 (by exact a24) (by exact vp_of (Int.le_trans (row_of p2_1 c5_2).1 i24) (Int.lt_of_le_of_lt j24 (srt_b (a := p1) (n := p2) (row_of p2_1 c5_2) ev17_4 c18_5))) (by exact ins_i (a := p1) (p := x3_14) (x := x4_24) (row_of p2_1 c5_2).1 (srt_b (a := p1) (n := p2) (row_of p2_1 c5_2) ev17_4 c18_5) j24 c27_6 ev49_12)) zyM_exchange (z_goodV ml_M_237 im_M_exchange se_M_exchange in_M co_M_exchange) 0 rfl rfl rfl rfl (by decide) rfl rfl (Nat.le_of_ble_eq_true rfl) ⟨Nat.zero_le _, Nat.zero_le _⟩ dM_sort_50 (z_kv (fun w1 tys1 hp => ?_))
                  obtain ⟨ka50_13, na50_13, ea50_13, kb50_13, nb50_13, eb50_13, K50_13, N50_13, E50_13, rfl, rfl, p50_13⟩ := hp
                  refine z_iinc (pc := 53) hZ 0 (fun v9 => [(4, .int v9), (3, .int x3_14), (0, .ref h0), (1, .int p1), (2, .int p2)]) dM_sort_53 rfl (by decide) (fun _ => rfl) (fun v53_14 ev53_14 => ?_)
                  refine z_goto (pc := 56) hZ 24 dM_sort_56 (by decide) ?_
                  exact z_sub (pc := 24) hZ [0, 1, 2, 3, 4] rfl (ih24 v53_14 E50_13 K50_13 N50_13 e37_9 ea50_13 eb50_13 k37_9 ka50_13 kb50_13 n37_9 na50_13 nb50_13 (by exact Nat.lt_of_lt_of_le (ins_n (a := p1) (p := x3_14) (x := x4_24) (row_of p2_1 c5_2).1 (srt_b (a := p1) (n := p2) (row_of p2_1 c5_2) ev17_4 c18_5) j24 c27_6 ev53_14).2.2 (Nat.le_of_lt_succ m24)) (by exact (ins_n (a := p1) (p := x3_14) (x := x4_24) (row_of p2_1 c5_2).1 (srt_b (a := p1) (n := p2) (row_of p2_1 c5_2) ev17_4 c18_5) j24 c27_6 ev53_14).1) (by exact (ins_n (a := p1) (p := x3_14) (x := x4_24) (row_of p2_1 c5_2).1 (srt_b (a := p1) (n := p2) (row_of p2_1 c5_2) ev17_4 c18_5) j24 c27_6 ev53_14).2.1) (by exact ((p50_13).1)) (by exact sim2_s q24 (row_of p2_1 c5_2).1 (srt_b (a := p1) (n := p2) (row_of p2_1 c5_2) ev17_4 c18_5) j24 c27_6 ev36_8 p37_9 c40_10 ev49_12 (p50_13).2 ev53_14))
          exact z_sub (pc := 24) hZ [0, 1, 2, 3, 4] rfl (L24 _ x3_14 E_14 K_14 N_14 e_14 ea_14 eb_14 k_14 ka_14 kb_14 n_14 na_14 nb_14 (Nat.lt_succ_self _) (by exact Int.le_of_lt i14) (by exact Int.le_refl _) (by exact a14) (by exact sim2_0 (row_of p2_1 c5_2) q14))
    exact z_sub (pc := 14) hZ [0, 1, 2, 3] rfl (L14 _ v12_3 E K N e ea eb k ka kb n na nb (Nat.lt_succ_self _) (by exact srt_0 (n := p2) (row_of p2_1 c5_2) ev12_3) (by exact hAK) (by exact srt_k0 (row_of p2_1 c5_2) ev12_3) (by exact som_0 (row_of p2_1 c5_2) ev12_3))
  · refine z_iconst (pc := 8) hZ 0 dM_sort_8 (by decide) ?_
    exact z_reti (pc := 9) hZ dM_sort_9 .boolean rfl rfl ⟨_, rfl, _, _, _, _, _, _, _, _, _, _, _, _, rfl, rfl, (by exact ⟨by first | exact ⟨fun _ => rfl, fun q => absurd (row_of (by assumption) (by assumption)) q⟩ | exact ⟨fun q => absurd q (row_no (by assumption) (by assumption)), fun _ => rfl⟩, by first | exact a14 | exact hAK, by first | exact stm_n (row_no p2_1 c5_2) | exact som_e q14 (row_of p2_1 c5_2) nokey_ nokey_ k14⟩)⟩
