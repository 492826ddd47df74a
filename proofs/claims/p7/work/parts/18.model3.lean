set_option maxHeartbeats 4000000 in
set_option maxRecDepth 100000 in
theorem cM_signOf (l : Launch) (D : va_G) (tys : zT) (w : va_W) (p0 : Int32) (p1 : Int64) : zM l D vwCl zNF zNM yM_signOf wsM_signOf { frames := 0, cells := 0, slots := 0, locals := 0 } [.int p0, .long p1] (w) tys (qI (fun r w' tys' => w = w' ∧ tys = tys' ∧ ((¬ r = 0 → ¬ p0 = 3 → ¬ p0 = 4 → ¬ p1 = 0) ∧ SGM p0 p1 r))) := by
  refine z_met (cc := bM_signOf) (maxL := 3) (ret := (some .int)) (isI := false) (own := RM) (by decide +kernel) rfl rfl (fun h => by cases h) (Nat.le_of_ble_eq_true rfl) (fun Z hZ => ?_)
  show Z 0 0 tys 0 [(0, .int p0), (1, .long p1)] [] (w)
  refine z_iload_n (pc := 0) hZ 0 dM_signOf_0 rfl rfl ?_
  refine z_iconst (pc := 1) hZ 3 dM_signOf_1 (by decide) ?_
  refine z_icmp_ne (pc := 2) hZ 7 dM_signOf_2 (by decide) (fun c2_1 => ?_) (fun c2_1 => ?_)
  · refine z_iload_n (pc := 7) hZ 0 dM_signOf_7 rfl rfl ?_
    refine z_iconst (pc := 8) hZ 4 dM_signOf_8 (by decide) ?_
    refine z_icmp_ne (pc := 9) hZ 14 dM_signOf_9 (by decide) (fun c9_2 => ?_) (fun c9_2 => ?_)
    · refine z_lload_n (pc := 14) hZ 1 dM_signOf_14 rfl rfl ?_
      refine z_lconst (pc := 15) hZ 0 dM_signOf_15 (by decide) ?_
      refine z_lif_ge (pc := 16) hZ 24 dM_signOf_16 dM_signOf_17 (by decide) (fun c17_3 => ?_) (fun c17_3 => ?_)
      · refine z_lload_n (pc := 24) hZ 1 dM_signOf_24 rfl rfl ?_
        refine z_lconst (pc := 25) hZ 0 dM_signOf_25 (by decide) ?_
        refine z_lif_le (pc := 26) hZ 34 dM_signOf_26 dM_signOf_27 (by decide) (fun c27_4 => ?_) (fun c27_4 => ?_)
        · refine z_iconst (pc := 34) hZ 0 dM_signOf_34 (by decide) ?_
          exact z_reti (pc := 35) hZ dM_signOf_35 .int rfl rfl ⟨_, rfl, rfl, rfl, (by exact ⟨by first | exact fun h => absurd rfl h | exact fun _ _ _ => sg_n (by assumption) | exact fun _ _ _ => sg_p (by assumption), Or.inr (Or.inr ⟨c2_1, c9_2, by first | exact Or.inl ⟨sgm_n (by assumption), rfl⟩ | exact Or.inr (Or.inr ⟨sgm_p (by assumption), rfl⟩) | exact Or.inr (Or.inl ⟨sgm_z (by assumption) (by assumption), rfl⟩)⟩)⟩)⟩
        · refine z_iconst (pc := 30) hZ 1 dM_signOf_30 (by decide) ?_
          refine z_goto (pc := 31) hZ 35 dM_signOf_31 (by decide) ?_
          exact z_reti (pc := 35) hZ dM_signOf_35 .int rfl rfl ⟨_, rfl, rfl, rfl, (by exact ⟨by first | exact fun h => absurd rfl h | exact fun _ _ _ => sg_n (by assumption) | exact fun _ _ _ => sg_p (by assumption), Or.inr (Or.inr ⟨c2_1, c9_2, by first | exact Or.inl ⟨sgm_n (by assumption), rfl⟩ | exact Or.inr (Or.inr ⟨sgm_p (by assumption), rfl⟩) | exact Or.inr (Or.inl ⟨sgm_z (by assumption) (by assumption), rfl⟩)⟩)⟩)⟩
      · refine z_iconst (pc := 20) hZ (-1) dM_signOf_20 (by decide) ?_
        refine z_goto (pc := 21) hZ 35 dM_signOf_21 (by decide) ?_
        exact z_reti (pc := 35) hZ dM_signOf_35 .int rfl rfl ⟨_, rfl, rfl, rfl, (by exact ⟨by first | exact fun h => absurd rfl h | exact fun _ _ _ => sg_n (by assumption) | exact fun _ _ _ => sg_p (by assumption), Or.inr (Or.inr ⟨c2_1, c9_2, by first | exact Or.inl ⟨sgm_n (by assumption), rfl⟩ | exact Or.inr (Or.inr ⟨sgm_p (by assumption), rfl⟩) | exact Or.inr (Or.inl ⟨sgm_z (by assumption) (by assumption), rfl⟩)⟩)⟩)⟩
    · refine z_iconst (pc := 12) hZ (-1) dM_signOf_12 (by decide) ?_
      exact z_reti (pc := 13) hZ dM_signOf_13 .int rfl rfl ⟨_, rfl, rfl, rfl, (by exact ⟨(fun _ _ h => absurd c9_2 h), Or.inr (Or.inl ⟨c2_1, c9_2, rfl⟩)⟩)⟩
  · refine z_iconst (pc := 5) hZ 1 dM_signOf_5 (by decide) ?_
    exact z_reti (pc := 6) hZ dM_signOf_6 .int rfl rfl ⟨_, rfl, rfl, rfl, (by exact ⟨(fun _ h => absurd c2_1 h), Or.inl ⟨c2_1, rfl⟩⟩)⟩
set_option maxHeartbeats 4000000 in
set_option maxRecDepth 100000 in
theorem cM_nearestOf (l : Launch) (D : va_G) (cR c1 c2 c3 : ClassId) (h0 a1 a2 a3 : Nat) (Y : va_W) (ka : Int32) (na : Int64) (ea : Int32) (kb : Int32) (nb : Int64) (eb : Int32) (k : Int32) (n : Int64) (e : Int32) (bits : Int64) (scale : Int32) (K : Nat → Int32) (N : Nat → Int64) (E : Nat → Int32) (p1 : Int64) (p2 : Int32) (hx4 : -4000 ≤ p2.toInt ∧ p2.toInt ≤ 4000) : zM l D vwCl zNF zNM yM_nearestOf wsM_nearestOf { frames := 2, cells := 0, slots := 0, locals := 57 } [.ref h0, .long p1, .int p2] (MW h0 a1 a2 a3 c1 c2 c3 (ka, na, ea, kb, nb, eb, k, n, e, bits, scale, K, N, E) ++ Y) (TY cR c1 c2 c3) (qV (fun w' tys' => ∃ k' : Int32, ∃ n' : Int64, ∃ e' : Int32, MW h0 a1 a2 a3 c1 c2 c3 (ka, na, ea, kb, nb, eb, k', n', e', bits, scale, K, N, E) ++ Y = w' ∧ (TY cR c1 c2 c3) = tys' ∧ ((RK k' n' e' ∧ GR n' e') ∧ (p1 = 0 → k' = 2 ∧ n' = 0 ∧ e' = 0) ∧ MA k' n' e' (rndS p1.toInt p2.toInt)))) := by
  refine z_met (cc := bM_nearestOf) (maxL := 6) (ret := none) (isI := false) (own := RM) (by decide +kernel) rfl rfl (fun h => by cases h) (Nat.le_of_ble_eq_true rfl) (fun Z hZ => ?_)
  show Z 0 0 (TY cR c1 c2 c3) 0 [(0, .ref h0), (1, .long p1), (3, .int p2)] [] (MW h0 a1 a2 a3 c1 c2 c3 (ka, na, ea, kb, nb, eb, k, n, e, bits, scale, K, N, E) ++ Y)
  refine z_lload_n (pc := 0) hZ 1 dM_nearestOf_0 rfl rfl ?_
  refine z_ldc2 (pc := 1) hZ (-9223372036854775808) (zb kc_M_41) dM_nearestOf_1 ?_
  refine z_lif_ne (pc := 4) hZ 19 dM_nearestOf_4 dM_nearestOf_5 (by decide) (fun c5_1 => ?_) (fun c5_1 => ?_)
  · refine z_lload_n (pc := 19) hZ 1 dM_nearestOf_19 rfl rfl ?_
    refine z_callS (pc := 20) (As := [.long p1]) (rest := []) hZ (cM_size l D (TY cR c1 c2 c3) (MW h0 a1 a2 a3 c1 c2 c3 (ka, na, ea, kb, nb, eb, k, n, e, bits, scale, K, N, E) ++ Y) p1) zyM_size (z_goodS ml_M_47 st_M_size in_M co_M_size) rfl rfl (by decide) rfl rfl (Nat.le_of_ble_eq_true rfl) ⟨Nat.zero_le _, Nat.zero_le _⟩ dM_nearestOf_20 (z_kl (fun r20_2 w1 tys1 hp => ?_))
    obtain ⟨rfl, rfl, p20_2⟩ := hp
    refine z_lstore (pc := 23) hZ [(4, .long r20_2), (0, .ref h0), (1, .long p1), (3, .int p2)] dM_nearestOf_23 (by decide) rfl ?_
    refine z_lload (pc := 25) hZ 0 dM_nearestOf_25 rfl ?_
    refine z_bipush (pc := 27) hZ 62 dM_nearestOf_27 (by decide) ?_
    refine z_lshr (pc := 29) hZ dM_nearestOf_29 (fun v29_3 ev29_3 => ?_)
    refine z_lconst (pc := 30) hZ 0 dM_nearestOf_30 (by decide) ?_
    refine z_lif_eq (pc := 31) hZ 65 dM_nearestOf_31 dM_nearestOf_32 (by decide) (fun c32_4 => ?_) (fun c32_4 => ?_)
    · refine z_aload_n (pc := 65) hZ 1 dM_nearestOf_65 rfl rfl ?_
      refine z_lload (pc := 66) hZ 0 dM_nearestOf_66 rfl ?_
      refine z_iload_n (pc := 68) hZ 3 dM_nearestOf_68 rfl rfl ?_
      refine z_lload_n (pc := 69) hZ 2 dM_nearestOf_69 rfl rfl ?_
      refine z_lconst (pc := 70) hZ 0 dM_nearestOf_70 (by decide) ?_
      refine z_lif_ge (pc := 71) hZ 79 dM_nearestOf_71 dM_nearestOf_72 (by decide) (fun c72_5 => ?_) (fun c72_5 => ?_)
      · refine z_iconst (pc := 79) hZ 0 dM_nearestOf_79 (by decide) ?_
        refine z_callV (pc := 80) (As := [.long r20_2, .int p2, .int 0]) (rest := []) hZ (cM_nearest l D cR c1 c2 c3 h0 a1 a2 a3 Y ka na ea kb nb eb k n e bits scale K N E r20_2 p2 0 (by exact (no_b c5_1 p20_2 ev29_3 c32_4).1) (by exact (no_b c5_1 p20_2 ev29_3 c32_4).2) (by omega)) zyM_nearest (z_goodV ml_M_43 im_M_nearest se_M_nearest in_M co_M_nearest) 0 rfl rfl rfl rfl (by decide) rfl rfl (Nat.le_of_ble_eq_true rfl) ⟨Nat.zero_le _, Nat.zero_le _⟩ dM_nearestOf_80 (z_kv (fun w1 tys1 hp => ?_))
        obtain ⟨k80_6, n80_6, e80_6, rfl, rfl, p80_6⟩ := hp
        exact z_retv (pc := 83) hZ dM_nearestOf_83 rfl ⟨rfl, _, _, _, rfl, rfl, (by first | exact ⟨(p80_6).1, (fun h => (p80_6).2.1 (no_z p20_2 h)), rndS_of 0 (nn_0 c72_5) (by rw [show r20_2.toInt.toNat = p1.toInt.natAbs by have := nof_b (v := 0) c5_1 p20_2; omega]) (p80_6).2.2⟩ | exact ⟨(p80_6).1, (fun h => (p80_6).2.1 (no_z p20_2 h)), rndS_of 1 (nn_1 c72_5) (by rw [show r20_2.toInt.toNat = p1.toInt.natAbs by have := nof_b (v := 0) c5_1 p20_2; omega]) (p80_6).2.2⟩ | exact ⟨(nokey_).1, (fun h => absurd (no_zs p20_2 ev29_3 h) c32_4), rndS_of 0 (nn_0 nokey_) (by rw [nof_s hx4 (nof_g c5_1 p20_2 ev29_3 c32_4) nokey_ nokey_ nokey_ nokey_, show r20_2.toInt.toNat = p1.toInt.natAbs by have := nof_b (v := 0) c5_1 p20_2; omega]) (nokey_).2.2⟩ | exact ⟨(nokey_).1, (fun h => absurd (no_zs p20_2 ev29_3 h) c32_4), rndS_of 1 (nn_1 nokey_) (by rw [nof_s hx4 (nof_g c5_1 p20_2 ev29_3 c32_4) nokey_ nokey_ nokey_ nokey_, show r20_2.toInt.toNat = p1.toInt.natAbs by have := nof_b (v := 0) c5_1 p20_2; omega]) (nokey_).2.2⟩)⟩
      · refine z_iconst (pc := 75) hZ 1 dM_nearestOf_75 (by decide) ?_
        refine z_goto (pc := 76) hZ 80 dM_nearestOf_76 (by decide) ?_
        refine z_callV (pc := 80) (As := [.long r20_2, .int p2, .int 1]) (rest := []) hZ (cM_nearest l D cR c1 c2 c3 h0 a1 a2 a3 Y ka na ea kb nb eb k n e bits scale K N E r20_2 p2 1 (by exact (no_b c5_1 p20_2 ev29_3 c32_4).1) (by exact (no_b c5_1 p20_2 ev29_3 c32_4).2) (by omega)) zyM_nearest (z_goodV ml_M_43 im_M_nearest se_M_nearest in_M co_M_nearest) 0 rfl rfl rfl rfl (by decide) rfl rfl (Nat.le_of_ble_eq_true rfl) ⟨Nat.zero_le _, Nat.zero_le _⟩ dM_nearestOf_80 (z_kv (fun w1 tys1 hp => ?_))
        obtain ⟨k80_7, n80_7, e80_7, rfl, rfl, p80_7⟩ := hp
        exact z_retv (pc := 83) hZ dM_nearestOf_83 rfl ⟨rfl, _, _, _, rfl, rfl, (by first | exact ⟨(p80_7).1, (fun h => (p80_7).2.1 (no_z p20_2 h)), rndS_of 0 (nn_0 c72_5) (by rw [show r20_2.toInt.toNat = p1.toInt.natAbs by have := nof_b (v := 0) c5_1 p20_2; omega]) (p80_7).2.2⟩ | exact ⟨(p80_7).1, (fun h => (p80_7).2.1 (no_z p20_2 h)), rndS_of 1 (nn_1 c72_5) (by rw [show r20_2.toInt.toNat = p1.toInt.natAbs by have := nof_b (v := 0) c5_1 p20_2; omega]) (p80_7).2.2⟩ | exact ⟨(nokey_).1, (fun h => absurd (no_zs p20_2 ev29_3 h) c32_4), rndS_of 0 (nn_0 nokey_) (by rw [nof_s hx4 (nof_g c5_1 p20_2 ev29_3 c32_4) nokey_ nokey_ nokey_ nokey_, show r20_2.toInt.toNat = p1.toInt.natAbs by have := nof_b (v := 0) c5_1 p20_2; omega]) (nokey_).2.2⟩ | exact ⟨(nokey_).1, (fun h => absurd (no_zs p20_2 ev29_3 h) c32_4), rndS_of 1 (nn_1 nokey_) (by rw [nof_s hx4 (nof_g c5_1 p20_2 ev29_3 c32_4) nokey_ nokey_ nokey_ nokey_, show r20_2.toInt.toNat = p1.toInt.natAbs by have := nof_b (v := 0) c5_1 p20_2; omega]) (nokey_).2.2⟩)⟩
    · refine z_aload_n (pc := 35) hZ 1 dM_nearestOf_35 rfl rfl ?_
      refine z_lload (pc := 36) hZ 0 dM_nearestOf_36 rfl ?_
      refine z_iconst (pc := 38) hZ 1 dM_nearestOf_38 (by decide) ?_
      refine z_lshr (pc := 39) hZ dM_nearestOf_39 (fun v39_8 ev39_8 => ?_)
      refine z_lload (pc := 40) hZ 0 dM_nearestOf_40 rfl ?_
      refine z_lconst (pc := 42) hZ 1 dM_nearestOf_42 (by decide) ?_
      refine z_land (pc := 43) hZ dM_nearestOf_43 (fun v43_9 ev43_9 => ?_)
      refine z_lor (pc := 44) hZ dM_nearestOf_44 (fun v44_10 ev44_10 => ?_)
      refine z_iload_n (pc := 45) hZ 3 dM_nearestOf_45 rfl rfl ?_
      refine z_iconst (pc := 46) hZ 1 dM_nearestOf_46 (by decide) ?_
      refine z_iadd (pc := 47) hZ dM_nearestOf_47 (fun v47_11 ev47_11 => ?_)
      refine z_lload_n (pc := 48) hZ 2 dM_nearestOf_48 rfl rfl ?_
      refine z_lconst (pc := 49) hZ 0 dM_nearestOf_49 (by decide) ?_
      refine z_lif_ge (pc := 50) hZ 58 dM_nearestOf_50 dM_nearestOf_51 (by decide) (fun c51_12 => ?_) (fun c51_12 => ?_)
      · refine z_iconst (pc := 58) hZ 0 dM_nearestOf_58 (by decide) ?_
        refine z_callV (pc := 59) (As := [.long v44_10, .int v47_11, .int 0]) (rest := []) hZ (cM_nearest l D cR c1 c2 c3 h0 a1 a2 a3 Y ka na ea kb nb eb k n e bits scale K N E v44_10 v47_11 0 (by exact (no_a c5_1 p20_2 ev39_8 ev43_9 ev44_10).1) (by exact (no_a c5_1 p20_2 ev39_8 ev43_9 ev44_10).2) (by exact no_1 hx4 ev47_11)) zyM_nearest (z_goodV ml_M_43 im_M_nearest se_M_nearest in_M co_M_nearest) 0 rfl rfl rfl rfl (by decide) rfl rfl (Nat.le_of_ble_eq_true rfl) ⟨Nat.zero_le _, Nat.zero_le _⟩ dM_nearestOf_59 (z_kv (fun w1 tys1 hp => ?_))
        obtain ⟨k59_13, n59_13, e59_13, rfl, rfl, p59_13⟩ := hp
        refine z_goto (pc := 62) hZ 83 dM_nearestOf_62 (by decide) ?_
        exact z_retv (pc := 83) hZ dM_nearestOf_83 rfl ⟨rfl, _, _, _, rfl, rfl, (by first | exact ⟨(nokey_).1, (fun h => (nokey_).2.1 (no_z p20_2 h)), rndS_of 0 (nn_0 nokey_) (by rw [show r20_2.toInt.toNat = p1.toInt.natAbs by have := nof_b (v := 0) c5_1 p20_2; omega]) (nokey_).2.2⟩ | exact ⟨(nokey_).1, (fun h => (nokey_).2.1 (no_z p20_2 h)), rndS_of 1 (nn_1 nokey_) (by rw [show r20_2.toInt.toNat = p1.toInt.natAbs by have := nof_b (v := 0) c5_1 p20_2; omega]) (nokey_).2.2⟩ | exact ⟨(p59_13).1, (fun h => absurd (no_zs p20_2 ev29_3 h) c32_4), rndS_of 0 (nn_0 c51_12) (by rw [nof_s hx4 (nof_g c5_1 p20_2 ev29_3 c32_4) ev39_8 ev43_9 ev44_10 ev47_11, show r20_2.toInt.toNat = p1.toInt.natAbs by have := nof_b (v := 0) c5_1 p20_2; omega]) (p59_13).2.2⟩ | exact ⟨(p59_13).1, (fun h => absurd (no_zs p20_2 ev29_3 h) c32_4), rndS_of 1 (nn_1 c51_12) (by rw [nof_s hx4 (nof_g c5_1 p20_2 ev29_3 c32_4) ev39_8 ev43_9 ev44_10 ev47_11, show r20_2.toInt.toNat = p1.toInt.natAbs by have := nof_b (v := 0) c5_1 p20_2; omega]) (p59_13).2.2⟩)⟩
      · refine z_iconst (pc := 54) hZ 1 dM_nearestOf_54 (by decide) ?_
        refine z_goto (pc := 55) hZ 59 dM_nearestOf_55 (by decide) ?_
        refine z_callV (pc := 59) (As := [.long v44_10, .int v47_11, .int 1]) (rest := []) hZ (cM_nearest l D cR c1 c2 c3 h0 a1 a2 a3 Y ka na ea kb nb eb k n e bits scale K N E v44_10 v47_11 1 (by exact (no_a c5_1 p20_2 ev39_8 ev43_9 ev44_10).1) (by exact (no_a c5_1 p20_2 ev39_8 ev43_9 ev44_10).2) (by exact no_1 hx4 ev47_11)) zyM_nearest (z_goodV ml_M_43 im_M_nearest se_M_nearest in_M co_M_nearest) 0 rfl rfl rfl rfl (by decide) rfl rfl (Nat.le_of_ble_eq_true rfl) ⟨Nat.zero_le _, Nat.zero_le _⟩ dM_nearestOf_59 (z_kv (fun w1 tys1 hp => ?_))
        obtain ⟨k59_14, n59_14, e59_14, rfl, rfl, p59_14⟩ := hp
        refine z_goto (pc := 62) hZ 83 dM_nearestOf_62 (by decide) ?_
        exact z_retv (pc := 83) hZ dM_nearestOf_83 rfl ⟨rfl, _, _, _, rfl, rfl, (by first | exact ⟨(nokey_).1, (fun h => (nokey_).2.1 (no_z p20_2 h)), rndS_of 0 (nn_0 nokey_) (by rw [show r20_2.toInt.toNat = p1.toInt.natAbs by have := nof_b (v := 0) c5_1 p20_2; omega]) (nokey_).2.2⟩ | exact ⟨(nokey_).1, (fun h => (nokey_).2.1 (no_z p20_2 h)), rndS_of 1 (nn_1 nokey_) (by rw [show r20_2.toInt.toNat = p1.toInt.natAbs by have := nof_b (v := 0) c5_1 p20_2; omega]) (nokey_).2.2⟩ | exact ⟨(p59_14).1, (fun h => absurd (no_zs p20_2 ev29_3 h) c32_4), rndS_of 0 (nn_0 c51_12) (by rw [nof_s hx4 (nof_g c5_1 p20_2 ev29_3 c32_4) ev39_8 ev43_9 ev44_10 ev47_11, show r20_2.toInt.toNat = p1.toInt.natAbs by have := nof_b (v := 0) c5_1 p20_2; omega]) (p59_14).2.2⟩ | exact ⟨(p59_14).1, (fun h => absurd (no_zs p20_2 ev29_3 h) c32_4), rndS_of 1 (nn_1 c51_12) (by rw [nof_s hx4 (nof_g c5_1 p20_2 ev29_3 c32_4) ev39_8 ev43_9 ev44_10 ev47_11, show r20_2.toInt.toNat = p1.toInt.natAbs by have := nof_b (v := 0) c5_1 p20_2; omega]) (p59_14).2.2⟩)⟩
  · refine z_aload_n (pc := 8) hZ 0 dM_nearestOf_8 rfl rfl ?_
    refine z_lconst (pc := 9) hZ 1 dM_nearestOf_9 (by decide) ?_
    refine z_iload_n (pc := 10) hZ 2 dM_nearestOf_10 rfl rfl ?_
    refine z_bipush (pc := 11) hZ 63 dM_nearestOf_11 (by decide) ?_
    refine z_iadd (pc := 13) hZ dM_nearestOf_13 (fun v13_15 ev13_15 => ?_)
    refine z_iconst (pc := 14) hZ 1 dM_nearestOf_14 (by decide) ?_
    refine z_callV (pc := 15) (As := [.long 1, .int v13_15, .int 1]) (rest := []) hZ (cM_nearest l D cR c1 c2 c3 h0 a1 a2 a3 Y ka na ea kb nb eb k n e bits scale K N E 1 v13_15 1 (by decide) (by decide) (by exact no_63 hx4 ev13_15)) zyM_nearest (z_goodV ml_M_43 im_M_nearest se_M_nearest in_M co_M_nearest) 0 rfl rfl rfl rfl (by decide) rfl rfl (Nat.le_of_ble_eq_true rfl) ⟨Nat.zero_le _, Nat.zero_le _⟩ dM_nearestOf_15 (z_kv (fun w1 tys1 hp => ?_))
    obtain ⟨k15_16, n15_16, e15_16, rfl, rfl, p15_16⟩ := hp
    exact z_retv (pc := 18) hZ dM_nearestOf_18 rfl ⟨rfl, _, _, _, rfl, rfl, (by exact ⟨(p15_16).1, (fun h => absurd (h.symm.trans c5_1) (by decide)), rndS_of 1 (nof_m hx4 c5_1 ev13_15).2 (nof_m hx4 c5_1 ev13_15).1 (p15_16).2.2⟩)⟩
set_option maxHeartbeats 4000000 in
set_option maxRecDepth 100000 in
theorem cM_product (l : Launch) (D : va_G) (cR c1 c2 c3 : ClassId) (h0 a1 a2 a3 : Nat) (Y : va_W) (ka : Int32) (na : Int64) (ea : Int32) (kb : Int32) (nb : Int64) (eb : Int32) (k : Int32) (n : Int64) (e : Int32) (bits : Int64) (scale : Int32) (K : Nat → Int32) (N : Nat → Int64) (E : Nat → Int32) (p1 : Int64) (p2 : Int64) (ha : 0 ≤ p1.toInt ∧ p1.toInt ≤ 9007199254740992) (hb2 : 0 ≤ p2.toInt ∧ p2.toInt ≤ 9007199254740992) : zM l D vwCl zNF zNM yM_product wsM_product { frames := 1, cells := 0, slots := 0, locals := 22 } [.ref h0, .long p1, .long p2] (MW h0 a1 a2 a3 c1 c2 c3 (ka, na, ea, kb, nb, eb, k, n, e, bits, scale, K, N, E) ++ Y) (TY cR c1 c2 c3) (qV (fun w' tys' => ∃ bits' : Int64, ∃ scale' : Int32, MW h0 a1 a2 a3 c1 c2 c3 (ka, na, ea, kb, nb, eb, k, n, e, bits', scale', K, N, E) ++ Y = w' ∧ (TY cR c1 c2 c3) = tys' ∧ (((0 ≤ bits'.toInt ∧ bits'.toInt < 4611686018427387904) ∧ 0 ≤ scale'.toInt ∧ scale'.toInt ≤ 54) ∧ PRD p1.toInt.toNat p2.toInt.toNat bits' scale'))) := by
  refine z_met (cc := bM_product) (maxL := 17) (ret := none) (isI := false) (own := RM) (by decide +kernel) rfl rfl (fun h => by cases h) (Nat.le_of_ble_eq_true rfl) (fun Z hZ => ?_)
  show Z 0 0 (TY cR c1 c2 c3) 0 [(0, .ref h0), (1, .long p1), (3, .long p2)] [] (MW h0 a1 a2 a3 c1 c2 c3 (ka, na, ea, kb, nb, eb, k, n, e, bits, scale, K, N, E) ++ Y)
  refine z_lload_n (pc := 0) hZ 1 dM_product_0 rfl rfl ?_
  refine z_ldc2 (pc := 1) hZ 134217727 (zb kc_M_93) dM_product_1 ?_
  refine z_land (pc := 4) hZ dM_product_4 (fun v4_1 ev4_1 => ?_)
  refine z_lload_n (pc := 5) hZ 2 dM_product_5 rfl rfl ?_
  refine z_ldc2 (pc := 6) hZ 134217727 (zb kc_M_93) dM_product_6 ?_
  refine z_land (pc := 9) hZ dM_product_9 (fun v9_2 ev9_2 => ?_)
  refine z_lmul (pc := 10) hZ dM_product_10 (fun v10_3 ev10_3 => ?_)
  refine z_lstore (pc := 11) hZ [(5, .long v10_3), (0, .ref h0), (1, .long p1), (3, .long p2)] dM_product_11 (by decide) rfl ?_
  refine z_lload_n (pc := 13) hZ 2 dM_product_13 rfl rfl ?_
  refine z_bipush (pc := 14) hZ 27 dM_product_14 (by decide) ?_
  refine z_lshr (pc := 16) hZ dM_product_16 (fun v16_4 ev16_4 => ?_)
  refine z_lload_n (pc := 17) hZ 3 dM_product_17 rfl rfl ?_
  refine z_ldc2 (pc := 18) hZ 134217727 (zb kc_M_93) dM_product_18 ?_
  refine z_land (pc := 21) hZ dM_product_21 (fun v21_5 ev21_5 => ?_)
  refine z_lmul (pc := 22) hZ dM_product_22 (fun v22_6 ev22_6 => ?_)
  refine z_lload_n (pc := 23) hZ 2 dM_product_23 rfl rfl ?_
  refine z_ldc2 (pc := 24) hZ 134217727 (zb kc_M_93) dM_product_24 ?_
  refine z_land (pc := 27) hZ dM_product_27 (fun v27_7 ev27_7 => ?_)
  refine z_lload_n (pc := 28) hZ 3 dM_product_28 rfl rfl ?_
  refine z_bipush (pc := 29) hZ 27 dM_product_29 (by decide) ?_
  refine z_lshr (pc := 31) hZ dM_product_31 (fun v31_8 ev31_8 => ?_)
  refine z_lmul (pc := 32) hZ dM_product_32 (fun v32_9 ev32_9 => ?_)
  refine z_ladd (pc := 33) hZ dM_product_33 (fun v33_10 ev33_10 => ?_)
  refine z_lload (pc := 34) hZ 0 dM_product_34 rfl ?_
  refine z_bipush (pc := 36) hZ 27 dM_product_36 (by decide) ?_
  refine z_lshr (pc := 38) hZ dM_product_38 (fun v38_11 ev38_11 => ?_)
  refine z_ladd (pc := 39) hZ dM_product_39 (fun v39_12 ev39_12 => ?_)
  refine z_lstore (pc := 40) hZ [(7, .long v39_12), (5, .long v10_3), (0, .ref h0), (1, .long p1), (3, .long p2)] dM_product_40 (by decide) rfl ?_
  refine z_lload_n (pc := 42) hZ 3 dM_product_42 rfl rfl ?_
  refine z_bipush (pc := 43) hZ 27 dM_product_43 (by decide) ?_
  refine z_lshr (pc := 45) hZ dM_product_45 (fun v45_13 ev45_13 => ?_)
  refine z_lload_n (pc := 46) hZ 4 dM_product_46 rfl rfl ?_
  refine z_bipush (pc := 47) hZ 27 dM_product_47 (by decide) ?_
  refine z_lshr (pc := 49) hZ dM_product_49 (fun v49_14 ev49_14 => ?_)
  refine z_lmul (pc := 50) hZ dM_product_50 (fun v50_15 ev50_15 => ?_)
  refine z_lload (pc := 51) hZ 0 dM_product_51 rfl ?_
  refine z_bipush (pc := 53) hZ 27 dM_product_53 (by decide) ?_
  refine z_lshr (pc := 55) hZ dM_product_55 (fun v55_16 ev55_16 => ?_)
  refine z_ladd (pc := 56) hZ dM_product_56 (fun v56_17 ev56_17 => ?_)
  have HI := pr_hi ha hb2 ev4_1 ev9_2 ev10_3 ev16_4 ev21_5 ev22_6 ev27_7 ev31_8 ev32_9 ev33_10 ev38_11 ev39_12 ev45_13 ev49_14 ev50_15 ev55_16 ev56_17
  refine z_lstore (pc := 57) hZ [(9, .long v56_17), (7, .long v39_12), (5, .long v10_3), (0, .ref h0), (1, .long p1), (3, .long p2)] dM_product_57 (by decide) rfl ?_
  refine z_lload (pc := 59) hZ 1 dM_product_59 rfl ?_
  refine z_ldc2 (pc := 61) hZ 134217727 (zb kc_M_93) dM_product_61 ?_
  refine z_land (pc := 64) hZ dM_product_64 (fun v64_18 ev64_18 => ?_)
  have HM := pr_m HI.2.2.1 ev64_18
  refine z_lstore (pc := 65) hZ [(11, .long v64_18), (9, .long v56_17), (7, .long v39_12), (5, .long v10_3), (0, .ref h0), (1, .long p1), (3, .long p2)] dM_product_65 (by decide) rfl ?_
  refine z_lload (pc := 67) hZ 3 dM_product_67 rfl ?_
  refine z_ldc2 (pc := 69) hZ 134217727 (zb kc_M_93) dM_product_69 ?_
  refine z_land (pc := 72) hZ dM_product_72 (fun v72_19 ev72_19 => ?_)
  have HL := pr_m HI.2.2.2 ev72_19
  obtain ⟨H9, R9, L9, hH9, hR9, hL9, lR9, lL9, hP9⟩ := pv ha hb2 ev4_1 ev9_2 ev10_3 ev16_4 ev21_5 ev22_6 ev27_7 ev31_8 ev32_9 ev33_10 ev38_11 ev39_12 ev45_13 ev49_14 ev50_15 ev55_16 ev56_17 ev64_18 ev72_19
  refine z_lstore (pc := 73) hZ [(13, .long v72_19), (11, .long v64_18), (9, .long v56_17), (7, .long v39_12), (5, .long v10_3), (0, .ref h0), (1, .long p1), (3, .long p2)] dM_product_73 (by decide) rfl ?_
  refine z_aload_n (pc := 75) hZ 5 dM_product_75 rfl rfl ?_
  refine z_lload (pc := 76) hZ 2 dM_product_76 rfl ?_
  refine z_put (pc := 78) (ci := 2) hZ 0 rfl rfl uc_M 12 (by decide) (zb fl_M_95) tyM tyM_ok nmM rfl rfl rfl (Nat.le_of_ble_eq_true rfl) dM_product_78 ?_
  show Z 0 0 (TY cR c1 c2 c3) (78 + 3) [(13, .long v72_19), (11, .long v64_18), (9, .long v56_17), (7, .long v39_12), (5, .long v10_3), (0, .ref h0), (1, .long p1), (3, .long p2)] [] (MW h0 a1 a2 a3 c1 c2 c3 (ka, na, ea, kb, nb, eb, k, n, e, v56_17, scale, K, N, E) ++ Y)
  refine z_aload_n (pc := 81) hZ 5 dM_product_81 rfl rfl ?_
  refine z_bipush (pc := 82) hZ 54 dM_product_82 (by decide) ?_
  refine z_put (pc := 84) (ci := 2) hZ 0 rfl rfl uc_M 13 (by decide) (zb fl_M_98) tyM tyM_ok nmM rfl rfl rfl (Nat.le_of_ble_eq_true rfl) dM_product_84 ?_
  show Z 0 0 (TY cR c1 c2 c3) (84 + 3) [(13, .long v72_19), (11, .long v64_18), (9, .long v56_17), (7, .long v39_12), (5, .long v10_3), (0, .ref h0), (1, .long p1), (3, .long p2)] [] (MW h0 a1 a2 a3 c1 c2 c3 (ka, na, ea, kb, nb, eb, k, n, e, v56_17, 54, K, N, E) ++ Y)
  refine z_lload (pc := 87) hZ 2 dM_product_87 rfl ?_
  refine z_lconst (pc := 89) hZ 0 dM_product_89 (by decide) ?_
  refine z_lif_ne (pc := 90) hZ 99 dM_product_90 dM_product_91 (by decide) (fun c91_20 => ?_) (fun c91_20 => ?_)
  · refine z_lload (pc := 99) hZ 2 dM_product_99 rfl ?_
    refine z_callS (pc := 101) (As := [.long v56_17]) (rest := []) hZ (cM_room l D (TY cR c1 c2 c3) (MW h0 a1 a2 a3 c1 c2 c3 (ka, na, ea, kb, nb, eb, k, n, e, v56_17, 54, K, N, E) ++ Y) v56_17 (by exact pos_ne HI.1 c91_20) (by exact HI.2.1)) zyM_room (z_goodS ml_M_78 st_M_room in_M co_M_room) rfl rfl (by decide) rfl rfl (Nat.le_of_ble_eq_true rfl) ⟨Nat.zero_le _, Nat.zero_le _⟩ dM_product_101 (z_ki (fun r101_21 w1 tys1 hp => ?_))
    obtain ⟨rfl, rfl, p101_21⟩ := hp
    refine z_istore (pc := 104) hZ [(15, .int r101_21), (13, .long v72_19), (11, .long v64_18), (9, .long v56_17), (7, .long v39_12), (5, .long v10_3), (0, .ref h0), (1, .long p1), (3, .long p2)] dM_product_104 (by decide) rfl ?_
    refine z_iload (pc := 106) hZ 0 dM_product_106 rfl ?_
    refine z_bipush (pc := 108) hZ 27 dM_product_108 (by decide) ?_
    refine z_icmp_le (pc := 110) hZ 118 dM_product_110 (by decide) (fun c110_22 => ?_) (fun c110_22 => ?_)
    · refine z_iload (pc := 118) hZ 0 dM_product_118 rfl ?_
      refine z_istore (pc := 120) hZ [(15, .int r101_21), (13, .long v72_19), (11, .long v64_18), (9, .long v56_17), (7, .long v39_12), (5, .long v10_3), (0, .ref h0), (1, .long p1), (3, .long p2)] dM_product_120 (by decide) rfl ?_
      have U1 : UP v56_17 r101_21 := by first | exact up_27 p101_21 c110_22 | exact up_r p101_21 c110_22 | exact up_0 c91_20
      have N1 : UPN v56_17 r101_21 := by first | exact upn_27 | exact upn_r p101_21
      refine z_aload_n (pc := 122) hZ 6 dM_product_122 rfl rfl ?_
      refine z_aload_n (pc := 123) hZ 6 dM_product_123 rfl rfl ?_
      refine z_get (pc := 124) (ci := 2) hZ 0 rfl rfl uc_M 12 (by decide) (zb fl_M_95) rfl dM_product_124 ?_
      refine z_iload (pc := 127) hZ 0 dM_product_127 rfl ?_
      refine z_lshl (pc := 129) hZ dM_product_129 (fun v129_23 ev129_23 => ?_)
      refine z_lload (pc := 130) hZ 2 dM_product_130 rfl ?_
      refine z_bipush (pc := 132) hZ 27 dM_product_132 (by decide) ?_
      refine z_iload (pc := 134) hZ 0 dM_product_134 rfl ?_
      refine z_isub (pc := 136) hZ dM_product_136 (fun v136_24 ev136_24 => ?_)
      refine z_lshr (pc := 137) hZ dM_product_137 (fun v137_25 ev137_25 => ?_)
      refine z_lor (pc := 138) hZ dM_product_138 (fun v138_26 ev138_26 => ?_)
      have B1 := pr_b U1 HI.1 HM ev129_23 ev136_24 ev137_25 ev138_26
      obtain ⟨U9, k9, hU9, hk9, hd9, hv9⟩ := pv_b U1 hH9 hR9 lR9 ev129_23 ev136_24 ev137_25 ev138_26
      refine z_put (pc := 139) (ci := 2) hZ 0 rfl rfl uc_M 12 (by decide) (zb fl_M_95) tyM tyM_ok nmM rfl rfl rfl (Nat.le_of_ble_eq_true rfl) dM_product_139 ?_
      show Z 0 0 (TY cR c1 c2 c3) (139 + 3) [(15, .int r101_21), (13, .long v72_19), (11, .long v64_18), (9, .long v56_17), (7, .long v39_12), (5, .long v10_3), (0, .ref h0), (1, .long p1), (3, .long p2)] [] (MW h0 a1 a2 a3 c1 c2 c3 (ka, na, ea, kb, nb, eb, k, n, e, v138_26, 54, K, N, E) ++ Y)
      refine z_aload_n (pc := 142) hZ 6 dM_product_142 rfl rfl ?_
      refine z_dup (pc := 143) hZ dM_product_143 rfl ?_
      refine z_get (pc := 144) (ci := 2) hZ 0 rfl rfl uc_M 13 (by decide) (zb fl_M_98) rfl dM_product_144 ?_
      refine z_iload (pc := 147) hZ 0 dM_product_147 rfl ?_
      refine z_isub (pc := 149) hZ dM_product_149 (fun v149_27 ev149_27 => ?_)
      have S1 := pr_s1 U1 ev149_27
      refine z_put (pc := 150) (ci := 2) hZ 0 rfl rfl uc_M 13 (by decide) (zb fl_M_98) tyM tyM_ok nmM rfl rfl rfl (Nat.le_of_ble_eq_true rfl) dM_product_150 ?_
      show Z 0 0 (TY cR c1 c2 c3) (150 + 3) [(15, .int r101_21), (13, .long v72_19), (11, .long v64_18), (9, .long v56_17), (7, .long v39_12), (5, .long v10_3), (0, .ref h0), (1, .long p1), (3, .long p2)] [] (MW h0 a1 a2 a3 c1 c2 c3 (ka, na, ea, kb, nb, eb, k, n, e, v138_26, v149_27, K, N, E) ++ Y)
      refine z_iload (pc := 153) hZ 0 dM_product_153 rfl ?_
      refine z_bipush (pc := 155) hZ 27 dM_product_155 (by decide) ?_
      refine z_icmp_ge (pc := 157) hZ 214 dM_product_157 (by decide) (fun c157_28 => ?_) (fun c157_28 => ?_)
      · refine z_aload_n (pc := 214) hZ 6 dM_product_214 rfl rfl ?_
        refine z_get (pc := 215) (ci := 2) hZ 0 rfl rfl uc_M 12 (by decide) (zb fl_M_95) rfl dM_product_215 ?_
        refine z_lconst (pc := 218) hZ 0 dM_product_218 (by decide) ?_
        refine z_lif_ne (pc := 219) hZ 228 dM_product_219 dM_product_220 (by decide) (fun c220_29 => ?_) (fun c220_29 => ?_)
        · refine z_aload_n (pc := 228) hZ 6 dM_product_228 rfl rfl ?_
          refine z_get (pc := 229) (ci := 2) hZ 0 rfl rfl uc_M 12 (by decide) (zb fl_M_95) rfl dM_product_229 ?_
          refine z_callS (pc := 232) (As := [.long v138_26]) (rest := []) hZ (cM_room l D (TY cR c1 c2 c3) (MW h0 a1 a2 a3 c1 c2 c3 (ka, na, ea, kb, nb, eb, k, n, e, v138_26, v149_27, K, N, E) ++ Y) v138_26 (by exact pos_ne B1.1 c220_29) (by exact B1.2)) zyM_room (z_goodS ml_M_78 st_M_room in_M co_M_room) rfl rfl (by decide) rfl rfl (Nat.le_of_ble_eq_true rfl) ⟨Nat.zero_le _, Nat.zero_le _⟩ dM_product_232 (z_ki (fun r232_30 w1 tys1 hp => ?_))
          obtain ⟨rfl, rfl, p232_30⟩ := hp
          refine z_istore (pc := 235) hZ [(16, .int r232_30), (15, .int r101_21), (13, .long v72_19), (11, .long v64_18), (9, .long v56_17), (7, .long v39_12), (5, .long v10_3), (0, .ref h0), (1, .long p1), (3, .long p2)] dM_product_235 (by decide) rfl ?_
          refine z_iload (pc := 237) hZ 0 dM_product_237 rfl ?_
          refine z_bipush (pc := 239) hZ 27 dM_product_239 (by decide) ?_
          refine z_icmp_le (pc := 241) hZ 249 dM_product_241 (by decide) (fun c241_31 => ?_) (fun c241_31 => ?_)
          · refine z_iload (pc := 249) hZ 0 dM_product_249 rfl ?_
            refine z_istore (pc := 251) hZ [(16, .int r232_30), (15, .int r101_21), (13, .long v72_19), (11, .long v64_18), (9, .long v56_17), (7, .long v39_12), (5, .long v10_3), (0, .ref h0), (1, .long p1), (3, .long p2)] dM_product_251 (by decide) rfl ?_
            have U2 : UP v138_26 r232_30 := by first | exact up_27 p232_30 c241_31 | exact up_r p232_30 c241_31 | exact up_0 c220_29
            have N2 : UPN v138_26 r232_30 := by first | exact upn_27 | exact upn_r p232_30
            have u27 : U9 = 27 := upx27 hU9 hk9 c157_28
            have hb9 := upx_b u27 hk9 hv9
            refine z_aload_n (pc := 253) hZ 7 dM_product_253 rfl rfl ?_
            refine z_aload_n (pc := 254) hZ 7 dM_product_254 rfl rfl ?_
            refine z_get (pc := 255) (ci := 2) hZ 0 rfl rfl uc_M 12 (by decide) (zb fl_M_95) rfl dM_product_255 ?_
            refine z_iload (pc := 258) hZ 0 dM_product_258 rfl ?_
            refine z_lshl (pc := 260) hZ dM_product_260 (fun v260_32 ev260_32 => ?_)
            refine z_lload (pc := 261) hZ 2 dM_product_261 rfl ?_
            refine z_bipush (pc := 263) hZ 27 dM_product_263 (by decide) ?_
            refine z_iload (pc := 265) hZ 0 dM_product_265 rfl ?_
            refine z_isub (pc := 267) hZ dM_product_267 (fun v267_33 ev267_33 => ?_)
            refine z_lshr (pc := 268) hZ dM_product_268 (fun v268_34 ev268_34 => ?_)
            refine z_lor (pc := 269) hZ dM_product_269 (fun v269_35 ev269_35 => ?_)
            have B2 := pr_b U2 B1.1 HL ev260_32 ev267_33 ev268_34 ev269_35
            obtain ⟨U8, k8, hU8, hk8, hd8, hv8⟩ := pv_b U2 hb9 hL9 lL9 ev260_32 ev267_33 ev268_34 ev269_35
            refine z_put (pc := 270) (ci := 2) hZ 0 rfl rfl uc_M 12 (by decide) (zb fl_M_95) tyM tyM_ok nmM rfl rfl rfl (Nat.le_of_ble_eq_true rfl) dM_product_270 ?_
            show Z 0 0 (TY cR c1 c2 c3) (270 + 3) [(16, .int r232_30), (15, .int r101_21), (13, .long v72_19), (11, .long v64_18), (9, .long v56_17), (7, .long v39_12), (5, .long v10_3), (0, .ref h0), (1, .long p1), (3, .long p2)] [] (MW h0 a1 a2 a3 c1 c2 c3 (ka, na, ea, kb, nb, eb, k, n, e, v269_35, v149_27, K, N, E) ++ Y)
            refine z_aload_n (pc := 273) hZ 7 dM_product_273 rfl rfl ?_
            refine z_dup (pc := 274) hZ dM_product_274 rfl ?_
            refine z_get (pc := 275) (ci := 2) hZ 0 rfl rfl uc_M 13 (by decide) (zb fl_M_98) rfl dM_product_275 ?_
            refine z_iload (pc := 278) hZ 0 dM_product_278 rfl ?_
            refine z_isub (pc := 280) hZ dM_product_280 (fun v280_36 ev280_36 => ?_)
            have S2 := pr_s U2 S1 ev280_36
            refine z_put (pc := 281) (ci := 2) hZ 0 rfl rfl uc_M 13 (by decide) (zb fl_M_98) tyM tyM_ok nmM rfl rfl rfl (Nat.le_of_ble_eq_true rfl) dM_product_281 ?_
            show Z 0 0 (TY cR c1 c2 c3) (281 + 3) [(16, .int r232_30), (15, .int r101_21), (13, .long v72_19), (11, .long v64_18), (9, .long v56_17), (7, .long v39_12), (5, .long v10_3), (0, .ref h0), (1, .long p1), (3, .long p2)] [] (MW h0 a1 a2 a3 c1 c2 c3 (ka, na, ea, kb, nb, eb, k, n, e, v269_35, v280_36, K, N, E) ++ Y)
            refine z_lload (pc := 284) hZ 2 dM_product_284 rfl ?_
            refine z_lconst (pc := 286) hZ 1 dM_product_286 (by decide) ?_
            refine z_bipush (pc := 287) hZ 27 dM_product_287 (by decide) ?_
            refine z_iload (pc := 289) hZ 0 dM_product_289 rfl ?_
            refine z_isub (pc := 291) hZ dM_product_291 (fun v291_37 ev291_37 => ?_)
            refine z_lshl (pc := 292) hZ dM_product_292 (fun v292_38 ev292_38 => ?_)
            refine z_lconst (pc := 293) hZ 1 dM_product_293 (by decide) ?_
            refine z_lsub (pc := 294) hZ dM_product_294 (fun v294_39 ev294_39 => ?_)
            refine z_land (pc := 295) hZ dM_product_295 (fun v295_40 ev295_40 => ?_)
            refine z_lconst (pc := 296) hZ 0 dM_product_296 (by decide) ?_
            refine z_lif_eq (pc := 297) hZ 311 dM_product_297 dM_product_298 (by decide) (fun c298_41 => ?_) (fun c298_41 => ?_)
            · exact z_retv (pc := 311) hZ dM_product_311 rfl ⟨rfl, _, _, rfl, rfl, (by first | exact ⟨⟨pr_o B2 nokey_, S2⟩, prd_2 hb9 (upx_s u27 hU9 ev149_27) N2 hU8 hk8 lL9 hP9 hv8 ev280_36 (Or.inl ⟨fun z => c298_41 ((mk_k (upx_d hk8 hU8 ev291_37) (by omega) ev292_38 ev294_39 hL9 ev295_40).mpr z), nokey_⟩)⟩ | exact ⟨⟨B2, S2⟩, prd_2 hb9 (upx_s u27 hU9 ev149_27) N2 hU8 hk8 lL9 hP9 hv8 ev280_36 (Or.inr ⟨(mk_k (upx_d hk8 hU8 ev291_37) (by omega) ev292_38 ev294_39 hL9 ev295_40).mp c298_41, rfl⟩)⟩)⟩
            · refine z_aload_n (pc := 301) hZ 7 dM_product_301 rfl rfl ?_
              refine z_dup (pc := 302) hZ dM_product_302 rfl ?_
              refine z_get (pc := 303) (ci := 2) hZ 0 rfl rfl uc_M 12 (by decide) (zb fl_M_95) rfl dM_product_303 ?_
              refine z_lconst (pc := 306) hZ 1 dM_product_306 (by decide) ?_
              refine z_lor (pc := 307) hZ dM_product_307 (fun v307_42 ev307_42 => ?_)
              refine z_put (pc := 308) (ci := 2) hZ 0 rfl rfl uc_M 12 (by decide) (zb fl_M_95) tyM tyM_ok nmM rfl rfl rfl (Nat.le_of_ble_eq_true rfl) dM_product_308 ?_
              show Z 0 0 (TY cR c1 c2 c3) (308 + 3) [(16, .int r232_30), (15, .int r101_21), (13, .long v72_19), (11, .long v64_18), (9, .long v56_17), (7, .long v39_12), (5, .long v10_3), (0, .ref h0), (1, .long p1), (3, .long p2)] [] (MW h0 a1 a2 a3 c1 c2 c3 (ka, na, ea, kb, nb, eb, k, n, e, v307_42, v280_36, K, N, E) ++ Y)
              exact z_retv (pc := 311) hZ dM_product_311 rfl ⟨rfl, _, _, rfl, rfl, (by first | exact ⟨⟨pr_o B2 ev307_42, S2⟩, prd_2 hb9 (upx_s u27 hU9 ev149_27) N2 hU8 hk8 lL9 hP9 hv8 ev280_36 (Or.inl ⟨fun z => c298_41 ((mk_k (upx_d hk8 hU8 ev291_37) (by omega) ev292_38 ev294_39 hL9 ev295_40).mpr z), ev307_42⟩)⟩ | exact ⟨⟨B2, S2⟩, prd_2 hb9 (upx_s u27 hU9 ev149_27) N2 hU8 hk8 lL9 hP9 hv8 ev280_36 (Or.inr ⟨(mk_k (upx_d hk8 hU8 ev291_37) (by omega) ev292_38 ev294_39 hL9 ev295_40).mp c298_41, rfl⟩)⟩)⟩
          · refine z_bipush (pc := 244) hZ 27 dM_product_244 (by decide) ?_
            refine z_goto (pc := 246) hZ 251 dM_product_246 (by decide) ?_
            refine z_istore (pc := 251) hZ [(16, .int 27), (15, .int r101_21), (13, .long v72_19), (11, .long v64_18), (9, .long v56_17), (7, .long v39_12), (5, .long v10_3), (0, .ref h0), (1, .long p1), (3, .long p2)] dM_product_251 (by decide) rfl ?_
            have U2 : UP v138_26 27 := by first | exact up_27 p232_30 c241_31 | exact up_r p232_30 c241_31 | exact up_0 c220_29
            have N2 : UPN v138_26 27 := by first | exact upn_27 | exact upn_r p232_30
            have u27 : U9 = 27 := upx27 hU9 hk9 c157_28
            have hb9 := upx_b u27 hk9 hv9
            refine z_aload_n (pc := 253) hZ 7 dM_product_253 rfl rfl ?_
            refine z_aload_n (pc := 254) hZ 7 dM_product_254 rfl rfl ?_
            refine z_get (pc := 255) (ci := 2) hZ 0 rfl rfl uc_M 12 (by decide) (zb fl_M_95) rfl dM_product_255 ?_
            refine z_iload (pc := 258) hZ 0 dM_product_258 rfl ?_
            refine z_lshl (pc := 260) hZ dM_product_260 (fun v260_43 ev260_43 => ?_)
            refine z_lload (pc := 261) hZ 2 dM_product_261 rfl ?_
            refine z_bipush (pc := 263) hZ 27 dM_product_263 (by decide) ?_
            refine z_iload (pc := 265) hZ 0 dM_product_265 rfl ?_
            refine z_isub (pc := 267) hZ dM_product_267 (fun v267_44 ev267_44 => ?_)
            refine z_lshr (pc := 268) hZ dM_product_268 (fun v268_45 ev268_45 => ?_)
            refine z_lor (pc := 269) hZ dM_product_269 (fun v269_46 ev269_46 => ?_)
            have B2 := pr_b U2 B1.1 HL ev260_43 ev267_44 ev268_45 ev269_46
            obtain ⟨U8, k8, hU8, hk8, hd8, hv8⟩ := pv_b U2 hb9 hL9 lL9 ev260_43 ev267_44 ev268_45 ev269_46
            refine z_put (pc := 270) (ci := 2) hZ 0 rfl rfl uc_M 12 (by decide) (zb fl_M_95) tyM tyM_ok nmM rfl rfl rfl (Nat.le_of_ble_eq_true rfl) dM_product_270 ?_
            show Z 0 0 (TY cR c1 c2 c3) (270 + 3) [(16, .int 27), (15, .int r101_21), (13, .long v72_19), (11, .long v64_18), (9, .long v56_17), (7, .long v39_12), (5, .long v10_3), (0, .ref h0), (1, .long p1), (3, .long p2)] [] (MW h0 a1 a2 a3 c1 c2 c3 (ka, na, ea, kb, nb, eb, k, n, e, v269_46, v149_27, K, N, E) ++ Y)
            refine z_aload_n (pc := 273) hZ 7 dM_product_273 rfl rfl ?_
            refine z_dup (pc := 274) hZ dM_product_274 rfl ?_
            refine z_get (pc := 275) (ci := 2) hZ 0 rfl rfl uc_M 13 (by decide) (zb fl_M_98) rfl dM_product_275 ?_
            refine z_iload (pc := 278) hZ 0 dM_product_278 rfl ?_
            refine z_isub (pc := 280) hZ dM_product_280 (fun v280_47 ev280_47 => ?_)
            have S2 := pr_s U2 S1 ev280_47
            refine z_put (pc := 281) (ci := 2) hZ 0 rfl rfl uc_M 13 (by decide) (zb fl_M_98) tyM tyM_ok nmM rfl rfl rfl (Nat.le_of_ble_eq_true rfl) dM_product_281 ?_
            show Z 0 0 (TY cR c1 c2 c3) (281 + 3) [(16, .int 27), (15, .int r101_21), (13, .long v72_19), (11, .long v64_18), (9, .long v56_17), (7, .long v39_12), (5, .long v10_3), (0, .ref h0), (1, .long p1), (3, .long p2)] [] (MW h0 a1 a2 a3 c1 c2 c3 (ka, na, ea, kb, nb, eb, k, n, e, v269_46, v280_47, K, N, E) ++ Y)
            refine z_lload (pc := 284) hZ 2 dM_product_284 rfl ?_
            refine z_lconst (pc := 286) hZ 1 dM_product_286 (by decide) ?_
            refine z_bipush (pc := 287) hZ 27 dM_product_287 (by decide) ?_
            refine z_iload (pc := 289) hZ 0 dM_product_289 rfl ?_
            refine z_isub (pc := 291) hZ dM_product_291 (fun v291_48 ev291_48 => ?_)
            refine z_lshl (pc := 292) hZ dM_product_292 (fun v292_49 ev292_49 => ?_)
            refine z_lconst (pc := 293) hZ 1 dM_product_293 (by decide) ?_
            refine z_lsub (pc := 294) hZ dM_product_294 (fun v294_50 ev294_50 => ?_)
            refine z_land (pc := 295) hZ dM_product_295 (fun v295_51 ev295_51 => ?_)
            refine z_lconst (pc := 296) hZ 0 dM_product_296 (by decide) ?_
            refine z_lif_eq (pc := 297) hZ 311 dM_product_297 dM_product_298 (by decide) (fun c298_52 => ?_) (fun c298_52 => ?_)
            · exact z_retv (pc := 311) hZ dM_product_311 rfl ⟨rfl, _, _, rfl, rfl, (by first | exact ⟨⟨pr_o B2 nokey_, S2⟩, prd_2 hb9 (upx_s u27 hU9 ev149_27) N2 hU8 hk8 lL9 hP9 hv8 ev280_47 (Or.inl ⟨fun z => c298_52 ((mk_k (upx_d hk8 hU8 ev291_48) (by omega) ev292_49 ev294_50 hL9 ev295_51).mpr z), nokey_⟩)⟩ | exact ⟨⟨B2, S2⟩, prd_2 hb9 (upx_s u27 hU9 ev149_27) N2 hU8 hk8 lL9 hP9 hv8 ev280_47 (Or.inr ⟨(mk_k (upx_d hk8 hU8 ev291_48) (by omega) ev292_49 ev294_50 hL9 ev295_51).mp c298_52, rfl⟩)⟩)⟩
            · refine z_aload_n (pc := 301) hZ 7 dM_product_301 rfl rfl ?_
              refine z_dup (pc := 302) hZ dM_product_302 rfl ?_
              refine z_get (pc := 303) (ci := 2) hZ 0 rfl rfl uc_M 12 (by decide) (zb fl_M_95) rfl dM_product_303 ?_
              refine z_lconst (pc := 306) hZ 1 dM_product_306 (by decide) ?_
              refine z_lor (pc := 307) hZ dM_product_307 (fun v307_53 ev307_53 => ?_)
              refine z_put (pc := 308) (ci := 2) hZ 0 rfl rfl uc_M 12 (by decide) (zb fl_M_95) tyM tyM_ok nmM rfl rfl rfl (Nat.le_of_ble_eq_true rfl) dM_product_308 ?_
              show Z 0 0 (TY cR c1 c2 c3) (308 + 3) [(16, .int 27), (15, .int r101_21), (13, .long v72_19), (11, .long v64_18), (9, .long v56_17), (7, .long v39_12), (5, .long v10_3), (0, .ref h0), (1, .long p1), (3, .long p2)] [] (MW h0 a1 a2 a3 c1 c2 c3 (ka, na, ea, kb, nb, eb, k, n, e, v307_53, v280_47, K, N, E) ++ Y)
              exact z_retv (pc := 311) hZ dM_product_311 rfl ⟨rfl, _, _, rfl, rfl, (by first | exact ⟨⟨pr_o B2 ev307_53, S2⟩, prd_2 hb9 (upx_s u27 hU9 ev149_27) N2 hU8 hk8 lL9 hP9 hv8 ev280_47 (Or.inl ⟨fun z => c298_52 ((mk_k (upx_d hk8 hU8 ev291_48) (by omega) ev292_49 ev294_50 hL9 ev295_51).mpr z), ev307_53⟩)⟩ | exact ⟨⟨B2, S2⟩, prd_2 hb9 (upx_s u27 hU9 ev149_27) N2 hU8 hk8 lL9 hP9 hv8 ev280_47 (Or.inr ⟨(mk_k (upx_d hk8 hU8 ev291_48) (by omega) ev292_49 ev294_50 hL9 ev295_51).mp c298_52, rfl⟩)⟩)⟩
        · refine z_bipush (pc := 223) hZ 27 dM_product_223 (by decide) ?_
          refine z_goto (pc := 225) hZ 235 dM_product_225 (by decide) ?_
          refine z_istore (pc := 235) hZ [(16, .int 27), (15, .int r101_21), (13, .long v72_19), (11, .long v64_18), (9, .long v56_17), (7, .long v39_12), (5, .long v10_3), (0, .ref h0), (1, .long p1), (3, .long p2)] dM_product_235 (by decide) rfl ?_
          refine z_iload (pc := 237) hZ 0 dM_product_237 rfl ?_
          refine z_bipush (pc := 239) hZ 27 dM_product_239 (by decide) ?_
          refine z_icmp_le (pc := 241) hZ 249 dM_product_241 (by decide) (fun c241 => ?_) (fun c9 => False.elim (absurd c9 (by decide)))
          refine z_iload (pc := 249) hZ 0 dM_product_249 rfl ?_
          refine z_istore (pc := 251) hZ [(16, .int 27), (15, .int r101_21), (13, .long v72_19), (11, .long v64_18), (9, .long v56_17), (7, .long v39_12), (5, .long v10_3), (0, .ref h0), (1, .long p1), (3, .long p2)] dM_product_251 (by decide) rfl ?_
          have U2 : UP v138_26 27 := by first | exact up_27 nokey_ c241 | exact up_r nokey_ c241 | exact up_0 c220_29
          have N2 : UPN v138_26 27 := by first | exact upn_27 | exact upn_r nokey_
          have u27 : U9 = 27 := upx27 hU9 hk9 c157_28
          have hb9 := upx_b u27 hk9 hv9
          refine z_aload_n (pc := 253) hZ 7 dM_product_253 rfl rfl ?_
          refine z_aload_n (pc := 254) hZ 7 dM_product_254 rfl rfl ?_
          refine z_get (pc := 255) (ci := 2) hZ 0 rfl rfl uc_M 12 (by decide) (zb fl_M_95) rfl dM_product_255 ?_
          refine z_iload (pc := 258) hZ 0 dM_product_258 rfl ?_
          refine z_lshl (pc := 260) hZ dM_product_260 (fun v260_54 ev260_54 => ?_)
          refine z_lload (pc := 261) hZ 2 dM_product_261 rfl ?_
          refine z_bipush (pc := 263) hZ 27 dM_product_263 (by decide) ?_
          refine z_iload (pc := 265) hZ 0 dM_product_265 rfl ?_
          refine z_isub (pc := 267) hZ dM_product_267 (fun v267_55 ev267_55 => ?_)
          refine z_lshr (pc := 268) hZ dM_product_268 (fun v268_56 ev268_56 => ?_)
          refine z_lor (pc := 269) hZ dM_product_269 (fun v269_57 ev269_57 => ?_)
          have B2 := pr_b U2 B1.1 HL ev260_54 ev267_55 ev268_56 ev269_57
          obtain ⟨U8, k8, hU8, hk8, hd8, hv8⟩ := pv_b U2 hb9 hL9 lL9 ev260_54 ev267_55 ev268_56 ev269_57
          refine z_put (pc := 270) (ci := 2) hZ 0 rfl rfl uc_M 12 (by decide) (zb fl_M_95) tyM tyM_ok nmM rfl rfl rfl (Nat.le_of_ble_eq_true rfl) dM_product_270 ?_
          show Z 0 0 (TY cR c1 c2 c3) (270 + 3) [(16, .int 27), (15, .int r101_21), (13, .long v72_19), (11, .long v64_18), (9, .long v56_17), (7, .long v39_12), (5, .long v10_3), (0, .ref h0), (1, .long p1), (3, .long p2)] [] (MW h0 a1 a2 a3 c1 c2 c3 (ka, na, ea, kb, nb, eb, k, n, e, v269_57, v149_27, K, N, E) ++ Y)
          refine z_aload_n (pc := 273) hZ 7 dM_product_273 rfl rfl ?_
          refine z_dup (pc := 274) hZ dM_product_274 rfl ?_
          refine z_get (pc := 275) (ci := 2) hZ 0 rfl rfl uc_M 13 (by decide) (zb fl_M_98) rfl dM_product_275 ?_
          refine z_iload (pc := 278) hZ 0 dM_product_278 rfl ?_
          refine z_isub (pc := 280) hZ dM_product_280 (fun v280_58 ev280_58 => ?_)
          have S2 := pr_s U2 S1 ev280_58
          refine z_put (pc := 281) (ci := 2) hZ 0 rfl rfl uc_M 13 (by decide) (zb fl_M_98) tyM tyM_ok nmM rfl rfl rfl (Nat.le_of_ble_eq_true rfl) dM_product_281 ?_
          show Z 0 0 (TY cR c1 c2 c3) (281 + 3) [(16, .int 27), (15, .int r101_21), (13, .long v72_19), (11, .long v64_18), (9, .long v56_17), (7, .long v39_12), (5, .long v10_3), (0, .ref h0), (1, .long p1), (3, .long p2)] [] (MW h0 a1 a2 a3 c1 c2 c3 (ka, na, ea, kb, nb, eb, k, n, e, v269_57, v280_58, K, N, E) ++ Y)
          refine z_lload (pc := 284) hZ 2 dM_product_284 rfl ?_
          refine z_lconst (pc := 286) hZ 1 dM_product_286 (by decide) ?_
          refine z_bipush (pc := 287) hZ 27 dM_product_287 (by decide) ?_
          refine z_iload (pc := 289) hZ 0 dM_product_289 rfl ?_
          refine z_isub (pc := 291) hZ dM_product_291 (fun v291_59 ev291_59 => ?_)
          refine z_lshl (pc := 292) hZ dM_product_292 (fun v292_60 ev292_60 => ?_)
          refine z_lconst (pc := 293) hZ 1 dM_product_293 (by decide) ?_
          refine z_lsub (pc := 294) hZ dM_product_294 (fun v294_61 ev294_61 => ?_)
          refine z_land (pc := 295) hZ dM_product_295 (fun v295_62 ev295_62 => ?_)
          refine z_lconst (pc := 296) hZ 0 dM_product_296 (by decide) ?_
          refine z_lif_eq (pc := 297) hZ 311 dM_product_297 dM_product_298 (by decide) (fun c298_63 => ?_) (fun c298_63 => ?_)
          · exact z_retv (pc := 311) hZ dM_product_311 rfl ⟨rfl, _, _, rfl, rfl, (by first | exact ⟨⟨pr_o B2 nokey_, S2⟩, prd_2 hb9 (upx_s u27 hU9 ev149_27) N2 hU8 hk8 lL9 hP9 hv8 ev280_58 (Or.inl ⟨fun z => c298_63 ((mk_k (upx_d hk8 hU8 ev291_59) (by omega) ev292_60 ev294_61 hL9 ev295_62).mpr z), nokey_⟩)⟩ | exact ⟨⟨B2, S2⟩, prd_2 hb9 (upx_s u27 hU9 ev149_27) N2 hU8 hk8 lL9 hP9 hv8 ev280_58 (Or.inr ⟨(mk_k (upx_d hk8 hU8 ev291_59) (by omega) ev292_60 ev294_61 hL9 ev295_62).mp c298_63, rfl⟩)⟩)⟩
          · refine z_aload_n (pc := 301) hZ 7 dM_product_301 rfl rfl ?_
            refine z_dup (pc := 302) hZ dM_product_302 rfl ?_
            refine z_get (pc := 303) (ci := 2) hZ 0 rfl rfl uc_M 12 (by decide) (zb fl_M_95) rfl dM_product_303 ?_
            refine z_lconst (pc := 306) hZ 1 dM_product_306 (by decide) ?_
            refine z_lor (pc := 307) hZ dM_product_307 (fun v307_64 ev307_64 => ?_)
            refine z_put (pc := 308) (ci := 2) hZ 0 rfl rfl uc_M 12 (by decide) (zb fl_M_95) tyM tyM_ok nmM rfl rfl rfl (Nat.le_of_ble_eq_true rfl) dM_product_308 ?_
            show Z 0 0 (TY cR c1 c2 c3) (308 + 3) [(16, .int 27), (15, .int r101_21), (13, .long v72_19), (11, .long v64_18), (9, .long v56_17), (7, .long v39_12), (5, .long v10_3), (0, .ref h0), (1, .long p1), (3, .long p2)] [] (MW h0 a1 a2 a3 c1 c2 c3 (ka, na, ea, kb, nb, eb, k, n, e, v307_64, v280_58, K, N, E) ++ Y)
            exact z_retv (pc := 311) hZ dM_product_311 rfl ⟨rfl, _, _, rfl, rfl, (by first | exact ⟨⟨pr_o B2 ev307_64, S2⟩, prd_2 hb9 (upx_s u27 hU9 ev149_27) N2 hU8 hk8 lL9 hP9 hv8 ev280_58 (Or.inl ⟨fun z => c298_63 ((mk_k (upx_d hk8 hU8 ev291_59) (by omega) ev292_60 ev294_61 hL9 ev295_62).mpr z), ev307_64⟩)⟩ | exact ⟨⟨B2, S2⟩, prd_2 hb9 (upx_s u27 hU9 ev149_27) N2 hU8 hk8 lL9 hP9 hv8 ev280_58 (Or.inr ⟨(mk_k (upx_d hk8 hU8 ev291_59) (by omega) ev292_60 ev294_61 hL9 ev295_62).mp c298_63, rfl⟩)⟩)⟩
      · refine z_lload (pc := 160) hZ 2 dM_product_160 rfl ?_
        refine z_lconst (pc := 162) hZ 1 dM_product_162 (by decide) ?_
        refine z_bipush (pc := 163) hZ 27 dM_product_163 (by decide) ?_
        refine z_iload (pc := 165) hZ 0 dM_product_165 rfl ?_
        refine z_isub (pc := 167) hZ dM_product_167 (fun v167_65 ev167_65 => ?_)
        refine z_lshl (pc := 168) hZ dM_product_168 (fun v168_66 ev168_66 => ?_)
        refine z_lconst (pc := 169) hZ 1 dM_product_169 (by decide) ?_
        refine z_lsub (pc := 170) hZ dM_product_170 (fun v170_67 ev170_67 => ?_)
        refine z_land (pc := 171) hZ dM_product_171 (fun v171_68 ev171_68 => ?_)
        refine z_lconst (pc := 172) hZ 0 dM_product_172 (by decide) ?_
        refine z_lif_ne (pc := 173) hZ 184 dM_product_173 dM_product_174 (by decide) (fun c174_69 => ?_) (fun c174_69 => ?_)
        · refine z_iconst (pc := 184) hZ 1 dM_product_184 (by decide) ?_
          refine z_goto (pc := 185) hZ 189 dM_product_185 (by decide) ?_
          refine z_istore (pc := 189) hZ [(16, .int 1), (15, .int r101_21), (13, .long v72_19), (11, .long v64_18), (9, .long v56_17), (7, .long v39_12), (5, .long v10_3), (0, .ref h0), (1, .long p1), (3, .long p2)] dM_product_189 (by decide) rfl ?_
          refine z_aload_n (pc := 191) hZ 7 dM_product_191 rfl rfl ?_
          refine z_iload (pc := 192) hZ 0 dM_product_192 rfl ?_
          refine z_if_eq (pc := 194) hZ 206 dM_product_194 (by decide) (fun c9 => False.elim (absurd c9 (by decide))) (fun c194 => ?_)
          refine z_aload_n (pc := 197) hZ 7 dM_product_197 rfl rfl ?_
          refine z_get (pc := 198) (ci := 2) hZ 0 rfl rfl uc_M 12 (by decide) (zb fl_M_95) rfl dM_product_198 ?_
          refine z_lconst (pc := 201) hZ 1 dM_product_201 (by decide) ?_
          refine z_lor (pc := 202) hZ dM_product_202 (fun v202_70 ev202_70 => ?_)
          refine z_goto (pc := 203) hZ 210 dM_product_203 (by decide) ?_
          refine z_put (pc := 210) (ci := 2) hZ 0 rfl rfl uc_M 12 (by decide) (zb fl_M_95) tyM tyM_ok nmM rfl rfl rfl (Nat.le_of_ble_eq_true rfl) dM_product_210 ?_
          show Z 0 0 (TY cR c1 c2 c3) (210 + 3) [(16, .int 1), (15, .int r101_21), (13, .long v72_19), (11, .long v64_18), (9, .long v56_17), (7, .long v39_12), (5, .long v10_3), (0, .ref h0), (1, .long p1), (3, .long p2)] [] (MW h0 a1 a2 a3 c1 c2 c3 (ka, na, ea, kb, nb, eb, k, n, e, v202_70, v149_27, K, N, E) ++ Y)
          exact z_retv (pc := 213) hZ dM_product_213 rfl ⟨rfl, _, _, rfl, rfl, (by first | exact ⟨⟨pr_o B1 ev202_70, by omega, S1.2⟩, prd_1 N1 hH9 hU9 hk9 lR9 lL9 hP9 hv9 c157_28 ev149_27 (Or.inl ⟨Or.inl (fun z => c174_69 ((mk_k (upx_d hk9 hU9 ev167_65) (by omega) ev168_66 ev170_67 hR9 ev171_68).mpr z)), ev202_70⟩)⟩ | exact ⟨⟨pr_o B1 ev202_70, by omega, S1.2⟩, prd_1 N1 hH9 hU9 hk9 lR9 lL9 hP9 hv9 c157_28 ev149_27 (Or.inl ⟨Or.inr (lz_n hL9 nokey_), ev202_70⟩)⟩ | exact ⟨⟨B1, by omega, S1.2⟩, prd_1 N1 hH9 hU9 hk9 lR9 lL9 hP9 hv9 c157_28 ev149_27 (Or.inr ⟨(mk_k (upx_d hk9 hU9 ev167_65) (by omega) ev168_66 ev170_67 hR9 ev171_68).mp c174_69, lz_y hL9 nokey_, rfl⟩)⟩)⟩
        · refine z_lload (pc := 177) hZ 1 dM_product_177 rfl ?_
          refine z_lconst (pc := 179) hZ 0 dM_product_179 (by decide) ?_
          refine z_lif_eq (pc := 180) hZ 188 dM_product_180 dM_product_181 (by decide) (fun c181_71 => ?_) (fun c181_71 => ?_)
          · refine z_iconst (pc := 188) hZ 0 dM_product_188 (by decide) ?_
            refine z_istore (pc := 189) hZ [(16, .int 0), (15, .int r101_21), (13, .long v72_19), (11, .long v64_18), (9, .long v56_17), (7, .long v39_12), (5, .long v10_3), (0, .ref h0), (1, .long p1), (3, .long p2)] dM_product_189 (by decide) rfl ?_
            refine z_aload_n (pc := 191) hZ 7 dM_product_191 rfl rfl ?_
            refine z_iload (pc := 192) hZ 0 dM_product_192 rfl ?_
            refine z_if_eq (pc := 194) hZ 206 dM_product_194 (by decide) (fun c194 => ?_) (fun c9 => False.elim (absurd c9 (by decide)))
            refine z_aload_n (pc := 206) hZ 7 dM_product_206 rfl rfl ?_
            refine z_get (pc := 207) (ci := 2) hZ 0 rfl rfl uc_M 12 (by decide) (zb fl_M_95) rfl dM_product_207 ?_
            refine z_put (pc := 210) (ci := 2) hZ 0 rfl rfl uc_M 12 (by decide) (zb fl_M_95) tyM tyM_ok nmM rfl rfl rfl (Nat.le_of_ble_eq_true rfl) dM_product_210 ?_
            show Z 0 0 (TY cR c1 c2 c3) (210 + 3) [(16, .int 0), (15, .int r101_21), (13, .long v72_19), (11, .long v64_18), (9, .long v56_17), (7, .long v39_12), (5, .long v10_3), (0, .ref h0), (1, .long p1), (3, .long p2)] [] (MW h0 a1 a2 a3 c1 c2 c3 (ka, na, ea, kb, nb, eb, k, n, e, v138_26, v149_27, K, N, E) ++ Y)
            exact z_retv (pc := 213) hZ dM_product_213 rfl ⟨rfl, _, _, rfl, rfl, (by first | exact ⟨⟨pr_o B1 nokey_, by omega, S1.2⟩, prd_1 N1 hH9 hU9 hk9 lR9 lL9 hP9 hv9 c157_28 ev149_27 (Or.inl ⟨Or.inl (fun z => c174_69 ((mk_k (upx_d hk9 hU9 ev167_65) (by omega) ev168_66 ev170_67 hR9 ev171_68).mpr z)), nokey_⟩)⟩ | exact ⟨⟨pr_o B1 nokey_, by omega, S1.2⟩, prd_1 N1 hH9 hU9 hk9 lR9 lL9 hP9 hv9 c157_28 ev149_27 (Or.inl ⟨Or.inr (lz_n hL9 c181_71), nokey_⟩)⟩ | exact ⟨⟨B1, by omega, S1.2⟩, prd_1 N1 hH9 hU9 hk9 lR9 lL9 hP9 hv9 c157_28 ev149_27 (Or.inr ⟨(mk_k (upx_d hk9 hU9 ev167_65) (by omega) ev168_66 ev170_67 hR9 ev171_68).mp c174_69, lz_y hL9 c181_71, rfl⟩)⟩)⟩
          · refine z_iconst (pc := 184) hZ 1 dM_product_184 (by decide) ?_
            refine z_goto (pc := 185) hZ 189 dM_product_185 (by decide) ?_
            refine z_istore (pc := 189) hZ [(16, .int 1), (15, .int r101_21), (13, .long v72_19), (11, .long v64_18), (9, .long v56_17), (7, .long v39_12), (5, .long v10_3), (0, .ref h0), (1, .long p1), (3, .long p2)] dM_product_189 (by decide) rfl ?_
            refine z_aload_n (pc := 191) hZ 7 dM_product_191 rfl rfl ?_
            refine z_iload (pc := 192) hZ 0 dM_product_192 rfl ?_
            refine z_if_eq (pc := 194) hZ 206 dM_product_194 (by decide) (fun c9 => False.elim (absurd c9 (by decide))) (fun c194 => ?_)
            refine z_aload_n (pc := 197) hZ 7 dM_product_197 rfl rfl ?_
            refine z_get (pc := 198) (ci := 2) hZ 0 rfl rfl uc_M 12 (by decide) (zb fl_M_95) rfl dM_product_198 ?_
            refine z_lconst (pc := 201) hZ 1 dM_product_201 (by decide) ?_
            refine z_lor (pc := 202) hZ dM_product_202 (fun v202_72 ev202_72 => ?_)
            refine z_goto (pc := 203) hZ 210 dM_product_203 (by decide) ?_
            refine z_put (pc := 210) (ci := 2) hZ 0 rfl rfl uc_M 12 (by decide) (zb fl_M_95) tyM tyM_ok nmM rfl rfl rfl (Nat.le_of_ble_eq_true rfl) dM_product_210 ?_
            show Z 0 0 (TY cR c1 c2 c3) (210 + 3) [(16, .int 1), (15, .int r101_21), (13, .long v72_19), (11, .long v64_18), (9, .long v56_17), (7, .long v39_12), (5, .long v10_3), (0, .ref h0), (1, .long p1), (3, .long p2)] [] (MW h0 a1 a2 a3 c1 c2 c3 (ka, na, ea, kb, nb, eb, k, n, e, v202_72, v149_27, K, N, E) ++ Y)
            exact z_retv (pc := 213) hZ dM_product_213 rfl ⟨rfl, _, _, rfl, rfl, (by first | exact ⟨⟨pr_o B1 ev202_72, by omega, S1.2⟩, prd_1 N1 hH9 hU9 hk9 lR9 lL9 hP9 hv9 c157_28 ev149_27 (Or.inl ⟨Or.inl (fun z => c174_69 ((mk_k (upx_d hk9 hU9 ev167_65) (by omega) ev168_66 ev170_67 hR9 ev171_68).mpr z)), ev202_72⟩)⟩ | exact ⟨⟨pr_o B1 ev202_72, by omega, S1.2⟩, prd_1 N1 hH9 hU9 hk9 lR9 lL9 hP9 hv9 c157_28 ev149_27 (Or.inl ⟨Or.inr (lz_n hL9 c181_71), ev202_72⟩)⟩ | exact ⟨⟨B1, by omega, S1.2⟩, prd_1 N1 hH9 hU9 hk9 lR9 lL9 hP9 hv9 c157_28 ev149_27 (Or.inr ⟨(mk_k (upx_d hk9 hU9 ev167_65) (by omega) ev168_66 ev170_67 hR9 ev171_68).mp c174_69, lz_y hL9 c181_71, rfl⟩)⟩)⟩
    · refine z_bipush (pc := 113) hZ 27 dM_product_113 (by decide) ?_
      refine z_goto (pc := 115) hZ 120 dM_product_115 (by decide) ?_
      refine z_istore (pc := 120) hZ [(15, .int 27), (13, .long v72_19), (11, .long v64_18), (9, .long v56_17), (7, .long v39_12), (5, .long v10_3), (0, .ref h0), (1, .long p1), (3, .long p2)] dM_product_120 (by decide) rfl ?_
      have U1 : UP v56_17 27 := by first | exact up_27 p101_21 c110_22 | exact up_r p101_21 c110_22 | exact up_0 c91_20
      have N1 : UPN v56_17 27 := by first | exact upn_27 | exact upn_r p101_21
      refine z_aload_n (pc := 122) hZ 6 dM_product_122 rfl rfl ?_
      refine z_aload_n (pc := 123) hZ 6 dM_product_123 rfl rfl ?_
      refine z_get (pc := 124) (ci := 2) hZ 0 rfl rfl uc_M 12 (by decide) (zb fl_M_95) rfl dM_product_124 ?_
      refine z_iload (pc := 127) hZ 0 dM_product_127 rfl ?_
      refine z_lshl (pc := 129) hZ dM_product_129 (fun v129_73 ev129_73 => ?_)
      refine z_lload (pc := 130) hZ 2 dM_product_130 rfl ?_
      refine z_bipush (pc := 132) hZ 27 dM_product_132 (by decide) ?_
      refine z_iload (pc := 134) hZ 0 dM_product_134 rfl ?_
      refine z_isub (pc := 136) hZ dM_product_136 (fun v136_74 ev136_74 => ?_)
      refine z_lshr (pc := 137) hZ dM_product_137 (fun v137_75 ev137_75 => ?_)
      refine z_lor (pc := 138) hZ dM_product_138 (fun v138_76 ev138_76 => ?_)
      have B1 := pr_b U1 HI.1 HM ev129_73 ev136_74 ev137_75 ev138_76
      obtain ⟨U9, k9, hU9, hk9, hd9, hv9⟩ := pv_b U1 hH9 hR9 lR9 ev129_73 ev136_74 ev137_75 ev138_76
      refine z_put (pc := 139) (ci := 2) hZ 0 rfl rfl uc_M 12 (by decide) (zb fl_M_95) tyM tyM_ok nmM rfl rfl rfl (Nat.le_of_ble_eq_true rfl) dM_product_139 ?_
      show Z 0 0 (TY cR c1 c2 c3) (139 + 3) [(15, .int 27), (13, .long v72_19), (11, .long v64_18), (9, .long v56_17), (7, .long v39_12), (5, .long v10_3), (0, .ref h0), (1, .long p1), (3, .long p2)] [] (MW h0 a1 a2 a3 c1 c2 c3 (ka, na, ea, kb, nb, eb, k, n, e, v138_76, 54, K, N, E) ++ Y)
      refine z_aload_n (pc := 142) hZ 6 dM_product_142 rfl rfl ?_
      refine z_dup (pc := 143) hZ dM_product_143 rfl ?_
      refine z_get (pc := 144) (ci := 2) hZ 0 rfl rfl uc_M 13 (by decide) (zb fl_M_98) rfl dM_product_144 ?_
      refine z_iload (pc := 147) hZ 0 dM_product_147 rfl ?_
      refine z_isub (pc := 149) hZ dM_product_149 (fun v149_77 ev149_77 => ?_)
      have S1 := pr_s1 U1 ev149_77
      refine z_put (pc := 150) (ci := 2) hZ 0 rfl rfl uc_M 13 (by decide) (zb fl_M_98) tyM tyM_ok nmM rfl rfl rfl (Nat.le_of_ble_eq_true rfl) dM_product_150 ?_
      show Z 0 0 (TY cR c1 c2 c3) (150 + 3) [(15, .int 27), (13, .long v72_19), (11, .long v64_18), (9, .long v56_17), (7, .long v39_12), (5, .long v10_3), (0, .ref h0), (1, .long p1), (3, .long p2)] [] (MW h0 a1 a2 a3 c1 c2 c3 (ka, na, ea, kb, nb, eb, k, n, e, v138_76, v149_77, K, N, E) ++ Y)
      refine z_iload (pc := 153) hZ 0 dM_product_153 rfl ?_
      refine z_bipush (pc := 155) hZ 27 dM_product_155 (by decide) ?_
      refine z_icmp_ge (pc := 157) hZ 214 dM_product_157 (by decide) (fun c157 => ?_) (fun c9 => False.elim (absurd c9 (by decide)))
      refine z_aload_n (pc := 214) hZ 6 dM_product_214 rfl rfl ?_
      refine z_get (pc := 215) (ci := 2) hZ 0 rfl rfl uc_M 12 (by decide) (zb fl_M_95) rfl dM_product_215 ?_
      refine z_lconst (pc := 218) hZ 0 dM_product_218 (by decide) ?_
      refine z_lif_ne (pc := 219) hZ 228 dM_product_219 dM_product_220 (by decide) (fun c220_78 => ?_) (fun c220_78 => ?_)
      · refine z_aload_n (pc := 228) hZ 6 dM_product_228 rfl rfl ?_
        refine z_get (pc := 229) (ci := 2) hZ 0 rfl rfl uc_M 12 (by decide) (zb fl_M_95) rfl dM_product_229 ?_
        refine z_callS (pc := 232) (As := [.long v138_76]) (rest := []) hZ (cM_room l D (TY cR c1 c2 c3) (MW h0 a1 a2 a3 c1 c2 c3 (ka, na, ea, kb, nb, eb, k, n, e, v138_76, v149_77, K, N, E) ++ Y) v138_76 (by exact pos_ne B1.1 c220_78) (by exact B1.2)) zyM_room (z_goodS ml_M_78 st_M_room in_M co_M_room) rfl rfl (by decide) rfl rfl (Nat.le_of_ble_eq_true rfl) ⟨Nat.zero_le _, Nat.zero_le _⟩ dM_product_232 (z_ki (fun r232_79 w1 tys1 hp => ?_))
        obtain ⟨rfl, rfl, p232_79⟩ := hp
        refine z_istore (pc := 235) hZ [(16, .int r232_79), (15, .int 27), (13, .long v72_19), (11, .long v64_18), (9, .long v56_17), (7, .long v39_12), (5, .long v10_3), (0, .ref h0), (1, .long p1), (3, .long p2)] dM_product_235 (by decide) rfl ?_
        refine z_iload (pc := 237) hZ 0 dM_product_237 rfl ?_
        refine z_bipush (pc := 239) hZ 27 dM_product_239 (by decide) ?_
        refine z_icmp_le (pc := 241) hZ 249 dM_product_241 (by decide) (fun c241_80 => ?_) (fun c241_80 => ?_)
        · refine z_iload (pc := 249) hZ 0 dM_product_249 rfl ?_
          refine z_istore (pc := 251) hZ [(16, .int r232_79), (15, .int 27), (13, .long v72_19), (11, .long v64_18), (9, .long v56_17), (7, .long v39_12), (5, .long v10_3), (0, .ref h0), (1, .long p1), (3, .long p2)] dM_product_251 (by decide) rfl ?_
          have U2 : UP v138_76 r232_79 := by first | exact up_27 p232_79 c241_80 | exact up_r p232_79 c241_80 | exact up_0 c220_78
          have N2 : UPN v138_76 r232_79 := by first | exact upn_27 | exact upn_r p232_79
          have u27 : U9 = 27 := upx27 hU9 hk9 c157
          have hb9 := upx_b u27 hk9 hv9
          refine z_aload_n (pc := 253) hZ 7 dM_product_253 rfl rfl ?_
          refine z_aload_n (pc := 254) hZ 7 dM_product_254 rfl rfl ?_
          refine z_get (pc := 255) (ci := 2) hZ 0 rfl rfl uc_M 12 (by decide) (zb fl_M_95) rfl dM_product_255 ?_
          refine z_iload (pc := 258) hZ 0 dM_product_258 rfl ?_
          refine z_lshl (pc := 260) hZ dM_product_260 (fun v260_81 ev260_81 => ?_)
          refine z_lload (pc := 261) hZ 2 dM_product_261 rfl ?_
          refine z_bipush (pc := 263) hZ 27 dM_product_263 (by decide) ?_
          refine z_iload (pc := 265) hZ 0 dM_product_265 rfl ?_
          refine z_isub (pc := 267) hZ dM_product_267 (fun v267_82 ev267_82 => ?_)
          refine z_lshr (pc := 268) hZ dM_product_268 (fun v268_83 ev268_83 => ?_)
          refine z_lor (pc := 269) hZ dM_product_269 (fun v269_84 ev269_84 => ?_)
          have B2 := pr_b U2 B1.1 HL ev260_81 ev267_82 ev268_83 ev269_84
          obtain ⟨U8, k8, hU8, hk8, hd8, hv8⟩ := pv_b U2 hb9 hL9 lL9 ev260_81 ev267_82 ev268_83 ev269_84
          refine z_put (pc := 270) (ci := 2) hZ 0 rfl rfl uc_M 12 (by decide) (zb fl_M_95) tyM tyM_ok nmM rfl rfl rfl (Nat.le_of_ble_eq_true rfl) dM_product_270 ?_
          show Z 0 0 (TY cR c1 c2 c3) (270 + 3) [(16, .int r232_79), (15, .int 27), (13, .long v72_19), (11, .long v64_18), (9, .long v56_17), (7, .long v39_12), (5, .long v10_3), (0, .ref h0), (1, .long p1), (3, .long p2)] [] (MW h0 a1 a2 a3 c1 c2 c3 (ka, na, ea, kb, nb, eb, k, n, e, v269_84, v149_77, K, N, E) ++ Y)
          refine z_aload_n (pc := 273) hZ 7 dM_product_273 rfl rfl ?_
          refine z_dup (pc := 274) hZ dM_product_274 rfl ?_
          refine z_get (pc := 275) (ci := 2) hZ 0 rfl rfl uc_M 13 (by decide) (zb fl_M_98) rfl dM_product_275 ?_
          refine z_iload (pc := 278) hZ 0 dM_product_278 rfl ?_
          refine z_isub (pc := 280) hZ dM_product_280 (fun v280_85 ev280_85 => ?_)
          have S2 := pr_s U2 S1 ev280_85
          refine z_put (pc := 281) (ci := 2) hZ 0 rfl rfl uc_M 13 (by decide) (zb fl_M_98) tyM tyM_ok nmM rfl rfl rfl (Nat.le_of_ble_eq_true rfl) dM_product_281 ?_
          show Z 0 0 (TY cR c1 c2 c3) (281 + 3) [(16, .int r232_79), (15, .int 27), (13, .long v72_19), (11, .long v64_18), (9, .long v56_17), (7, .long v39_12), (5, .long v10_3), (0, .ref h0), (1, .long p1), (3, .long p2)] [] (MW h0 a1 a2 a3 c1 c2 c3 (ka, na, ea, kb, nb, eb, k, n, e, v269_84, v280_85, K, N, E) ++ Y)
          refine z_lload (pc := 284) hZ 2 dM_product_284 rfl ?_
          refine z_lconst (pc := 286) hZ 1 dM_product_286 (by decide) ?_
          refine z_bipush (pc := 287) hZ 27 dM_product_287 (by decide) ?_
          refine z_iload (pc := 289) hZ 0 dM_product_289 rfl ?_
          refine z_isub (pc := 291) hZ dM_product_291 (fun v291_86 ev291_86 => ?_)
          refine z_lshl (pc := 292) hZ dM_product_292 (fun v292_87 ev292_87 => ?_)
          refine z_lconst (pc := 293) hZ 1 dM_product_293 (by decide) ?_
          refine z_lsub (pc := 294) hZ dM_product_294 (fun v294_88 ev294_88 => ?_)
          refine z_land (pc := 295) hZ dM_product_295 (fun v295_89 ev295_89 => ?_)
          refine z_lconst (pc := 296) hZ 0 dM_product_296 (by decide) ?_
          refine z_lif_eq (pc := 297) hZ 311 dM_product_297 dM_product_298 (by decide) (fun c298_90 => ?_) (fun c298_90 => ?_)
          · exact z_retv (pc := 311) hZ dM_product_311 rfl ⟨rfl, _, _, rfl, rfl, (by first | exact ⟨⟨pr_o B2 nokey_, S2⟩, prd_2 hb9 (upx_s u27 hU9 ev149_77) N2 hU8 hk8 lL9 hP9 hv8 ev280_85 (Or.inl ⟨fun z => c298_90 ((mk_k (upx_d hk8 hU8 ev291_86) (by omega) ev292_87 ev294_88 hL9 ev295_89).mpr z), nokey_⟩)⟩ | exact ⟨⟨B2, S2⟩, prd_2 hb9 (upx_s u27 hU9 ev149_77) N2 hU8 hk8 lL9 hP9 hv8 ev280_85 (Or.inr ⟨(mk_k (upx_d hk8 hU8 ev291_86) (by omega) ev292_87 ev294_88 hL9 ev295_89).mp c298_90, rfl⟩)⟩)⟩
          · refine z_aload_n (pc := 301) hZ 7 dM_product_301 rfl rfl ?_
            refine z_dup (pc := 302) hZ dM_product_302 rfl ?_
            refine z_get (pc := 303) (ci := 2) hZ 0 rfl rfl uc_M 12 (by decide) (zb fl_M_95) rfl dM_product_303 ?_
            refine z_lconst (pc := 306) hZ 1 dM_product_306 (by decide) ?_
            refine z_lor (pc := 307) hZ dM_product_307 (fun v307_91 ev307_91 => ?_)
            refine z_put (pc := 308) (ci := 2) hZ 0 rfl rfl uc_M 12 (by decide) (zb fl_M_95) tyM tyM_ok nmM rfl rfl rfl (Nat.le_of_ble_eq_true rfl) dM_product_308 ?_
            show Z 0 0 (TY cR c1 c2 c3) (308 + 3) [(16, .int r232_79), (15, .int 27), (13, .long v72_19), (11, .long v64_18), (9, .long v56_17), (7, .long v39_12), (5, .long v10_3), (0, .ref h0), (1, .long p1), (3, .long p2)] [] (MW h0 a1 a2 a3 c1 c2 c3 (ka, na, ea, kb, nb, eb, k, n, e, v307_91, v280_85, K, N, E) ++ Y)
            exact z_retv (pc := 311) hZ dM_product_311 rfl ⟨rfl, _, _, rfl, rfl, (by first | exact ⟨⟨pr_o B2 ev307_91, S2⟩, prd_2 hb9 (upx_s u27 hU9 ev149_77) N2 hU8 hk8 lL9 hP9 hv8 ev280_85 (Or.inl ⟨fun z => c298_90 ((mk_k (upx_d hk8 hU8 ev291_86) (by omega) ev292_87 ev294_88 hL9 ev295_89).mpr z), ev307_91⟩)⟩ | exact ⟨⟨B2, S2⟩, prd_2 hb9 (upx_s u27 hU9 ev149_77) N2 hU8 hk8 lL9 hP9 hv8 ev280_85 (Or.inr ⟨(mk_k (upx_d hk8 hU8 ev291_86) (by omega) ev292_87 ev294_88 hL9 ev295_89).mp c298_90, rfl⟩)⟩)⟩
        · refine z_bipush (pc := 244) hZ 27 dM_product_244 (by decide) ?_
          refine z_goto (pc := 246) hZ 251 dM_product_246 (by decide) ?_
          refine z_istore (pc := 251) hZ [(16, .int 27), (15, .int 27), (13, .long v72_19), (11, .long v64_18), (9, .long v56_17), (7, .long v39_12), (5, .long v10_3), (0, .ref h0), (1, .long p1), (3, .long p2)] dM_product_251 (by decide) rfl ?_
          have U2 : UP v138_76 27 := by first | exact up_27 p232_79 c241_80 | exact up_r p232_79 c241_80 | exact up_0 c220_78
          have N2 : UPN v138_76 27 := by first | exact upn_27 | exact upn_r p232_79
          have u27 : U9 = 27 := upx27 hU9 hk9 c157
          have hb9 := upx_b u27 hk9 hv9
          refine z_aload_n (pc := 253) hZ 7 dM_product_253 rfl rfl ?_
          refine z_aload_n (pc := 254) hZ 7 dM_product_254 rfl rfl ?_
          refine z_get (pc := 255) (ci := 2) hZ 0 rfl rfl uc_M 12 (by decide) (zb fl_M_95) rfl dM_product_255 ?_
          refine z_iload (pc := 258) hZ 0 dM_product_258 rfl ?_
          refine z_lshl (pc := 260) hZ dM_product_260 (fun v260_92 ev260_92 => ?_)
          refine z_lload (pc := 261) hZ 2 dM_product_261 rfl ?_
          refine z_bipush (pc := 263) hZ 27 dM_product_263 (by decide) ?_
          refine z_iload (pc := 265) hZ 0 dM_product_265 rfl ?_
          refine z_isub (pc := 267) hZ dM_product_267 (fun v267_93 ev267_93 => ?_)
          refine z_lshr (pc := 268) hZ dM_product_268 (fun v268_94 ev268_94 => ?_)
          refine z_lor (pc := 269) hZ dM_product_269 (fun v269_95 ev269_95 => ?_)
          have B2 := pr_b U2 B1.1 HL ev260_92 ev267_93 ev268_94 ev269_95
          obtain ⟨U8, k8, hU8, hk8, hd8, hv8⟩ := pv_b U2 hb9 hL9 lL9 ev260_92 ev267_93 ev268_94 ev269_95
          refine z_put (pc := 270) (ci := 2) hZ 0 rfl rfl uc_M 12 (by decide) (zb fl_M_95) tyM tyM_ok nmM rfl rfl rfl (Nat.le_of_ble_eq_true rfl) dM_product_270 ?_
          show Z 0 0 (TY cR c1 c2 c3) (270 + 3) [(16, .int 27), (15, .int 27), (13, .long v72_19), (11, .long v64_18), (9, .long v56_17), (7, .long v39_12), (5, .long v10_3), (0, .ref h0), (1, .long p1), (3, .long p2)] [] (MW h0 a1 a2 a3 c1 c2 c3 (ka, na, ea, kb, nb, eb, k, n, e, v269_95, v149_77, K, N, E) ++ Y)
          refine z_aload_n (pc := 273) hZ 7 dM_product_273 rfl rfl ?_
          refine z_dup (pc := 274) hZ dM_product_274 rfl ?_
          refine z_get (pc := 275) (ci := 2) hZ 0 rfl rfl uc_M 13 (by decide) (zb fl_M_98) rfl dM_product_275 ?_
          refine z_iload (pc := 278) hZ 0 dM_product_278 rfl ?_
          refine z_isub (pc := 280) hZ dM_product_280 (fun v280_96 ev280_96 => ?_)
          have S2 := pr_s U2 S1 ev280_96
          refine z_put (pc := 281) (ci := 2) hZ 0 rfl rfl uc_M 13 (by decide) (zb fl_M_98) tyM tyM_ok nmM rfl rfl rfl (Nat.le_of_ble_eq_true rfl) dM_product_281 ?_
          show Z 0 0 (TY cR c1 c2 c3) (281 + 3) [(16, .int 27), (15, .int 27), (13, .long v72_19), (11, .long v64_18), (9, .long v56_17), (7, .long v39_12), (5, .long v10_3), (0, .ref h0), (1, .long p1), (3, .long p2)] [] (MW h0 a1 a2 a3 c1 c2 c3 (ka, na, ea, kb, nb, eb, k, n, e, v269_95, v280_96, K, N, E) ++ Y)
          refine z_lload (pc := 284) hZ 2 dM_product_284 rfl ?_
          refine z_lconst (pc := 286) hZ 1 dM_product_286 (by decide) ?_
          refine z_bipush (pc := 287) hZ 27 dM_product_287 (by decide) ?_
          refine z_iload (pc := 289) hZ 0 dM_product_289 rfl ?_
          refine z_isub (pc := 291) hZ dM_product_291 (fun v291_97 ev291_97 => ?_)
          refine z_lshl (pc := 292) hZ dM_product_292 (fun v292_98 ev292_98 => ?_)
          refine z_lconst (pc := 293) hZ 1 dM_product_293 (by decide) ?_
          refine z_lsub (pc := 294) hZ dM_product_294 (fun v294_99 ev294_99 => ?_)
          refine z_land (pc := 295) hZ dM_product_295 (fun v295_100 ev295_100 => ?_)
          refine z_lconst (pc := 296) hZ 0 dM_product_296 (by decide) ?_
          refine z_lif_eq (pc := 297) hZ 311 dM_product_297 dM_product_298 (by decide) (fun c298_101 => ?_) (fun c298_101 => ?_)
          · exact z_retv (pc := 311) hZ dM_product_311 rfl ⟨rfl, _, _, rfl, rfl, (by first | exact ⟨⟨pr_o B2 nokey_, S2⟩, prd_2 hb9 (upx_s u27 hU9 ev149_77) N2 hU8 hk8 lL9 hP9 hv8 ev280_96 (Or.inl ⟨fun z => c298_101 ((mk_k (upx_d hk8 hU8 ev291_97) (by omega) ev292_98 ev294_99 hL9 ev295_100).mpr z), nokey_⟩)⟩ | exact ⟨⟨B2, S2⟩, prd_2 hb9 (upx_s u27 hU9 ev149_77) N2 hU8 hk8 lL9 hP9 hv8 ev280_96 (Or.inr ⟨(mk_k (upx_d hk8 hU8 ev291_97) (by omega) ev292_98 ev294_99 hL9 ev295_100).mp c298_101, rfl⟩)⟩)⟩
          · refine z_aload_n (pc := 301) hZ 7 dM_product_301 rfl rfl ?_
            refine z_dup (pc := 302) hZ dM_product_302 rfl ?_
            refine z_get (pc := 303) (ci := 2) hZ 0 rfl rfl uc_M 12 (by decide) (zb fl_M_95) rfl dM_product_303 ?_
            refine z_lconst (pc := 306) hZ 1 dM_product_306 (by decide) ?_
            refine z_lor (pc := 307) hZ dM_product_307 (fun v307_102 ev307_102 => ?_)
            refine z_put (pc := 308) (ci := 2) hZ 0 rfl rfl uc_M 12 (by decide) (zb fl_M_95) tyM tyM_ok nmM rfl rfl rfl (Nat.le_of_ble_eq_true rfl) dM_product_308 ?_
            show Z 0 0 (TY cR c1 c2 c3) (308 + 3) [(16, .int 27), (15, .int 27), (13, .long v72_19), (11, .long v64_18), (9, .long v56_17), (7, .long v39_12), (5, .long v10_3), (0, .ref h0), (1, .long p1), (3, .long p2)] [] (MW h0 a1 a2 a3 c1 c2 c3 (ka, na, ea, kb, nb, eb, k, n, e, v307_102, v280_96, K, N, E) ++ Y)
            exact z_retv (pc := 311) hZ dM_product_311 rfl ⟨rfl, _, _, rfl, rfl, (by first | exact ⟨⟨pr_o B2 ev307_102, S2⟩, prd_2 hb9 (upx_s u27 hU9 ev149_77) N2 hU8 hk8 lL9 hP9 hv8 ev280_96 (Or.inl ⟨fun z => c298_101 ((mk_k (upx_d hk8 hU8 ev291_97) (by omega) ev292_98 ev294_99 hL9 ev295_100).mpr z), ev307_102⟩)⟩ | exact ⟨⟨B2, S2⟩, prd_2 hb9 (upx_s u27 hU9 ev149_77) N2 hU8 hk8 lL9 hP9 hv8 ev280_96 (Or.inr ⟨(mk_k (upx_d hk8 hU8 ev291_97) (by omega) ev292_98 ev294_99 hL9 ev295_100).mp c298_101, rfl⟩)⟩)⟩
      · refine z_bipush (pc := 223) hZ 27 dM_product_223 (by decide) ?_
        refine z_goto (pc := 225) hZ 235 dM_product_225 (by decide) ?_
        refine z_istore (pc := 235) hZ [(16, .int 27), (15, .int 27), (13, .long v72_19), (11, .long v64_18), (9, .long v56_17), (7, .long v39_12), (5, .long v10_3), (0, .ref h0), (1, .long p1), (3, .long p2)] dM_product_235 (by decide) rfl ?_
        refine z_iload (pc := 237) hZ 0 dM_product_237 rfl ?_
        refine z_bipush (pc := 239) hZ 27 dM_product_239 (by decide) ?_
        refine z_icmp_le (pc := 241) hZ 249 dM_product_241 (by decide) (fun c241 => ?_) (fun c9 => False.elim (absurd c9 (by decide)))
        refine z_iload (pc := 249) hZ 0 dM_product_249 rfl ?_
        refine z_istore (pc := 251) hZ [(16, .int 27), (15, .int 27), (13, .long v72_19), (11, .long v64_18), (9, .long v56_17), (7, .long v39_12), (5, .long v10_3), (0, .ref h0), (1, .long p1), (3, .long p2)] dM_product_251 (by decide) rfl ?_
        have U2 : UP v138_76 27 := by first | exact up_27 nokey_ c241 | exact up_r nokey_ c241 | exact up_0 c220_78
        have N2 : UPN v138_76 27 := by first | exact upn_27 | exact upn_r nokey_
        have u27 : U9 = 27 := upx27 hU9 hk9 c157
        have hb9 := upx_b u27 hk9 hv9
        refine z_aload_n (pc := 253) hZ 7 dM_product_253 rfl rfl ?_
        refine z_aload_n (pc := 254) hZ 7 dM_product_254 rfl rfl ?_
        refine z_get (pc := 255) (ci := 2) hZ 0 rfl rfl uc_M 12 (by decide) (zb fl_M_95) rfl dM_product_255 ?_
        refine z_iload (pc := 258) hZ 0 dM_product_258 rfl ?_
        refine z_lshl (pc := 260) hZ dM_product_260 (fun v260_103 ev260_103 => ?_)
        refine z_lload (pc := 261) hZ 2 dM_product_261 rfl ?_
        refine z_bipush (pc := 263) hZ 27 dM_product_263 (by decide) ?_
        refine z_iload (pc := 265) hZ 0 dM_product_265 rfl ?_
        refine z_isub (pc := 267) hZ dM_product_267 (fun v267_104 ev267_104 => ?_)
        refine z_lshr (pc := 268) hZ dM_product_268 (fun v268_105 ev268_105 => ?_)
        refine z_lor (pc := 269) hZ dM_product_269 (fun v269_106 ev269_106 => ?_)
        have B2 := pr_b U2 B1.1 HL ev260_103 ev267_104 ev268_105 ev269_106
        obtain ⟨U8, k8, hU8, hk8, hd8, hv8⟩ := pv_b U2 hb9 hL9 lL9 ev260_103 ev267_104 ev268_105 ev269_106
        refine z_put (pc := 270) (ci := 2) hZ 0 rfl rfl uc_M 12 (by decide) (zb fl_M_95) tyM tyM_ok nmM rfl rfl rfl (Nat.le_of_ble_eq_true rfl) dM_product_270 ?_
        show Z 0 0 (TY cR c1 c2 c3) (270 + 3) [(16, .int 27), (15, .int 27), (13, .long v72_19), (11, .long v64_18), (9, .long v56_17), (7, .long v39_12), (5, .long v10_3), (0, .ref h0), (1, .long p1), (3, .long p2)] [] (MW h0 a1 a2 a3 c1 c2 c3 (ka, na, ea, kb, nb, eb, k, n, e, v269_106, v149_77, K, N, E) ++ Y)
        refine z_aload_n (pc := 273) hZ 7 dM_product_273 rfl rfl ?_
        refine z_dup (pc := 274) hZ dM_product_274 rfl ?_
        refine z_get (pc := 275) (ci := 2) hZ 0 rfl rfl uc_M 13 (by decide) (zb fl_M_98) rfl dM_product_275 ?_
        refine z_iload (pc := 278) hZ 0 dM_product_278 rfl ?_
        refine z_isub (pc := 280) hZ dM_product_280 (fun v280_107 ev280_107 => ?_)
        have S2 := pr_s U2 S1 ev280_107
        refine z_put (pc := 281) (ci := 2) hZ 0 rfl rfl uc_M 13 (by decide) (zb fl_M_98) tyM tyM_ok nmM rfl rfl rfl (Nat.le_of_ble_eq_true rfl) dM_product_281 ?_
        show Z 0 0 (TY cR c1 c2 c3) (281 + 3) [(16, .int 27), (15, .int 27), (13, .long v72_19), (11, .long v64_18), (9, .long v56_17), (7, .long v39_12), (5, .long v10_3), (0, .ref h0), (1, .long p1), (3, .long p2)] [] (MW h0 a1 a2 a3 c1 c2 c3 (ka, na, ea, kb, nb, eb, k, n, e, v269_106, v280_107, K, N, E) ++ Y)
        refine z_lload (pc := 284) hZ 2 dM_product_284 rfl ?_
        refine z_lconst (pc := 286) hZ 1 dM_product_286 (by decide) ?_
        refine z_bipush (pc := 287) hZ 27 dM_product_287 (by decide) ?_
        refine z_iload (pc := 289) hZ 0 dM_product_289 rfl ?_
        refine z_isub (pc := 291) hZ dM_product_291 (fun v291_108 ev291_108 => ?_)
        refine z_lshl (pc := 292) hZ dM_product_292 (fun v292_109 ev292_109 => ?_)
        refine z_lconst (pc := 293) hZ 1 dM_product_293 (by decide) ?_
        refine z_lsub (pc := 294) hZ dM_product_294 (fun v294_110 ev294_110 => ?_)
        refine z_land (pc := 295) hZ dM_product_295 (fun v295_111 ev295_111 => ?_)
        refine z_lconst (pc := 296) hZ 0 dM_product_296 (by decide) ?_
        refine z_lif_eq (pc := 297) hZ 311 dM_product_297 dM_product_298 (by decide) (fun c298_112 => ?_) (fun c298_112 => ?_)
        · exact z_retv (pc := 311) hZ dM_product_311 rfl ⟨rfl, _, _, rfl, rfl, (by first | exact ⟨⟨pr_o B2 nokey_, S2⟩, prd_2 hb9 (upx_s u27 hU9 ev149_77) N2 hU8 hk8 lL9 hP9 hv8 ev280_107 (Or.inl ⟨fun z => c298_112 ((mk_k (upx_d hk8 hU8 ev291_108) (by omega) ev292_109 ev294_110 hL9 ev295_111).mpr z), nokey_⟩)⟩ | exact ⟨⟨B2, S2⟩, prd_2 hb9 (upx_s u27 hU9 ev149_77) N2 hU8 hk8 lL9 hP9 hv8 ev280_107 (Or.inr ⟨(mk_k (upx_d hk8 hU8 ev291_108) (by omega) ev292_109 ev294_110 hL9 ev295_111).mp c298_112, rfl⟩)⟩)⟩
        · refine z_aload_n (pc := 301) hZ 7 dM_product_301 rfl rfl ?_
          refine z_dup (pc := 302) hZ dM_product_302 rfl ?_
          refine z_get (pc := 303) (ci := 2) hZ 0 rfl rfl uc_M 12 (by decide) (zb fl_M_95) rfl dM_product_303 ?_
          refine z_lconst (pc := 306) hZ 1 dM_product_306 (by decide) ?_
          refine z_lor (pc := 307) hZ dM_product_307 (fun v307_113 ev307_113 => ?_)
          refine z_put (pc := 308) (ci := 2) hZ 0 rfl rfl uc_M 12 (by decide) (zb fl_M_95) tyM tyM_ok nmM rfl rfl rfl (Nat.le_of_ble_eq_true rfl) dM_product_308 ?_
          show Z 0 0 (TY cR c1 c2 c3) (308 + 3) [(16, .int 27), (15, .int 27), (13, .long v72_19), (11, .long v64_18), (9, .long v56_17), (7, .long v39_12), (5, .long v10_3), (0, .ref h0), (1, .long p1), (3, .long p2)] [] (MW h0 a1 a2 a3 c1 c2 c3 (ka, na, ea, kb, nb, eb, k, n, e, v307_113, v280_107, K, N, E) ++ Y)
          exact z_retv (pc := 311) hZ dM_product_311 rfl ⟨rfl, _, _, rfl, rfl, (by first | exact ⟨⟨pr_o B2 ev307_113, S2⟩, prd_2 hb9 (upx_s u27 hU9 ev149_77) N2 hU8 hk8 lL9 hP9 hv8 ev280_107 (Or.inl ⟨fun z => c298_112 ((mk_k (upx_d hk8 hU8 ev291_108) (by omega) ev292_109 ev294_110 hL9 ev295_111).mpr z), ev307_113⟩)⟩ | exact ⟨⟨B2, S2⟩, prd_2 hb9 (upx_s u27 hU9 ev149_77) N2 hU8 hk8 lL9 hP9 hv8 ev280_107 (Or.inr ⟨(mk_k (upx_d hk8 hU8 ev291_108) (by omega) ev292_109 ev294_110 hL9 ev295_111).mp c298_112, rfl⟩)⟩)⟩
  · refine z_bipush (pc := 94) hZ 27 dM_product_94 (by decide) ?_
    refine z_goto (pc := 96) hZ 104 dM_product_96 (by decide) ?_
    refine z_istore (pc := 104) hZ [(15, .int 27), (13, .long v72_19), (11, .long v64_18), (9, .long v56_17), (7, .long v39_12), (5, .long v10_3), (0, .ref h0), (1, .long p1), (3, .long p2)] dM_product_104 (by decide) rfl ?_
    refine z_iload (pc := 106) hZ 0 dM_product_106 rfl ?_
    refine z_bipush (pc := 108) hZ 27 dM_product_108 (by decide) ?_
    refine z_icmp_le (pc := 110) hZ 118 dM_product_110 (by decide) (fun c110 => ?_) (fun c9 => False.elim (absurd c9 (by decide)))
    refine z_iload (pc := 118) hZ 0 dM_product_118 rfl ?_
    refine z_istore (pc := 120) hZ [(15, .int 27), (13, .long v72_19), (11, .long v64_18), (9, .long v56_17), (7, .long v39_12), (5, .long v10_3), (0, .ref h0), (1, .long p1), (3, .long p2)] dM_product_120 (by decide) rfl ?_
    have U1 : UP v56_17 27 := by first | exact up_27 nokey_ c110 | exact up_r nokey_ c110 | exact up_0 c91_20
    have N1 : UPN v56_17 27 := by first | exact upn_27 | exact upn_r nokey_
    refine z_aload_n (pc := 122) hZ 6 dM_product_122 rfl rfl ?_
    refine z_aload_n (pc := 123) hZ 6 dM_product_123 rfl rfl ?_
    refine z_get (pc := 124) (ci := 2) hZ 0 rfl rfl uc_M 12 (by decide) (zb fl_M_95) rfl dM_product_124 ?_
    refine z_iload (pc := 127) hZ 0 dM_product_127 rfl ?_
    refine z_lshl (pc := 129) hZ dM_product_129 (fun v129_114 ev129_114 => ?_)
    refine z_lload (pc := 130) hZ 2 dM_product_130 rfl ?_
    refine z_bipush (pc := 132) hZ 27 dM_product_132 (by decide) ?_
    refine z_iload (pc := 134) hZ 0 dM_product_134 rfl ?_
    refine z_isub (pc := 136) hZ dM_product_136 (fun v136_115 ev136_115 => ?_)
    refine z_lshr (pc := 137) hZ dM_product_137 (fun v137_116 ev137_116 => ?_)
    refine z_lor (pc := 138) hZ dM_product_138 (fun v138_117 ev138_117 => ?_)
    have B1 := pr_b U1 HI.1 HM ev129_114 ev136_115 ev137_116 ev138_117
    obtain ⟨U9, k9, hU9, hk9, hd9, hv9⟩ := pv_b U1 hH9 hR9 lR9 ev129_114 ev136_115 ev137_116 ev138_117
    refine z_put (pc := 139) (ci := 2) hZ 0 rfl rfl uc_M 12 (by decide) (zb fl_M_95) tyM tyM_ok nmM rfl rfl rfl (Nat.le_of_ble_eq_true rfl) dM_product_139 ?_
    show Z 0 0 (TY cR c1 c2 c3) (139 + 3) [(15, .int 27), (13, .long v72_19), (11, .long v64_18), (9, .long v56_17), (7, .long v39_12), (5, .long v10_3), (0, .ref h0), (1, .long p1), (3, .long p2)] [] (MW h0 a1 a2 a3 c1 c2 c3 (ka, na, ea, kb, nb, eb, k, n, e, v138_117, 54, K, N, E) ++ Y)
    refine z_aload_n (pc := 142) hZ 6 dM_product_142 rfl rfl ?_
    refine z_dup (pc := 143) hZ dM_product_143 rfl ?_
    refine z_get (pc := 144) (ci := 2) hZ 0 rfl rfl uc_M 13 (by decide) (zb fl_M_98) rfl dM_product_144 ?_
    refine z_iload (pc := 147) hZ 0 dM_product_147 rfl ?_
    refine z_isub (pc := 149) hZ dM_product_149 (fun v149_118 ev149_118 => ?_)
    have S1 := pr_s1 U1 ev149_118
    refine z_put (pc := 150) (ci := 2) hZ 0 rfl rfl uc_M 13 (by decide) (zb fl_M_98) tyM tyM_ok nmM rfl rfl rfl (Nat.le_of_ble_eq_true rfl) dM_product_150 ?_
    show Z 0 0 (TY cR c1 c2 c3) (150 + 3) [(15, .int 27), (13, .long v72_19), (11, .long v64_18), (9, .long v56_17), (7, .long v39_12), (5, .long v10_3), (0, .ref h0), (1, .long p1), (3, .long p2)] [] (MW h0 a1 a2 a3 c1 c2 c3 (ka, na, ea, kb, nb, eb, k, n, e, v138_117, v149_118, K, N, E) ++ Y)
    refine z_iload (pc := 153) hZ 0 dM_product_153 rfl ?_
    refine z_bipush (pc := 155) hZ 27 dM_product_155 (by decide) ?_
    refine z_icmp_ge (pc := 157) hZ 214 dM_product_157 (by decide) (fun c157 => ?_) (fun c9 => False.elim (absurd c9 (by decide)))
    refine z_aload_n (pc := 214) hZ 6 dM_product_214 rfl rfl ?_
    refine z_get (pc := 215) (ci := 2) hZ 0 rfl rfl uc_M 12 (by decide) (zb fl_M_95) rfl dM_product_215 ?_
    refine z_lconst (pc := 218) hZ 0 dM_product_218 (by decide) ?_
    refine z_lif_ne (pc := 219) hZ 228 dM_product_219 dM_product_220 (by decide) (fun c220_119 => ?_) (fun c220_119 => ?_)
    · refine z_aload_n (pc := 228) hZ 6 dM_product_228 rfl rfl ?_
      refine z_get (pc := 229) (ci := 2) hZ 0 rfl rfl uc_M 12 (by decide) (zb fl_M_95) rfl dM_product_229 ?_
      refine z_callS (pc := 232) (As := [.long v138_117]) (rest := []) hZ (cM_room l D (TY cR c1 c2 c3) (MW h0 a1 a2 a3 c1 c2 c3 (ka, na, ea, kb, nb, eb, k, n, e, v138_117, v149_118, K, N, E) ++ Y) v138_117 (by exact pos_ne B1.1 c220_119) (by exact B1.2)) zyM_room (z_goodS ml_M_78 st_M_room in_M co_M_room) rfl rfl (by decide) rfl rfl (Nat.le_of_ble_eq_true rfl) ⟨Nat.zero_le _, Nat.zero_le _⟩ dM_product_232 (z_ki (fun r232_120 w1 tys1 hp => ?_))
      obtain ⟨rfl, rfl, p232_120⟩ := hp
      refine z_istore (pc := 235) hZ [(16, .int r232_120), (15, .int 27), (13, .long v72_19), (11, .long v64_18), (9, .long v56_17), (7, .long v39_12), (5, .long v10_3), (0, .ref h0), (1, .long p1), (3, .long p2)] dM_product_235 (by decide) rfl ?_
      refine z_iload (pc := 237) hZ 0 dM_product_237 rfl ?_
      refine z_bipush (pc := 239) hZ 27 dM_product_239 (by decide) ?_
      refine z_icmp_le (pc := 241) hZ 249 dM_product_241 (by decide) (fun c241_121 => ?_) (fun c241_121 => ?_)
      · refine z_iload (pc := 249) hZ 0 dM_product_249 rfl ?_
        refine z_istore (pc := 251) hZ [(16, .int r232_120), (15, .int 27), (13, .long v72_19), (11, .long v64_18), (9, .long v56_17), (7, .long v39_12), (5, .long v10_3), (0, .ref h0), (1, .long p1), (3, .long p2)] dM_product_251 (by decide) rfl ?_
        have U2 : UP v138_117 r232_120 := by first | exact up_27 p232_120 c241_121 | exact up_r p232_120 c241_121 | exact up_0 c220_119
        have N2 : UPN v138_117 r232_120 := by first | exact upn_27 | exact upn_r p232_120
        have u27 : U9 = 27 := upx27 hU9 hk9 c157
        have hb9 := upx_b u27 hk9 hv9
        refine z_aload_n (pc := 253) hZ 7 dM_product_253 rfl rfl ?_
        refine z_aload_n (pc := 254) hZ 7 dM_product_254 rfl rfl ?_
        refine z_get (pc := 255) (ci := 2) hZ 0 rfl rfl uc_M 12 (by decide) (zb fl_M_95) rfl dM_product_255 ?_
        refine z_iload (pc := 258) hZ 0 dM_product_258 rfl ?_
        refine z_lshl (pc := 260) hZ dM_product_260 (fun v260_122 ev260_122 => ?_)
        refine z_lload (pc := 261) hZ 2 dM_product_261 rfl ?_
        refine z_bipush (pc := 263) hZ 27 dM_product_263 (by decide) ?_
        refine z_iload (pc := 265) hZ 0 dM_product_265 rfl ?_
        refine z_isub (pc := 267) hZ dM_product_267 (fun v267_123 ev267_123 => ?_)
        refine z_lshr (pc := 268) hZ dM_product_268 (fun v268_124 ev268_124 => ?_)
        refine z_lor (pc := 269) hZ dM_product_269 (fun v269_125 ev269_125 => ?_)
        have B2 := pr_b U2 B1.1 HL ev260_122 ev267_123 ev268_124 ev269_125
        obtain ⟨U8, k8, hU8, hk8, hd8, hv8⟩ := pv_b U2 hb9 hL9 lL9 ev260_122 ev267_123 ev268_124 ev269_125
        refine z_put (pc := 270) (ci := 2) hZ 0 rfl rfl uc_M 12 (by decide) (zb fl_M_95) tyM tyM_ok nmM rfl rfl rfl (Nat.le_of_ble_eq_true rfl) dM_product_270 ?_
        show Z 0 0 (TY cR c1 c2 c3) (270 + 3) [(16, .int r232_120), (15, .int 27), (13, .long v72_19), (11, .long v64_18), (9, .long v56_17), (7, .long v39_12), (5, .long v10_3), (0, .ref h0), (1, .long p1), (3, .long p2)] [] (MW h0 a1 a2 a3 c1 c2 c3 (ka, na, ea, kb, nb, eb, k, n, e, v269_125, v149_118, K, N, E) ++ Y)
        refine z_aload_n (pc := 273) hZ 7 dM_product_273 rfl rfl ?_
        refine z_dup (pc := 274) hZ dM_product_274 rfl ?_
        refine z_get (pc := 275) (ci := 2) hZ 0 rfl rfl uc_M 13 (by decide) (zb fl_M_98) rfl dM_product_275 ?_
        refine z_iload (pc := 278) hZ 0 dM_product_278 rfl ?_
        refine z_isub (pc := 280) hZ dM_product_280 (fun v280_126 ev280_126 => ?_)
        have S2 := pr_s U2 S1 ev280_126
        refine z_put (pc := 281) (ci := 2) hZ 0 rfl rfl uc_M 13 (by decide) (zb fl_M_98) tyM tyM_ok nmM rfl rfl rfl (Nat.le_of_ble_eq_true rfl) dM_product_281 ?_
        show Z 0 0 (TY cR c1 c2 c3) (281 + 3) [(16, .int r232_120), (15, .int 27), (13, .long v72_19), (11, .long v64_18), (9, .long v56_17), (7, .long v39_12), (5, .long v10_3), (0, .ref h0), (1, .long p1), (3, .long p2)] [] (MW h0 a1 a2 a3 c1 c2 c3 (ka, na, ea, kb, nb, eb, k, n, e, v269_125, v280_126, K, N, E) ++ Y)
        refine z_lload (pc := 284) hZ 2 dM_product_284 rfl ?_
        refine z_lconst (pc := 286) hZ 1 dM_product_286 (by decide) ?_
        refine z_bipush (pc := 287) hZ 27 dM_product_287 (by decide) ?_
        refine z_iload (pc := 289) hZ 0 dM_product_289 rfl ?_
        refine z_isub (pc := 291) hZ dM_product_291 (fun v291_127 ev291_127 => ?_)
        refine z_lshl (pc := 292) hZ dM_product_292 (fun v292_128 ev292_128 => ?_)
        refine z_lconst (pc := 293) hZ 1 dM_product_293 (by decide) ?_
        refine z_lsub (pc := 294) hZ dM_product_294 (fun v294_129 ev294_129 => ?_)
        refine z_land (pc := 295) hZ dM_product_295 (fun v295_130 ev295_130 => ?_)
        refine z_lconst (pc := 296) hZ 0 dM_product_296 (by decide) ?_
        refine z_lif_eq (pc := 297) hZ 311 dM_product_297 dM_product_298 (by decide) (fun c298_131 => ?_) (fun c298_131 => ?_)
        · exact z_retv (pc := 311) hZ dM_product_311 rfl ⟨rfl, _, _, rfl, rfl, (by first | exact ⟨⟨pr_o B2 nokey_, S2⟩, prd_2 hb9 (upx_s u27 hU9 ev149_118) N2 hU8 hk8 lL9 hP9 hv8 ev280_126 (Or.inl ⟨fun z => c298_131 ((mk_k (upx_d hk8 hU8 ev291_127) (by omega) ev292_128 ev294_129 hL9 ev295_130).mpr z), nokey_⟩)⟩ | exact ⟨⟨B2, S2⟩, prd_2 hb9 (upx_s u27 hU9 ev149_118) N2 hU8 hk8 lL9 hP9 hv8 ev280_126 (Or.inr ⟨(mk_k (upx_d hk8 hU8 ev291_127) (by omega) ev292_128 ev294_129 hL9 ev295_130).mp c298_131, rfl⟩)⟩)⟩
        · refine z_aload_n (pc := 301) hZ 7 dM_product_301 rfl rfl ?_
          refine z_dup (pc := 302) hZ dM_product_302 rfl ?_
          refine z_get (pc := 303) (ci := 2) hZ 0 rfl rfl uc_M 12 (by decide) (zb fl_M_95) rfl dM_product_303 ?_
          refine z_lconst (pc := 306) hZ 1 dM_product_306 (by decide) ?_
          refine z_lor (pc := 307) hZ dM_product_307 (fun v307_132 ev307_132 => ?_)
          refine z_put (pc := 308) (ci := 2) hZ 0 rfl rfl uc_M 12 (by decide) (zb fl_M_95) tyM tyM_ok nmM rfl rfl rfl (Nat.le_of_ble_eq_true rfl) dM_product_308 ?_
          show Z 0 0 (TY cR c1 c2 c3) (308 + 3) [(16, .int r232_120), (15, .int 27), (13, .long v72_19), (11, .long v64_18), (9, .long v56_17), (7, .long v39_12), (5, .long v10_3), (0, .ref h0), (1, .long p1), (3, .long p2)] [] (MW h0 a1 a2 a3 c1 c2 c3 (ka, na, ea, kb, nb, eb, k, n, e, v307_132, v280_126, K, N, E) ++ Y)
          exact z_retv (pc := 311) hZ dM_product_311 rfl ⟨rfl, _, _, rfl, rfl, (by first | exact ⟨⟨pr_o B2 ev307_132, S2⟩, prd_2 hb9 (upx_s u27 hU9 ev149_118) N2 hU8 hk8 lL9 hP9 hv8 ev280_126 (Or.inl ⟨fun z => c298_131 ((mk_k (upx_d hk8 hU8 ev291_127) (by omega) ev292_128 ev294_129 hL9 ev295_130).mpr z), ev307_132⟩)⟩ | exact ⟨⟨B2, S2⟩, prd_2 hb9 (upx_s u27 hU9 ev149_118) N2 hU8 hk8 lL9 hP9 hv8 ev280_126 (Or.inr ⟨(mk_k (upx_d hk8 hU8 ev291_127) (by omega) ev292_128 ev294_129 hL9 ev295_130).mp c298_131, rfl⟩)⟩)⟩
      · refine z_bipush (pc := 244) hZ 27 dM_product_244 (by decide) ?_
        refine z_goto (pc := 246) hZ 251 dM_product_246 (by decide) ?_
        refine z_istore (pc := 251) hZ [(16, .int 27), (15, .int 27), (13, .long v72_19), (11, .long v64_18), (9, .long v56_17), (7, .long v39_12), (5, .long v10_3), (0, .ref h0), (1, .long p1), (3, .long p2)] dM_product_251 (by decide) rfl ?_
        have U2 : UP v138_117 27 := by first | exact up_27 p232_120 c241_121 | exact up_r p232_120 c241_121 | exact up_0 c220_119
        have N2 : UPN v138_117 27 := by first | exact upn_27 | exact upn_r p232_120
        have u27 : U9 = 27 := upx27 hU9 hk9 c157
        have hb9 := upx_b u27 hk9 hv9
        refine z_aload_n (pc := 253) hZ 7 dM_product_253 rfl rfl ?_
        refine z_aload_n (pc := 254) hZ 7 dM_product_254 rfl rfl ?_
        refine z_get (pc := 255) (ci := 2) hZ 0 rfl rfl uc_M 12 (by decide) (zb fl_M_95) rfl dM_product_255 ?_
        refine z_iload (pc := 258) hZ 0 dM_product_258 rfl ?_
        refine z_lshl (pc := 260) hZ dM_product_260 (fun v260_133 ev260_133 => ?_)
        refine z_lload (pc := 261) hZ 2 dM_product_261 rfl ?_
        refine z_bipush (pc := 263) hZ 27 dM_product_263 (by decide) ?_
        refine z_iload (pc := 265) hZ 0 dM_product_265 rfl ?_
        refine z_isub (pc := 267) hZ dM_product_267 (fun v267_134 ev267_134 => ?_)
        refine z_lshr (pc := 268) hZ dM_product_268 (fun v268_135 ev268_135 => ?_)
        refine z_lor (pc := 269) hZ dM_product_269 (fun v269_136 ev269_136 => ?_)
        have B2 := pr_b U2 B1.1 HL ev260_133 ev267_134 ev268_135 ev269_136
        obtain ⟨U8, k8, hU8, hk8, hd8, hv8⟩ := pv_b U2 hb9 hL9 lL9 ev260_133 ev267_134 ev268_135 ev269_136
        refine z_put (pc := 270) (ci := 2) hZ 0 rfl rfl uc_M 12 (by decide) (zb fl_M_95) tyM tyM_ok nmM rfl rfl rfl (Nat.le_of_ble_eq_true rfl) dM_product_270 ?_
        show Z 0 0 (TY cR c1 c2 c3) (270 + 3) [(16, .int 27), (15, .int 27), (13, .long v72_19), (11, .long v64_18), (9, .long v56_17), (7, .long v39_12), (5, .long v10_3), (0, .ref h0), (1, .long p1), (3, .long p2)] [] (MW h0 a1 a2 a3 c1 c2 c3 (ka, na, ea, kb, nb, eb, k, n, e, v269_136, v149_118, K, N, E) ++ Y)
        refine z_aload_n (pc := 273) hZ 7 dM_product_273 rfl rfl ?_
        refine z_dup (pc := 274) hZ dM_product_274 rfl ?_
        refine z_get (pc := 275) (ci := 2) hZ 0 rfl rfl uc_M 13 (by decide) (zb fl_M_98) rfl dM_product_275 ?_
        refine z_iload (pc := 278) hZ 0 dM_product_278 rfl ?_
        refine z_isub (pc := 280) hZ dM_product_280 (fun v280_137 ev280_137 => ?_)
        have S2 := pr_s U2 S1 ev280_137
        refine z_put (pc := 281) (ci := 2) hZ 0 rfl rfl uc_M 13 (by decide) (zb fl_M_98) tyM tyM_ok nmM rfl rfl rfl (Nat.le_of_ble_eq_true rfl) dM_product_281 ?_
        show Z 0 0 (TY cR c1 c2 c3) (281 + 3) [(16, .int 27), (15, .int 27), (13, .long v72_19), (11, .long v64_18), (9, .long v56_17), (7, .long v39_12), (5, .long v10_3), (0, .ref h0), (1, .long p1), (3, .long p2)] [] (MW h0 a1 a2 a3 c1 c2 c3 (ka, na, ea, kb, nb, eb, k, n, e, v269_136, v280_137, K, N, E) ++ Y)
        refine z_lload (pc := 284) hZ 2 dM_product_284 rfl ?_
        refine z_lconst (pc := 286) hZ 1 dM_product_286 (by decide) ?_
        refine z_bipush (pc := 287) hZ 27 dM_product_287 (by decide) ?_
        refine z_iload (pc := 289) hZ 0 dM_product_289 rfl ?_
        refine z_isub (pc := 291) hZ dM_product_291 (fun v291_138 ev291_138 => ?_)
        refine z_lshl (pc := 292) hZ dM_product_292 (fun v292_139 ev292_139 => ?_)
        refine z_lconst (pc := 293) hZ 1 dM_product_293 (by decide) ?_
        refine z_lsub (pc := 294) hZ dM_product_294 (fun v294_140 ev294_140 => ?_)
        refine z_land (pc := 295) hZ dM_product_295 (fun v295_141 ev295_141 => ?_)
        refine z_lconst (pc := 296) hZ 0 dM_product_296 (by decide) ?_
        refine z_lif_eq (pc := 297) hZ 311 dM_product_297 dM_product_298 (by decide) (fun c298_142 => ?_) (fun c298_142 => ?_)
        · exact z_retv (pc := 311) hZ dM_product_311 rfl ⟨rfl, _, _, rfl, rfl, (by first | exact ⟨⟨pr_o B2 nokey_, S2⟩, prd_2 hb9 (upx_s u27 hU9 ev149_118) N2 hU8 hk8 lL9 hP9 hv8 ev280_137 (Or.inl ⟨fun z => c298_142 ((mk_k (upx_d hk8 hU8 ev291_138) (by omega) ev292_139 ev294_140 hL9 ev295_141).mpr z), nokey_⟩)⟩ | exact ⟨⟨B2, S2⟩, prd_2 hb9 (upx_s u27 hU9 ev149_118) N2 hU8 hk8 lL9 hP9 hv8 ev280_137 (Or.inr ⟨(mk_k (upx_d hk8 hU8 ev291_138) (by omega) ev292_139 ev294_140 hL9 ev295_141).mp c298_142, rfl⟩)⟩)⟩
        · refine z_aload_n (pc := 301) hZ 7 dM_product_301 rfl rfl ?_
          refine z_dup (pc := 302) hZ dM_product_302 rfl ?_
          refine z_get (pc := 303) (ci := 2) hZ 0 rfl rfl uc_M 12 (by decide) (zb fl_M_95) rfl dM_product_303 ?_
          refine z_lconst (pc := 306) hZ 1 dM_product_306 (by decide) ?_
          refine z_lor (pc := 307) hZ dM_product_307 (fun v307_143 ev307_143 => ?_)
          refine z_put (pc := 308) (ci := 2) hZ 0 rfl rfl uc_M 12 (by decide) (zb fl_M_95) tyM tyM_ok nmM rfl rfl rfl (Nat.le_of_ble_eq_true rfl) dM_product_308 ?_
          show Z 0 0 (TY cR c1 c2 c3) (308 + 3) [(16, .int 27), (15, .int 27), (13, .long v72_19), (11, .long v64_18), (9, .long v56_17), (7, .long v39_12), (5, .long v10_3), (0, .ref h0), (1, .long p1), (3, .long p2)] [] (MW h0 a1 a2 a3 c1 c2 c3 (ka, na, ea, kb, nb, eb, k, n, e, v307_143, v280_137, K, N, E) ++ Y)
          exact z_retv (pc := 311) hZ dM_product_311 rfl ⟨rfl, _, _, rfl, rfl, (by first | exact ⟨⟨pr_o B2 ev307_143, S2⟩, prd_2 hb9 (upx_s u27 hU9 ev149_118) N2 hU8 hk8 lL9 hP9 hv8 ev280_137 (Or.inl ⟨fun z => c298_142 ((mk_k (upx_d hk8 hU8 ev291_138) (by omega) ev292_139 ev294_140 hL9 ev295_141).mpr z), ev307_143⟩)⟩ | exact ⟨⟨B2, S2⟩, prd_2 hb9 (upx_s u27 hU9 ev149_118) N2 hU8 hk8 lL9 hP9 hv8 ev280_137 (Or.inr ⟨(mk_k (upx_d hk8 hU8 ev291_138) (by omega) ev292_139 ev294_140 hL9 ev295_141).mp c298_142, rfl⟩)⟩)⟩
    · refine z_bipush (pc := 223) hZ 27 dM_product_223 (by decide) ?_
      refine z_goto (pc := 225) hZ 235 dM_product_225 (by decide) ?_
      refine z_istore (pc := 235) hZ [(16, .int 27), (15, .int 27), (13, .long v72_19), (11, .long v64_18), (9, .long v56_17), (7, .long v39_12), (5, .long v10_3), (0, .ref h0), (1, .long p1), (3, .long p2)] dM_product_235 (by decide) rfl ?_
      refine z_iload (pc := 237) hZ 0 dM_product_237 rfl ?_
      refine z_bipush (pc := 239) hZ 27 dM_product_239 (by decide) ?_
      refine z_icmp_le (pc := 241) hZ 249 dM_product_241 (by decide) (fun c241 => ?_) (fun c9 => False.elim (absurd c9 (by decide)))
      refine z_iload (pc := 249) hZ 0 dM_product_249 rfl ?_
      refine z_istore (pc := 251) hZ [(16, .int 27), (15, .int 27), (13, .long v72_19), (11, .long v64_18), (9, .long v56_17), (7, .long v39_12), (5, .long v10_3), (0, .ref h0), (1, .long p1), (3, .long p2)] dM_product_251 (by decide) rfl ?_
      have U2 : UP v138_117 27 := by first | exact up_27 nokey_ c241 | exact up_r nokey_ c241 | exact up_0 c220_119
      have N2 : UPN v138_117 27 := by first | exact upn_27 | exact upn_r nokey_
      have u27 : U9 = 27 := upx27 hU9 hk9 c157
      have hb9 := upx_b u27 hk9 hv9
      refine z_aload_n (pc := 253) hZ 7 dM_product_253 rfl rfl ?_
      refine z_aload_n (pc := 254) hZ 7 dM_product_254 rfl rfl ?_
      refine z_get (pc := 255) (ci := 2) hZ 0 rfl rfl uc_M 12 (by decide) (zb fl_M_95) rfl dM_product_255 ?_
      refine z_iload (pc := 258) hZ 0 dM_product_258 rfl ?_
      refine z_lshl (pc := 260) hZ dM_product_260 (fun v260_144 ev260_144 => ?_)
      refine z_lload (pc := 261) hZ 2 dM_product_261 rfl ?_
      refine z_bipush (pc := 263) hZ 27 dM_product_263 (by decide) ?_
      refine z_iload (pc := 265) hZ 0 dM_product_265 rfl ?_
      refine z_isub (pc := 267) hZ dM_product_267 (fun v267_145 ev267_145 => ?_)
      refine z_lshr (pc := 268) hZ dM_product_268 (fun v268_146 ev268_146 => ?_)
      refine z_lor (pc := 269) hZ dM_product_269 (fun v269_147 ev269_147 => ?_)
      have B2 := pr_b U2 B1.1 HL ev260_144 ev267_145 ev268_146 ev269_147
      obtain ⟨U8, k8, hU8, hk8, hd8, hv8⟩ := pv_b U2 hb9 hL9 lL9 ev260_144 ev267_145 ev268_146 ev269_147
      refine z_put (pc := 270) (ci := 2) hZ 0 rfl rfl uc_M 12 (by decide) (zb fl_M_95) tyM tyM_ok nmM rfl rfl rfl (Nat.le_of_ble_eq_true rfl) dM_product_270 ?_
      show Z 0 0 (TY cR c1 c2 c3) (270 + 3) [(16, .int 27), (15, .int 27), (13, .long v72_19), (11, .long v64_18), (9, .long v56_17), (7, .long v39_12), (5, .long v10_3), (0, .ref h0), (1, .long p1), (3, .long p2)] [] (MW h0 a1 a2 a3 c1 c2 c3 (ka, na, ea, kb, nb, eb, k, n, e, v269_147, v149_118, K, N, E) ++ Y)
      refine z_aload_n (pc := 273) hZ 7 dM_product_273 rfl rfl ?_
      refine z_dup (pc := 274) hZ dM_product_274 rfl ?_
      refine z_get (pc := 275) (ci := 2) hZ 0 rfl rfl uc_M 13 (by decide) (zb fl_M_98) rfl dM_product_275 ?_
      refine z_iload (pc := 278) hZ 0 dM_product_278 rfl ?_
      refine z_isub (pc := 280) hZ dM_product_280 (fun v280_148 ev280_148 => ?_)
      have S2 := pr_s U2 S1 ev280_148
      refine z_put (pc := 281) (ci := 2) hZ 0 rfl rfl uc_M 13 (by decide) (zb fl_M_98) tyM tyM_ok nmM rfl rfl rfl (Nat.le_of_ble_eq_true rfl) dM_product_281 ?_
      show Z 0 0 (TY cR c1 c2 c3) (281 + 3) [(16, .int 27), (15, .int 27), (13, .long v72_19), (11, .long v64_18), (9, .long v56_17), (7, .long v39_12), (5, .long v10_3), (0, .ref h0), (1, .long p1), (3, .long p2)] [] (MW h0 a1 a2 a3 c1 c2 c3 (ka, na, ea, kb, nb, eb, k, n, e, v269_147, v280_148, K, N, E) ++ Y)
      refine z_lload (pc := 284) hZ 2 dM_product_284 rfl ?_
      refine z_lconst (pc := 286) hZ 1 dM_product_286 (by decide) ?_
      refine z_bipush (pc := 287) hZ 27 dM_product_287 (by decide) ?_
      refine z_iload (pc := 289) hZ 0 dM_product_289 rfl ?_
      refine z_isub (pc := 291) hZ dM_product_291 (fun v291_149 ev291_149 => ?_)
      refine z_lshl (pc := 292) hZ dM_product_292 (fun v292_150 ev292_150 => ?_)
      refine z_lconst (pc := 293) hZ 1 dM_product_293 (by decide) ?_
      refine z_lsub (pc := 294) hZ dM_product_294 (fun v294_151 ev294_151 => ?_)
      refine z_land (pc := 295) hZ dM_product_295 (fun v295_152 ev295_152 => ?_)
      refine z_lconst (pc := 296) hZ 0 dM_product_296 (by decide) ?_
      refine z_lif_eq (pc := 297) hZ 311 dM_product_297 dM_product_298 (by decide) (fun c298_153 => ?_) (fun c298_153 => ?_)
      · exact z_retv (pc := 311) hZ dM_product_311 rfl ⟨rfl, _, _, rfl, rfl, (by first | exact ⟨⟨pr_o B2 nokey_, S2⟩, prd_2 hb9 (upx_s u27 hU9 ev149_118) N2 hU8 hk8 lL9 hP9 hv8 ev280_148 (Or.inl ⟨fun z => c298_153 ((mk_k (upx_d hk8 hU8 ev291_149) (by omega) ev292_150 ev294_151 hL9 ev295_152).mpr z), nokey_⟩)⟩ | exact ⟨⟨B2, S2⟩, prd_2 hb9 (upx_s u27 hU9 ev149_118) N2 hU8 hk8 lL9 hP9 hv8 ev280_148 (Or.inr ⟨(mk_k (upx_d hk8 hU8 ev291_149) (by omega) ev292_150 ev294_151 hL9 ev295_152).mp c298_153, rfl⟩)⟩)⟩
      · refine z_aload_n (pc := 301) hZ 7 dM_product_301 rfl rfl ?_
        refine z_dup (pc := 302) hZ dM_product_302 rfl ?_
        refine z_get (pc := 303) (ci := 2) hZ 0 rfl rfl uc_M 12 (by decide) (zb fl_M_95) rfl dM_product_303 ?_
        refine z_lconst (pc := 306) hZ 1 dM_product_306 (by decide) ?_
        refine z_lor (pc := 307) hZ dM_product_307 (fun v307_154 ev307_154 => ?_)
        refine z_put (pc := 308) (ci := 2) hZ 0 rfl rfl uc_M 12 (by decide) (zb fl_M_95) tyM tyM_ok nmM rfl rfl rfl (Nat.le_of_ble_eq_true rfl) dM_product_308 ?_
        show Z 0 0 (TY cR c1 c2 c3) (308 + 3) [(16, .int 27), (15, .int 27), (13, .long v72_19), (11, .long v64_18), (9, .long v56_17), (7, .long v39_12), (5, .long v10_3), (0, .ref h0), (1, .long p1), (3, .long p2)] [] (MW h0 a1 a2 a3 c1 c2 c3 (ka, na, ea, kb, nb, eb, k, n, e, v307_154, v280_148, K, N, E) ++ Y)
        exact z_retv (pc := 311) hZ dM_product_311 rfl ⟨rfl, _, _, rfl, rfl, (by first | exact ⟨⟨pr_o B2 ev307_154, S2⟩, prd_2 hb9 (upx_s u27 hU9 ev149_118) N2 hU8 hk8 lL9 hP9 hv8 ev280_148 (Or.inl ⟨fun z => c298_153 ((mk_k (upx_d hk8 hU8 ev291_149) (by omega) ev292_150 ev294_151 hL9 ev295_152).mpr z), ev307_154⟩)⟩ | exact ⟨⟨B2, S2⟩, prd_2 hb9 (upx_s u27 hU9 ev149_118) N2 hU8 hk8 lL9 hP9 hv8 ev280_148 (Or.inr ⟨(mk_k (upx_d hk8 hU8 ev291_149) (by omega) ev292_150 ev294_151 hL9 ev295_152).mp c298_153, rfl⟩)⟩)⟩
