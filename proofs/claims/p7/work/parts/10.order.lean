set_option maxHeartbeats 4000000 in
set_option maxRecDepth 100000 in
theorem cO_ofSizes (l : Launch) (D : va_G) (tys : zT) (X : va_W) (LP : List Nat) (f : Nat → V3) (a0 : Nat) (h_a0 : a0 ∈ LP) (a1 : Nat) (h_a1 : a1 ∈ LP) : zM l D vwCl zNF zNM yO_ofSizes wsO_ofSizes { frames := 2, cells := 0, slots := 0, locals := 43 } [.ref a0, .ref a1] (X ++ PL LP f) tys (qI (fun r w' tys' => X ++ PL LP f = w' ∧ tys = tys' ∧ (∀ A B, CA (f a0) (.inr (.inl A)) → CA (f a1) (.inr (.inl B)) → A ≠ 0 → B ≠ 0 → CMPN A.natAbs B.natAbs r))) := by
  refine z_met (cc := bO_ofSizes) (maxL := 6) (ret := (some .int)) (isI := false) (own := RO) (by decide +kernel) rfl rfl (fun h => by cases h) (Nat.le_of_ble_eq_true rfl) (fun Z hZ => ?_)
  show Z 0 0 tys 0 [(0, .ref a0), (1, .ref a1)] [] (X ++ PL LP f)
  refine z_aload_n (pc := 0) hZ 0 dO_ofSizes_0 rfl rfl ?_
  obtain ⟨q1_1, hq1_1⟩ := zp_at (X := X) (f := f) h_a0
  refine z_callVN (pc := 1) (As := []) (rest := []) hZ (cV_size l D tys X LP f a0 h_a0) zyV_size (z_good co_V_size) nl_O_68 (zb in_V) (zb im_V_size) (zb se_V_size) q1_1 hq1_1 rfl rfl rfl (by decide) rfl rfl (Nat.le_of_ble_eq_true rfl) ⟨Nat.zero_le _, Nat.zero_le _⟩ dO_ofSizes_1 (z_kl (fun r1_1 w1 tys1 hp => ?_))
  obtain ⟨rfl, rfl, p1_1⟩ := hp
  refine z_callS (pc := 4) (As := [.long r1_1]) (rest := []) hZ (cJL_numberOfLeadingZeros l D tys (X ++ PL LP f) r1_1) zyJL_numberOfLeadingZeros (z_goodS ml_O_71 st_JL_numberOfLeadingZeros in_JL co_JL_numberOfLeadingZeros) rfl rfl (by decide) rfl rfl (Nat.le_of_ble_eq_true rfl) ⟨Nat.zero_le _, Nat.zero_le _⟩ dO_ofSizes_4 (z_ki (fun r4_2 w1 tys1 hp => ?_))
  obtain ⟨rfl, rfl, p4_2⟩ := hp
  refine z_iconst (pc := 7) hZ 1 dO_ofSizes_7 (by decide) ?_
  refine z_isub (pc := 8) hZ dO_ofSizes_8 (fun v8_3 ev8_3 => ?_)
  refine z_istore_n (pc := 9) hZ [(2, .int v8_3), (0, .ref a0), (1, .ref a1)] dO_ofSizes_9 rfl (by decide) rfl ?_
  refine z_aload_n (pc := 10) hZ 2 dO_ofSizes_10 rfl rfl ?_
  obtain ⟨q11_4, hq11_4⟩ := zp_at (X := X) (f := f) h_a1
  refine z_callVN (pc := 11) (As := []) (rest := []) hZ (cV_size l D tys X LP f a1 h_a1) zyV_size (z_good co_V_size) nl_O_68 (zb in_V) (zb im_V_size) (zb se_V_size) q11_4 hq11_4 rfl rfl rfl (by decide) rfl rfl (Nat.le_of_ble_eq_true rfl) ⟨Nat.zero_le _, Nat.zero_le _⟩ dO_ofSizes_11 (z_kl (fun r11_4 w1 tys1 hp => ?_))
  obtain ⟨rfl, rfl, p11_4⟩ := hp
  refine z_callS (pc := 14) (As := [.long r11_4]) (rest := []) hZ (cJL_numberOfLeadingZeros l D tys (X ++ PL LP f) r11_4) zyJL_numberOfLeadingZeros (z_goodS ml_O_71 st_JL_numberOfLeadingZeros in_JL co_JL_numberOfLeadingZeros) rfl rfl (by decide) rfl rfl (Nat.le_of_ble_eq_true rfl) ⟨Nat.zero_le _, Nat.zero_le _⟩ dO_ofSizes_14 (z_ki (fun r14_5 w1 tys1 hp => ?_))
  obtain ⟨rfl, rfl, p14_5⟩ := hp
  refine z_iconst (pc := 17) hZ 1 dO_ofSizes_17 (by decide) ?_
  refine z_isub (pc := 18) hZ dO_ofSizes_18 (fun v18_6 ev18_6 => ?_)
  refine z_istore_n (pc := 19) hZ [(3, .int v18_6), (2, .int v8_3), (0, .ref a0), (1, .ref a1)] dO_ofSizes_19 rfl (by decide) rfl ?_
  refine z_aload_n (pc := 20) hZ 2 dO_ofSizes_20 rfl rfl ?_
  refine z_pg2N (pc := 21) hZ h_a0 uc_V nf_O_55 dO_ofSizes_21 (fun v21_7 ev21_7 => ?_)
  refine z_iload_n (pc := 24) hZ 1 dO_ofSizes_24 rfl rfl ?_
  refine z_isub (pc := 25) hZ dO_ofSizes_25 (fun v25_8 ev25_8 => ?_)
  refine z_istore (pc := 26) hZ [(4, .int v25_8), (3, .int v18_6), (2, .int v8_3), (0, .ref a0), (1, .ref a1)] dO_ofSizes_26 (by decide) rfl ?_
  refine z_aload_n (pc := 28) hZ 4 dO_ofSizes_28 rfl rfl ?_
  refine z_pg2N (pc := 29) hZ h_a1 uc_V nf_O_55 dO_ofSizes_29 (fun v29_9 ev29_9 => ?_)
  refine z_iload_n (pc := 32) hZ 1 dO_ofSizes_32 rfl rfl ?_
  refine z_isub (pc := 33) hZ dO_ofSizes_33 (fun v33_10 ev33_10 => ?_)
  refine z_istore (pc := 34) hZ [(5, .int v33_10), (4, .int v25_8), (3, .int v18_6), (2, .int v8_3), (0, .ref a0), (1, .ref a1)] dO_ofSizes_34 (by decide) rfl ?_
  refine z_iload (pc := 36) hZ 1 dO_ofSizes_36 rfl ?_
  refine z_iload (pc := 38) hZ 0 dO_ofSizes_38 rfl ?_
  refine z_icmp_eq (pc := 40) hZ 51 dO_ofSizes_40 (by decide) (fun c40_11 => ?_) (fun c40_11 => ?_)
  · refine z_aload_n (pc := 51) hZ 4 dO_ofSizes_51 rfl rfl ?_
    obtain ⟨q52_12, hq52_12⟩ := zp_at (X := X) (f := f) h_a0
    refine z_callVN (pc := 52) (As := []) (rest := []) hZ (cV_size l D tys X LP f a0 h_a0) zyV_size (z_good co_V_size) nl_O_68 (zb in_V) (zb im_V_size) (zb se_V_size) q52_12 hq52_12 rfl rfl rfl (by decide) rfl rfl (Nat.le_of_ble_eq_true rfl) ⟨Nat.zero_le _, Nat.zero_le _⟩ dO_ofSizes_52 (z_kl (fun r52_12 w1 tys1 hp => ?_))
    obtain ⟨rfl, rfl, p52_12⟩ := hp
    refine z_iload_n (pc := 55) hZ 3 dO_ofSizes_55 rfl rfl ?_
    refine z_lshl (pc := 56) hZ dO_ofSizes_56 (fun v56_13 ev56_13 => ?_)
    refine z_aload_n (pc := 57) hZ 5 dO_ofSizes_57 rfl rfl ?_
    obtain ⟨q58_14, hq58_14⟩ := zp_at (X := X) (f := f) h_a1
    refine z_callVN (pc := 58) (As := []) (rest := [.long v56_13]) hZ (cV_size l D tys X LP f a1 h_a1) zyV_size (z_good co_V_size) nl_O_68 (zb in_V) (zb im_V_size) (zb se_V_size) q58_14 hq58_14 rfl rfl rfl (by decide) rfl rfl (Nat.le_of_ble_eq_true rfl) ⟨Nat.zero_le _, Nat.zero_le _⟩ dO_ofSizes_58 (z_kl (fun r58_14 w1 tys1 hp => ?_))
    obtain ⟨rfl, rfl, p58_14⟩ := hp
    refine z_iload_n (pc := 61) hZ 2 dO_ofSizes_61 rfl rfl ?_
    refine z_lshl (pc := 62) hZ dO_ofSizes_62 (fun v62_15 ev62_15 => ?_)
    refine z_callS (pc := 63) (As := [.long v56_13, .long v62_15]) (rest := []) hZ (cJL_compare l D tys (X ++ PL LP f) v56_13 v62_15) zyJL_compare (z_goodS ml_O_39 st_JL_compare in_JL co_JL_compare) rfl rfl (by decide) rfl rfl (Nat.le_of_ble_eq_true rfl) ⟨Nat.zero_le _, Nat.zero_le _⟩ dO_ofSizes_63 (z_ki (fun r63_16 w1 tys1 hp => ?_))
    obtain ⟨rfl, rfl, p63_16⟩ := hp
    exact z_reti (pc := 66) hZ dO_ofSizes_66 .int rfl rfl ⟨_, rfl, rfl, rfl, (by first | exact fun A B ha hb a0 b0 => os_e (t1 := 0) (t2 := 0) (m1 := 0) (m2 := 0) ha hb a0 b0 p1_1 p4_2 ev8_3 p11_4 p14_5 ev18_6 ev21_7 ev25_8 ev29_9 ev33_10 (Or.inl ⟨c40_11, nokey_⟩) | exact fun A B ha hb a0 b0 => os_e ha hb a0 b0 p1_1 p4_2 ev8_3 p11_4 p14_5 ev18_6 ev21_7 ev25_8 ev29_9 ev33_10 (Or.inr ⟨c40_11, p52_12, ev56_13, p58_14, ev62_15, p63_16⟩))⟩
  · refine z_iload (pc := 43) hZ 1 dO_ofSizes_43 rfl ?_
    refine z_iload (pc := 45) hZ 0 dO_ofSizes_45 rfl ?_
    refine z_callS (pc := 47) (As := [.int v25_8, .int v33_10]) (rest := []) hZ (cJI_compare l D tys (X ++ PL LP f) v25_8 v33_10) zyJI_compare (z_goodS ml_O_29 st_JI_compare in_JI co_JI_compare) rfl rfl (by decide) rfl rfl (Nat.le_of_ble_eq_true rfl) ⟨Nat.zero_le _, Nat.zero_le _⟩ dO_ofSizes_47 (z_ki (fun r47_17 w1 tys1 hp => ?_))
    obtain ⟨rfl, rfl, p47_17⟩ := hp
    exact z_reti (pc := 50) hZ dO_ofSizes_50 .int rfl rfl ⟨_, rfl, rfl, rfl, (by first | exact fun A B ha hb a0 b0 => os_e (t1 := 0) (t2 := 0) (m1 := 0) (m2 := 0) ha hb a0 b0 p1_1 p4_2 ev8_3 p11_4 p14_5 ev18_6 ev21_7 ev25_8 ev29_9 ev33_10 (Or.inl ⟨c40_11, p47_17⟩) | exact fun A B ha hb a0 b0 => os_e ha hb a0 b0 p1_1 p4_2 ev8_3 p11_4 p14_5 ev18_6 ev21_7 ev25_8 ev29_9 ev33_10 (Or.inr ⟨c40_11, nokey_, nokey_, nokey_, nokey_, nokey_⟩))⟩
set_option maxHeartbeats 4000000 in
set_option maxRecDepth 100000 in
theorem cO_infinityOf (l : Launch) (D : va_G) (tys : zT) (X : va_W) (LP : List Nat) (f : Nat → V3) (a0 : Nat) (h_a0 : a0 ∈ LP) : zM l D vwCl zNF zNM yO_infinityOf wsO_infinityOf { frames := 2, cells := 0, slots := 0, locals := 41 } [.ref a0] (X ++ PL LP f) tys (qI (fun r w' tys' => X ++ PL LP f = w' ∧ tys = tys' ∧ (∀ a, CA (f a0) a → r.toInt = ik a))) := by
  refine z_met (cc := bO_infinityOf) (maxL := 1) (ret := (some .int)) (isI := false) (own := RO) (by decide +kernel) rfl rfl (fun h => by cases h) (Nat.le_of_ble_eq_true rfl) (fun Z hZ => ?_)
  show Z 0 0 tys 0 [(0, .ref a0)] [] (X ++ PL LP f)
  refine z_aload_n (pc := 0) hZ 0 dO_infinityOf_0 rfl rfl ?_
  obtain ⟨q1_1, hq1_1⟩ := zp_at (X := X) (f := f) h_a0
  refine z_callVN (pc := 1) (As := []) (rest := []) hZ (cV_isInfinite l D tys X LP f a0 h_a0) zyV_isInfinite (z_good co_V_isInfinite) nl_O_21 (zb in_V) (zb im_V_isInfinite) (zb se_V_isInfinite) q1_1 hq1_1 rfl rfl rfl (by decide) rfl rfl (Nat.le_of_ble_eq_true rfl) ⟨Nat.zero_le _, Nat.zero_le _⟩ dO_infinityOf_1 (z_ki (fun r1_1 w1 tys1 hp => ?_))
  obtain ⟨rfl, rfl, p1_1⟩ := hp
  refine z_if_eq (pc := 4) hZ 14 dO_infinityOf_4 (by decide) (fun c4_2 => ?_) (fun c4_2 => ?_)
  · refine z_iconst (pc := 14) hZ 0 dO_infinityOf_14 (by decide) ?_
    exact z_reti (pc := 15) hZ dO_infinityOf_15 .int rfl rfl ⟨_, rfl, rfl, rfl, (by first | exact fun a h => io_1 h p1_1 c4_2 (nokey_ _ h) | exact fun a h => io_0 h p1_1 c4_2)⟩
  · refine z_aload_n (pc := 7) hZ 0 dO_infinityOf_7 rfl rfl ?_
    obtain ⟨q8_3, hq8_3⟩ := zp_at (X := X) (f := f) h_a0
    refine z_callVN (pc := 8) (As := []) (rest := []) hZ (cV_sign l D tys X LP f a0 h_a0) zyV_sign (z_good co_V_sign) nl_O_51 (zb in_V) (zb im_V_sign) (zb se_V_sign) q8_3 hq8_3 rfl rfl rfl (by decide) rfl rfl (Nat.le_of_ble_eq_true rfl) ⟨Nat.zero_le _, Nat.zero_le _⟩ dO_infinityOf_8 (z_ki (fun r8_3 w1 tys1 hp => ?_))
    obtain ⟨rfl, rfl, p8_3⟩ := hp
    refine z_goto (pc := 11) hZ 15 dO_infinityOf_11 (by decide) ?_
    exact z_reti (pc := 15) hZ dO_infinityOf_15 .int rfl rfl ⟨_, rfl, rfl, rfl, (by first | exact fun a h => io_1 h p1_1 c4_2 (p8_3 _ h) | exact fun a h => io_0 h p1_1 c4_2)⟩
set_option maxHeartbeats 4000000 in
set_option maxRecDepth 100000 in
theorem cO_ofWhole (l : Launch) (D : va_G) (tys : zT) (X : va_W) (LP : List Nat) (f : Nat → V3) (p0 : Int64) (a1 : Nat) (h_a1 : a1 ∈ LP) : zM l D vwCl zNF zNM yO_ofWhole wsO_ofWhole { frames := 2, cells := 0, slots := 0, locals := 41 } [.long p0, .ref a1] (X ++ PL LP f) tys (qI (fun r w' tys' => X ++ PL LP f = w' ∧ tys = tys' ∧ (∀ A, CA (f a1) (.inr (.inl A)) → SG (p0.toInt * W1 - A) r))) := by
  refine z_met (cc := bO_ofWhole) (maxL := 5) (ret := (some .int)) (isI := false) (own := RO) (by decide +kernel) rfl rfl (fun h => by cases h) (Nat.le_of_ble_eq_true rfl) (fun Z hZ => ?_)
  show Z 0 0 tys 0 [(0, .long p0), (2, .ref a1)] [] (X ++ PL LP f)
  refine z_aload_n (pc := 0) hZ 1 dO_ofWhole_0 rfl rfl ?_
  refine z_pg2N (pc := 1) hZ h_a1 uc_V nf_O_55 dO_ofWhole_1 (fun v1_1 ev1_1 => ?_)
  refine z_if_lt (pc := 4) hZ 20 dO_ofWhole_4 (by decide) (fun c4_2 => ?_) (fun c4_2 => ?_)
  · refine z_aload_n (pc := 20) hZ 1 dO_ofWhole_20 rfl rfl ?_
    obtain ⟨q21_3, hq21_3⟩ := zp_at (X := X) (f := f) h_a1
    refine z_callVN (pc := 21) (As := []) (rest := []) hZ (cV_floor l D tys X LP f a1 h_a1) zyV_floor (z_good co_V_floor) nl_O_61 (zb in_V) (zb im_V_floor) (zb se_V_floor) q21_3 hq21_3 rfl rfl rfl (by decide) rfl rfl (Nat.le_of_ble_eq_true rfl) ⟨Nat.zero_le _, Nat.zero_le _⟩ dO_ofWhole_21 (z_kl (fun r21_3 w1 tys1 hp => ?_))
    obtain ⟨rfl, rfl, p21_3⟩ := hp
    refine z_lstore_n (pc := 24) hZ [(3, .long r21_3), (0, .long p0), (2, .ref a1)] dO_ofWhole_24 rfl (by decide) rfl ?_
    refine z_lload_n (pc := 25) hZ 1 dO_ofWhole_25 rfl rfl ?_
    refine z_lload_n (pc := 26) hZ 0 dO_ofWhole_26 rfl rfl ?_
    refine z_lif_eq (pc := 27) hZ 37 dO_ofWhole_27 dO_ofWhole_28 (by decide) (fun c28_4 => ?_) (fun c28_4 => ?_)
    · refine z_aload_n (pc := 37) hZ 2 dO_ofWhole_37 rfl rfl ?_
      refine z_pg2N (pc := 38) hZ h_a1 uc_V nf_O_55 dO_ofWhole_38 (fun v38_5 ev38_5 => ?_)
      refine z_if_ge (pc := 41) hZ 48 dO_ofWhole_41 (by decide) (fun c41_6 => ?_) (fun c41_6 => ?_)
      · refine z_iconst (pc := 48) hZ 0 dO_ofWhole_48 (by decide) ?_
        exact z_reti (pc := 49) hZ dO_ofWhole_49 .int rfl rfl ⟨_, rfl, rfl, rfl, (by intro A h; first | exact ow_1 h ev1_1 c4_2 (nokey_ _ h) nokey_ (nokey_ _ h) nokey_ | exact ow_2 (ow_f (c := 0) h ev1_1 p21_3 (Or.inl c4_2)) c28_4 nokey_ | exact ow_3 h (ow_f (c := 0) h ev1_1 p21_3 (Or.inl c4_2)) c28_4 ev38_5 c41_6 | exact ow_4 h (ow_f (c := 0) h ev1_1 p21_3 (Or.inl c4_2)) c28_4 ev38_5 c41_6 | exact ow_2 (ow_f h ev1_1 p21_3 (Or.inr ⟨nokey_ _ h, nokey_⟩)) c28_4 nokey_ | exact ow_3 h (ow_f h ev1_1 p21_3 (Or.inr ⟨nokey_ _ h, nokey_⟩)) c28_4 ev38_5 c41_6 | exact ow_4 h (ow_f h ev1_1 p21_3 (Or.inr ⟨nokey_ _ h, nokey_⟩)) c28_4 ev38_5 c41_6)⟩
      · refine z_iconst (pc := 44) hZ (-1) dO_ofWhole_44 (by decide) ?_
        refine z_goto (pc := 45) hZ 49 dO_ofWhole_45 (by decide) ?_
        exact z_reti (pc := 49) hZ dO_ofWhole_49 .int rfl rfl ⟨_, rfl, rfl, rfl, (by intro A h; first | exact ow_1 h ev1_1 c4_2 (nokey_ _ h) nokey_ (nokey_ _ h) nokey_ | exact ow_2 (ow_f (c := 0) h ev1_1 p21_3 (Or.inl c4_2)) c28_4 nokey_ | exact ow_3 h (ow_f (c := 0) h ev1_1 p21_3 (Or.inl c4_2)) c28_4 ev38_5 c41_6 | exact ow_4 h (ow_f (c := 0) h ev1_1 p21_3 (Or.inl c4_2)) c28_4 ev38_5 c41_6 | exact ow_2 (ow_f h ev1_1 p21_3 (Or.inr ⟨nokey_ _ h, nokey_⟩)) c28_4 nokey_ | exact ow_3 h (ow_f h ev1_1 p21_3 (Or.inr ⟨nokey_ _ h, nokey_⟩)) c28_4 ev38_5 c41_6 | exact ow_4 h (ow_f h ev1_1 p21_3 (Or.inr ⟨nokey_ _ h, nokey_⟩)) c28_4 ev38_5 c41_6)⟩
    · refine z_lload_n (pc := 31) hZ 1 dO_ofWhole_31 rfl rfl ?_
      refine z_lload_n (pc := 32) hZ 0 dO_ofWhole_32 rfl rfl ?_
      refine z_callS (pc := 33) (As := [.long p0, .long r21_3]) (rest := []) hZ (cJL_compare l D tys (X ++ PL LP f) p0 r21_3) zyJL_compare (z_goodS ml_O_39 st_JL_compare in_JL co_JL_compare) rfl rfl (by decide) rfl rfl (Nat.le_of_ble_eq_true rfl) ⟨Nat.zero_le _, Nat.zero_le _⟩ dO_ofWhole_33 (z_ki (fun r33_7 w1 tys1 hp => ?_))
      obtain ⟨rfl, rfl, p33_7⟩ := hp
      exact z_reti (pc := 36) hZ dO_ofWhole_36 .int rfl rfl ⟨_, rfl, rfl, rfl, (by intro A h; first | exact ow_1 h ev1_1 c4_2 (nokey_ _ h) nokey_ (nokey_ _ h) nokey_ | exact ow_2 (ow_f (c := 0) h ev1_1 p21_3 (Or.inl c4_2)) c28_4 p33_7 | exact ow_3 h (ow_f (c := 0) h ev1_1 p21_3 (Or.inl c4_2)) c28_4 nokey_ nokey_ | exact ow_4 h (ow_f (c := 0) h ev1_1 p21_3 (Or.inl c4_2)) c28_4 nokey_ nokey_ | exact ow_2 (ow_f h ev1_1 p21_3 (Or.inr ⟨nokey_ _ h, nokey_⟩)) c28_4 p33_7 | exact ow_3 h (ow_f h ev1_1 p21_3 (Or.inr ⟨nokey_ _ h, nokey_⟩)) c28_4 nokey_ nokey_ | exact ow_4 h (ow_f h ev1_1 p21_3 (Or.inr ⟨nokey_ _ h, nokey_⟩)) c28_4 nokey_ nokey_)⟩
  · refine z_aload_n (pc := 7) hZ 1 dO_ofWhole_7 rfl rfl ?_
    obtain ⟨q8_8, hq8_8⟩ := zp_at (X := X) (f := f) h_a1
    refine z_callVN (pc := 8) (As := []) (rest := []) hZ (cV_countsAsWhole l D tys X LP f a1 h_a1) zyV_countsAsWhole (z_good co_V_countsAsWhole) nl_O_58 (zb in_V) (zb im_V_countsAsWhole) (zb se_V_countsAsWhole) q8_8 hq8_8 rfl rfl rfl (by decide) rfl rfl (Nat.le_of_ble_eq_true rfl) ⟨Nat.zero_le _, Nat.zero_le _⟩ dO_ofWhole_8 (z_ki (fun r8_8 w1 tys1 hp => ?_))
    obtain ⟨rfl, rfl, p8_8⟩ := hp
    refine z_if_ne (pc := 11) hZ 20 dO_ofWhole_11 (by decide) (fun c11_9 => ?_) (fun c11_9 => ?_)
    · refine z_aload_n (pc := 20) hZ 1 dO_ofWhole_20 rfl rfl ?_
      obtain ⟨q21_10, hq21_10⟩ := zp_at (X := X) (f := f) h_a1
      refine z_callVN (pc := 21) (As := []) (rest := []) hZ (cV_floor l D tys X LP f a1 h_a1) zyV_floor (z_good co_V_floor) nl_O_61 (zb in_V) (zb im_V_floor) (zb se_V_floor) q21_10 hq21_10 rfl rfl rfl (by decide) rfl rfl (Nat.le_of_ble_eq_true rfl) ⟨Nat.zero_le _, Nat.zero_le _⟩ dO_ofWhole_21 (z_kl (fun r21_10 w1 tys1 hp => ?_))
      obtain ⟨rfl, rfl, p21_10⟩ := hp
      refine z_lstore_n (pc := 24) hZ [(3, .long r21_10), (0, .long p0), (2, .ref a1)] dO_ofWhole_24 rfl (by decide) rfl ?_
      refine z_lload_n (pc := 25) hZ 1 dO_ofWhole_25 rfl rfl ?_
      refine z_lload_n (pc := 26) hZ 0 dO_ofWhole_26 rfl rfl ?_
      refine z_lif_eq (pc := 27) hZ 37 dO_ofWhole_27 dO_ofWhole_28 (by decide) (fun c28_11 => ?_) (fun c28_11 => ?_)
      · refine z_aload_n (pc := 37) hZ 2 dO_ofWhole_37 rfl rfl ?_
        refine z_pg2N (pc := 38) hZ h_a1 uc_V nf_O_55 dO_ofWhole_38 (fun v38_12 ev38_12 => ?_)
        refine z_if_ge (pc := 41) hZ 48 dO_ofWhole_41 (by decide) (fun c41_13 => ?_) (fun c41_13 => ?_)
        · refine z_iconst (pc := 48) hZ 0 dO_ofWhole_48 (by decide) ?_
          exact z_reti (pc := 49) hZ dO_ofWhole_49 .int rfl rfl ⟨_, rfl, rfl, rfl, (by intro A h; first | exact ow_1 h ev1_1 c4_2 (p8_8 _ h) c11_9 (nokey_ _ h) nokey_ | exact ow_2 (ow_f (c := 0) h ev1_1 p21_10 (Or.inl c4_2)) c28_11 nokey_ | exact ow_3 h (ow_f (c := 0) h ev1_1 p21_10 (Or.inl c4_2)) c28_11 ev38_12 c41_13 | exact ow_4 h (ow_f (c := 0) h ev1_1 p21_10 (Or.inl c4_2)) c28_11 ev38_12 c41_13 | exact ow_2 (ow_f h ev1_1 p21_10 (Or.inr ⟨p8_8 _ h, c11_9⟩)) c28_11 nokey_ | exact ow_3 h (ow_f h ev1_1 p21_10 (Or.inr ⟨p8_8 _ h, c11_9⟩)) c28_11 ev38_12 c41_13 | exact ow_4 h (ow_f h ev1_1 p21_10 (Or.inr ⟨p8_8 _ h, c11_9⟩)) c28_11 ev38_12 c41_13)⟩
        · refine z_iconst (pc := 44) hZ (-1) dO_ofWhole_44 (by decide) ?_
          refine z_goto (pc := 45) hZ 49 dO_ofWhole_45 (by decide) ?_
          exact z_reti (pc := 49) hZ dO_ofWhole_49 .int rfl rfl ⟨_, rfl, rfl, rfl, (by intro A h; first | exact ow_1 h ev1_1 c4_2 (p8_8 _ h) c11_9 (nokey_ _ h) nokey_ | exact ow_2 (ow_f (c := 0) h ev1_1 p21_10 (Or.inl c4_2)) c28_11 nokey_ | exact ow_3 h (ow_f (c := 0) h ev1_1 p21_10 (Or.inl c4_2)) c28_11 ev38_12 c41_13 | exact ow_4 h (ow_f (c := 0) h ev1_1 p21_10 (Or.inl c4_2)) c28_11 ev38_12 c41_13 | exact ow_2 (ow_f h ev1_1 p21_10 (Or.inr ⟨p8_8 _ h, c11_9⟩)) c28_11 nokey_ | exact ow_3 h (ow_f h ev1_1 p21_10 (Or.inr ⟨p8_8 _ h, c11_9⟩)) c28_11 ev38_12 c41_13 | exact ow_4 h (ow_f h ev1_1 p21_10 (Or.inr ⟨p8_8 _ h, c11_9⟩)) c28_11 ev38_12 c41_13)⟩
      · refine z_lload_n (pc := 31) hZ 1 dO_ofWhole_31 rfl rfl ?_
        refine z_lload_n (pc := 32) hZ 0 dO_ofWhole_32 rfl rfl ?_
        refine z_callS (pc := 33) (As := [.long p0, .long r21_10]) (rest := []) hZ (cJL_compare l D tys (X ++ PL LP f) p0 r21_10) zyJL_compare (z_goodS ml_O_39 st_JL_compare in_JL co_JL_compare) rfl rfl (by decide) rfl rfl (Nat.le_of_ble_eq_true rfl) ⟨Nat.zero_le _, Nat.zero_le _⟩ dO_ofWhole_33 (z_ki (fun r33_14 w1 tys1 hp => ?_))
        obtain ⟨rfl, rfl, p33_14⟩ := hp
        exact z_reti (pc := 36) hZ dO_ofWhole_36 .int rfl rfl ⟨_, rfl, rfl, rfl, (by intro A h; first | exact ow_1 h ev1_1 c4_2 (p8_8 _ h) c11_9 (nokey_ _ h) nokey_ | exact ow_2 (ow_f (c := 0) h ev1_1 p21_10 (Or.inl c4_2)) c28_11 p33_14 | exact ow_3 h (ow_f (c := 0) h ev1_1 p21_10 (Or.inl c4_2)) c28_11 nokey_ nokey_ | exact ow_4 h (ow_f (c := 0) h ev1_1 p21_10 (Or.inl c4_2)) c28_11 nokey_ nokey_ | exact ow_2 (ow_f h ev1_1 p21_10 (Or.inr ⟨p8_8 _ h, c11_9⟩)) c28_11 p33_14 | exact ow_3 h (ow_f h ev1_1 p21_10 (Or.inr ⟨p8_8 _ h, c11_9⟩)) c28_11 nokey_ nokey_ | exact ow_4 h (ow_f h ev1_1 p21_10 (Or.inr ⟨p8_8 _ h, c11_9⟩)) c28_11 nokey_ nokey_)⟩
    · refine z_aload_n (pc := 14) hZ 1 dO_ofWhole_14 rfl rfl ?_
      obtain ⟨q15_15, hq15_15⟩ := zp_at (X := X) (f := f) h_a1
      refine z_callVN (pc := 15) (As := []) (rest := []) hZ (cV_sign l D tys X LP f a1 h_a1) zyV_sign (z_good co_V_sign) nl_O_51 (zb in_V) (zb im_V_sign) (zb se_V_sign) q15_15 hq15_15 rfl rfl rfl (by decide) rfl rfl (Nat.le_of_ble_eq_true rfl) ⟨Nat.zero_le _, Nat.zero_le _⟩ dO_ofWhole_15 (z_ki (fun r15_15 w1 tys1 hp => ?_))
      obtain ⟨rfl, rfl, p15_15⟩ := hp
      refine z_ineg (pc := 18) hZ dO_ofWhole_18 (fun v18_16 ev18_16 => ?_)
      exact z_reti (pc := 19) hZ dO_ofWhole_19 .int rfl rfl ⟨_, rfl, rfl, rfl, (by intro A h; first | exact ow_1 h ev1_1 c4_2 (p8_8 _ h) c11_9 (p15_15 _ h) ev18_16 | exact ow_2 (ow_f (c := 0) h ev1_1 nokey_ (Or.inl c4_2)) nokey_ nokey_ | exact ow_3 h (ow_f (c := 0) h ev1_1 nokey_ (Or.inl c4_2)) nokey_ nokey_ nokey_ | exact ow_4 h (ow_f (c := 0) h ev1_1 nokey_ (Or.inl c4_2)) nokey_ nokey_ nokey_ | exact ow_2 (ow_f h ev1_1 nokey_ (Or.inr ⟨p8_8 _ h, c11_9⟩)) nokey_ nokey_ | exact ow_3 h (ow_f h ev1_1 nokey_ (Or.inr ⟨p8_8 _ h, c11_9⟩)) nokey_ nokey_ nokey_ | exact ow_4 h (ow_f h ev1_1 nokey_ (Or.inr ⟨p8_8 _ h, c11_9⟩)) nokey_ nokey_ nokey_)⟩
set_option maxHeartbeats 4000000 in
set_option maxRecDepth 100000 in
theorem cO_ofReals (l : Launch) (D : va_G) (tys : zT) (X : va_W) (LP : List Nat) (f : Nat → V3) (a0 : Nat) (h_a0 : a0 ∈ LP) (a1 : Nat) (h_a1 : a1 ∈ LP) : zM l D vwCl zNF zNM yO_ofReals wsO_ofReals { frames := 3, cells := 0, slots := 0, locals := 68 } [.ref a0, .ref a1] (X ++ PL LP f) tys (qI (fun r w' tys' => X ++ PL LP f = w' ∧ tys = tys' ∧ (∀ A B, CA (f a0) (.inr (.inl A)) → CA (f a1) (.inr (.inl B)) → SG (A - B) r))) := by
  refine z_met (cc := bO_ofReals) (maxL := 2) (ret := (some .int)) (isI := false) (own := RO) (by decide +kernel) rfl rfl (fun h => by cases h) (Nat.le_of_ble_eq_true rfl) (fun Z hZ => ?_)
  show Z 0 0 tys 0 [(0, .ref a0), (1, .ref a1)] [] (X ++ PL LP f)
  refine z_aload_n (pc := 0) hZ 0 dO_ofReals_0 rfl rfl ?_
  obtain ⟨q1_1, hq1_1⟩ := zp_at (X := X) (f := f) h_a0
  refine z_callVN (pc := 1) (As := []) (rest := []) hZ (cV_sign l D tys X LP f a0 h_a0) zyV_sign (z_good co_V_sign) nl_O_51 (zb in_V) (zb im_V_sign) (zb se_V_sign) q1_1 hq1_1 rfl rfl rfl (by decide) rfl rfl (Nat.le_of_ble_eq_true rfl) ⟨Nat.zero_le _, Nat.zero_le _⟩ dO_ofReals_1 (z_ki (fun r1_1 w1 tys1 hp => ?_))
  obtain ⟨rfl, rfl, p1_1⟩ := hp
  refine z_aload_n (pc := 4) hZ 1 dO_ofReals_4 rfl rfl ?_
  obtain ⟨q5_2, hq5_2⟩ := zp_at (X := X) (f := f) h_a1
  refine z_callVN (pc := 5) (As := []) (rest := [.int r1_1]) hZ (cV_sign l D tys X LP f a1 h_a1) zyV_sign (z_good co_V_sign) nl_O_51 (zb in_V) (zb im_V_sign) (zb se_V_sign) q5_2 hq5_2 rfl rfl rfl (by decide) rfl rfl (Nat.le_of_ble_eq_true rfl) ⟨Nat.zero_le _, Nat.zero_le _⟩ dO_ofReals_5 (z_ki (fun r5_2 w1 tys1 hp => ?_))
  obtain ⟨rfl, rfl, p5_2⟩ := hp
  refine z_icmp_eq (pc := 8) hZ 23 dO_ofReals_8 (by decide) (fun c8_3 => ?_) (fun c8_3 => ?_)
  · refine z_aload_n (pc := 23) hZ 0 dO_ofReals_23 rfl rfl ?_
    obtain ⟨q24_4, hq24_4⟩ := zp_at (X := X) (f := f) h_a0
    refine z_callVN (pc := 24) (As := []) (rest := []) hZ (cV_sign l D tys X LP f a0 h_a0) zyV_sign (z_good co_V_sign) nl_O_51 (zb in_V) (zb im_V_sign) (zb se_V_sign) q24_4 hq24_4 rfl rfl rfl (by decide) rfl rfl (Nat.le_of_ble_eq_true rfl) ⟨Nat.zero_le _, Nat.zero_le _⟩ dO_ofReals_24 (z_ki (fun r24_4 w1 tys1 hp => ?_))
    obtain ⟨rfl, rfl, p24_4⟩ := hp
    refine z_if_ne (pc := 27) hZ 34 dO_ofReals_27 (by decide) (fun c27_5 => ?_) (fun c27_5 => ?_)
    · refine z_aload_n (pc := 34) hZ 0 dO_ofReals_34 rfl rfl ?_
      obtain ⟨q35_6, hq35_6⟩ := zp_at (X := X) (f := f) h_a0
      refine z_callVN (pc := 35) (As := []) (rest := []) hZ (cV_sign l D tys X LP f a0 h_a0) zyV_sign (z_good co_V_sign) nl_O_51 (zb in_V) (zb im_V_sign) (zb se_V_sign) q35_6 hq35_6 rfl rfl rfl (by decide) rfl rfl (Nat.le_of_ble_eq_true rfl) ⟨Nat.zero_le _, Nat.zero_le _⟩ dO_ofReals_35 (z_ki (fun r35_6 w1 tys1 hp => ?_))
      obtain ⟨rfl, rfl, p35_6⟩ := hp
      refine z_aload_n (pc := 38) hZ 0 dO_ofReals_38 rfl rfl ?_
      refine z_aload_n (pc := 39) hZ 1 dO_ofReals_39 rfl rfl ?_
      refine z_callS (pc := 40) (As := [.ref a0, .ref a1]) (rest := [.int r35_6]) hZ (cO_ofSizes l D tys X LP f a0 h_a0 a1 h_a1) zyO_ofSizes (z_goodS ml_O_65 st_O_ofSizes in_O co_O_ofSizes) rfl rfl (by decide) rfl rfl (Nat.le_of_ble_eq_true rfl) ⟨Nat.zero_le _, Nat.zero_le _⟩ dO_ofReals_40 (z_ki (fun r40_7 w1 tys1 hp => ?_))
      obtain ⟨rfl, rfl, p40_7⟩ := hp
      refine z_imul (pc := 43) hZ dO_ofReals_43 (fun v43_8 ev43_8 => ?_)
      exact z_reti (pc := 44) hZ dO_ofReals_44 .int rfl rfl ⟨_, rfl, rfl, rfl, (by intro A B ha hb; first | exact or_1 (p1_1 _ ha) (p5_2 _ hb) c8_3 (nokey_ _ ha) (nokey_ _ hb) nokey_ | exact or_2 (p1_1 _ ha) (p5_2 _ hb) c8_3 (p24_4 _ ha) c27_5 | exact or_3 (p1_1 _ ha) (p5_2 _ hb) c8_3 (p24_4 _ ha) c27_5 (p35_6 _ ha) (p40_7 A B ha hb) ev43_8)⟩
    · refine z_iconst (pc := 30) hZ 0 dO_ofReals_30 (by decide) ?_
      refine z_goto (pc := 31) hZ 44 dO_ofReals_31 (by decide) ?_
      exact z_reti (pc := 44) hZ dO_ofReals_44 .int rfl rfl ⟨_, rfl, rfl, rfl, (by intro A B ha hb; first | exact or_1 (p1_1 _ ha) (p5_2 _ hb) c8_3 (nokey_ _ ha) (nokey_ _ hb) nokey_ | exact or_2 (p1_1 _ ha) (p5_2 _ hb) c8_3 (p24_4 _ ha) c27_5 | exact or_3 (p1_1 _ ha) (p5_2 _ hb) c8_3 (p24_4 _ ha) c27_5 (nokey_ _ ha) (nokey_ A B ha hb) nokey_)⟩
  · refine z_aload_n (pc := 11) hZ 0 dO_ofReals_11 rfl rfl ?_
    obtain ⟨q12_9, hq12_9⟩ := zp_at (X := X) (f := f) h_a0
    refine z_callVN (pc := 12) (As := []) (rest := []) hZ (cV_sign l D tys X LP f a0 h_a0) zyV_sign (z_good co_V_sign) nl_O_51 (zb in_V) (zb im_V_sign) (zb se_V_sign) q12_9 hq12_9 rfl rfl rfl (by decide) rfl rfl (Nat.le_of_ble_eq_true rfl) ⟨Nat.zero_le _, Nat.zero_le _⟩ dO_ofReals_12 (z_ki (fun r12_9 w1 tys1 hp => ?_))
    obtain ⟨rfl, rfl, p12_9⟩ := hp
    refine z_aload_n (pc := 15) hZ 1 dO_ofReals_15 rfl rfl ?_
    obtain ⟨q16_10, hq16_10⟩ := zp_at (X := X) (f := f) h_a1
    refine z_callVN (pc := 16) (As := []) (rest := [.int r12_9]) hZ (cV_sign l D tys X LP f a1 h_a1) zyV_sign (z_good co_V_sign) nl_O_51 (zb in_V) (zb im_V_sign) (zb se_V_sign) q16_10 hq16_10 rfl rfl rfl (by decide) rfl rfl (Nat.le_of_ble_eq_true rfl) ⟨Nat.zero_le _, Nat.zero_le _⟩ dO_ofReals_16 (z_ki (fun r16_10 w1 tys1 hp => ?_))
    obtain ⟨rfl, rfl, p16_10⟩ := hp
    refine z_callS (pc := 19) (As := [.int r12_9, .int r16_10]) (rest := []) hZ (cJI_compare l D tys (X ++ PL LP f) r12_9 r16_10) zyJI_compare (z_goodS ml_O_29 st_JI_compare in_JI co_JI_compare) rfl rfl (by decide) rfl rfl (Nat.le_of_ble_eq_true rfl) ⟨Nat.zero_le _, Nat.zero_le _⟩ dO_ofReals_19 (z_ki (fun r19_11 w1 tys1 hp => ?_))
    obtain ⟨rfl, rfl, p19_11⟩ := hp
    exact z_reti (pc := 22) hZ dO_ofReals_22 .int rfl rfl ⟨_, rfl, rfl, rfl, (by intro A B ha hb; first | exact or_1 (p1_1 _ ha) (p5_2 _ hb) c8_3 (p12_9 _ ha) (p16_10 _ hb) p19_11 | exact or_2 (p1_1 _ ha) (p5_2 _ hb) c8_3 (nokey_ _ ha) nokey_ | exact or_3 (p1_1 _ ha) (p5_2 _ hb) c8_3 (nokey_ _ ha) nokey_ (nokey_ _ ha) (nokey_ A B ha hb) nokey_)⟩
set_option maxHeartbeats 4000000 in
set_option maxRecDepth 100000 in
theorem cO_of (l : Launch) (D : va_G) (tys : zT) (X : va_W) (LP : List Nat) (f : Nat → V3) (a0 : Nat) (h_a0 : a0 ∈ LP) (a1 : Nat) (h_a1 : a1 ∈ LP) : zM l D vwCl zNF zNM yO_of wsO_of { frames := 4, cells := 0, slots := 0, locals := 89 } [.ref a0, .ref a1] (X ++ PL LP f) tys (qI (fun r w' tys' => X ++ PL LP f = w' ∧ tys = tys' ∧ (∀ a b, CA (f a0) a → CA (f a1) b → a ≠ (.inr (.inr .gt)) → b ≠ (.inr (.inr .gt)) → SG (ordv a b) r))) := by
  refine z_met (cc := bO_of) (maxL := 2) (ret := (some .int)) (isI := false) (own := RO) (by decide +kernel) rfl rfl (fun h => by cases h) (Nat.le_of_ble_eq_true rfl) (fun Z hZ => ?_)
  show Z 0 0 tys 0 [(0, .ref a0), (1, .ref a1)] [] (X ++ PL LP f)
  refine z_aload_n (pc := 0) hZ 0 dO_of_0 rfl rfl ?_
  obtain ⟨q1_1, hq1_1⟩ := zp_at (X := X) (f := f) h_a0
  refine z_callVN (pc := 1) (As := []) (rest := []) hZ (cV_isInfinite l D tys X LP f a0 h_a0) zyV_isInfinite (z_good co_V_isInfinite) nl_O_21 (zb in_V) (zb im_V_isInfinite) (zb se_V_isInfinite) q1_1 hq1_1 rfl rfl rfl (by decide) rfl rfl (Nat.le_of_ble_eq_true rfl) ⟨Nat.zero_le _, Nat.zero_le _⟩ dO_of_1 (z_ki (fun r1_1 w1 tys1 hp => ?_))
  obtain ⟨rfl, rfl, p1_1⟩ := hp
  refine z_if_ne (pc := 4) hZ 14 dO_of_4 (by decide) (fun c4_2 => ?_) (fun c4_2 => ?_)
  · refine z_aload_n (pc := 14) hZ 0 dO_of_14 rfl rfl ?_
    refine z_callS (pc := 15) (As := [.ref a0]) (rest := []) hZ (cO_infinityOf l D tys X LP f a0 h_a0) zyO_infinityOf (z_goodS ml_O_25 st_O_infinityOf in_O co_O_infinityOf) rfl rfl (by decide) rfl rfl (Nat.le_of_ble_eq_true rfl) ⟨Nat.zero_le _, Nat.zero_le _⟩ dO_of_15 (z_ki (fun r15_3 w1 tys1 hp => ?_))
    obtain ⟨rfl, rfl, p15_3⟩ := hp
    refine z_aload_n (pc := 18) hZ 1 dO_of_18 rfl rfl ?_
    refine z_callS (pc := 19) (As := [.ref a1]) (rest := [.int r15_3]) hZ (cO_infinityOf l D tys X LP f a1 h_a1) zyO_infinityOf (z_goodS ml_O_25 st_O_infinityOf in_O co_O_infinityOf) rfl rfl (by decide) rfl rfl (Nat.le_of_ble_eq_true rfl) ⟨Nat.zero_le _, Nat.zero_le _⟩ dO_of_19 (z_ki (fun r19_4 w1 tys1 hp => ?_))
    obtain ⟨rfl, rfl, p19_4⟩ := hp
    refine z_callS (pc := 22) (As := [.int r15_3, .int r19_4]) (rest := []) hZ (cJI_compare l D tys (X ++ PL LP f) r15_3 r19_4) zyJI_compare (z_goodS ml_O_29 st_JI_compare in_JI co_JI_compare) rfl rfl (by decide) rfl rfl (Nat.le_of_ble_eq_true rfl) ⟨Nat.zero_le _, Nat.zero_le _⟩ dO_of_22 (z_ki (fun r22_5 w1 tys1 hp => ?_))
    obtain ⟨rfl, rfl, p22_5⟩ := hp
    exact z_reti (pc := 25) hZ dO_of_25 .int rfl rfl ⟨_, rfl, rfl, rfl, (by intro a b ha hb xa xb; first | exact of_i (p15_3 _ ha) (p19_4 _ hb) (Or.inl (ik_y ha p1_1 c4_2)) p22_5 | exact of_i (p15_3 _ ha) (p19_4 _ hb) (Or.inr (ik_y hb nokey_ nokey_)) p22_5 | exact of_f (ik_n ha p1_1 c4_2) (ik_n hb nokey_ nokey_) (of_ww ha hb nokey_ nokey_ nokey_ nokey_ nokey_ nokey_ nokey_) | exact of_f (ik_n ha p1_1 c4_2) (ik_n hb nokey_ nokey_) (of_wr ha hb nokey_ nokey_ nokey_ nokey_ nokey_ nokey_ xb nokey_ nokey_) | exact of_f (ik_n ha p1_1 c4_2) (ik_n hb nokey_ nokey_) (of_rw ha hb nokey_ nokey_ nokey_ nokey_ p1_1 c4_2 xa nokey_ nokey_ nokey_) | exact of_f (ik_n ha p1_1 c4_2) (ik_n hb nokey_ nokey_) (of_rr ha hb nokey_ nokey_ nokey_ nokey_ p1_1 c4_2 nokey_ nokey_ ⟨xa, xb⟩ nokey_))⟩
  · refine z_aload_n (pc := 7) hZ 1 dO_of_7 rfl rfl ?_
    obtain ⟨q8_6, hq8_6⟩ := zp_at (X := X) (f := f) h_a1
    refine z_callVN (pc := 8) (As := []) (rest := []) hZ (cV_isInfinite l D tys X LP f a1 h_a1) zyV_isInfinite (z_good co_V_isInfinite) nl_O_21 (zb in_V) (zb im_V_isInfinite) (zb se_V_isInfinite) q8_6 hq8_6 rfl rfl rfl (by decide) rfl rfl (Nat.le_of_ble_eq_true rfl) ⟨Nat.zero_le _, Nat.zero_le _⟩ dO_of_8 (z_ki (fun r8_6 w1 tys1 hp => ?_))
    obtain ⟨rfl, rfl, p8_6⟩ := hp
    refine z_if_eq (pc := 11) hZ 26 dO_of_11 (by decide) (fun c11_7 => ?_) (fun c11_7 => ?_)
    · refine z_aload_n (pc := 26) hZ 0 dO_of_26 rfl rfl ?_
      refine z_pg0N (pc := 27) hZ h_a0 uc_V nf_O_9 dO_of_27 (fun v27_8 ev27_8 => ?_)
      refine z_iconst (pc := 30) hZ 1 dO_of_30 (by decide) ?_
      refine z_icmp_ne (pc := 31) hZ 65 dO_of_31 (by decide) (fun c31_9 => ?_) (fun c31_9 => ?_)
      · refine z_aload_n (pc := 65) hZ 1 dO_of_65 rfl rfl ?_
        refine z_pg0N (pc := 66) hZ h_a1 uc_V nf_O_9 dO_of_66 (fun v66_10 ev66_10 => ?_)
        refine z_iconst (pc := 69) hZ 1 dO_of_69 (by decide) ?_
        refine z_icmp_ne (pc := 70) hZ 85 dO_of_70 (by decide) (fun c70_11 => ?_) (fun c70_11 => ?_)
        · refine z_aload_n (pc := 85) hZ 0 dO_of_85 rfl rfl ?_
          refine z_aload_n (pc := 86) hZ 1 dO_of_86 rfl rfl ?_
          refine z_callS (pc := 87) (As := [.ref a0, .ref a1]) (rest := []) hZ (cO_ofReals l D tys X LP f a0 h_a0 a1 h_a1) zyO_ofReals (z_goodS ml_O_48 st_O_ofReals in_O co_O_ofReals) rfl rfl (by decide) rfl rfl (Nat.le_of_ble_eq_true rfl) ⟨Nat.zero_le _, Nat.zero_le _⟩ dO_of_87 (z_ki (fun r87_12 w1 tys1 hp => ?_))
          obtain ⟨rfl, rfl, p87_12⟩ := hp
          exact z_reti (pc := 90) hZ dO_of_90 .int rfl rfl ⟨_, rfl, rfl, rfl, (by intro a b ha hb xa xb; first | exact of_i (nokey_ _ ha) (nokey_ _ hb) (Or.inl (ik_y ha p1_1 c4_2)) nokey_ | exact of_i (nokey_ _ ha) (nokey_ _ hb) (Or.inr (ik_y hb p8_6 c11_7)) nokey_ | exact of_f (ik_n ha p1_1 c4_2) (ik_n hb p8_6 c11_7) (of_ww ha hb ev27_8 c31_9 nokey_ nokey_ nokey_ nokey_ nokey_) | exact of_f (ik_n ha p1_1 c4_2) (ik_n hb p8_6 c11_7) (of_wr ha hb ev27_8 c31_9 nokey_ nokey_ p8_6 c11_7 xb nokey_ nokey_) | exact of_f (ik_n ha p1_1 c4_2) (ik_n hb p8_6 c11_7) (of_rw ha hb ev27_8 c31_9 ev66_10 c70_11 p1_1 c4_2 xa nokey_ nokey_ nokey_) | exact of_f (ik_n ha p1_1 c4_2) (ik_n hb p8_6 c11_7) (of_rr ha hb ev27_8 c31_9 ev66_10 c70_11 p1_1 c4_2 p8_6 c11_7 ⟨xa, xb⟩ p87_12))⟩
        · refine z_aload_n (pc := 73) hZ 1 dO_of_73 rfl rfl ?_
          refine z_pg1N (pc := 74) hZ h_a1 uc_V nf_O_35 dO_of_74 (fun v74_13 ev74_13 => ?_)
          refine z_aload_n (pc := 77) hZ 0 dO_of_77 rfl rfl ?_
          refine z_callS (pc := 78) (As := [.long v74_13, .ref a0]) (rest := []) hZ (cO_ofWhole l D tys X LP f v74_13 a0 h_a0) zyO_ofWhole (z_goodS ml_O_44 st_O_ofWhole in_O co_O_ofWhole) rfl rfl (by decide) rfl rfl (Nat.le_of_ble_eq_true rfl) ⟨Nat.zero_le _, Nat.zero_le _⟩ dO_of_78 (z_ki (fun r78_14 w1 tys1 hp => ?_))
          obtain ⟨rfl, rfl, p78_14⟩ := hp
          refine z_ineg (pc := 81) hZ dO_of_81 (fun v81_15 ev81_15 => ?_)
          refine z_goto (pc := 82) hZ 90 dO_of_82 (by decide) ?_
          exact z_reti (pc := 90) hZ dO_of_90 .int rfl rfl ⟨_, rfl, rfl, rfl, (by intro a b ha hb xa xb; first | exact of_i (nokey_ _ ha) (nokey_ _ hb) (Or.inl (ik_y ha p1_1 c4_2)) nokey_ | exact of_i (nokey_ _ ha) (nokey_ _ hb) (Or.inr (ik_y hb p8_6 c11_7)) nokey_ | exact of_f (ik_n ha p1_1 c4_2) (ik_n hb p8_6 c11_7) (of_ww ha hb ev27_8 c31_9 nokey_ nokey_ nokey_ nokey_ nokey_) | exact of_f (ik_n ha p1_1 c4_2) (ik_n hb p8_6 c11_7) (of_wr ha hb ev27_8 c31_9 nokey_ nokey_ p8_6 c11_7 xb nokey_ nokey_) | exact of_f (ik_n ha p1_1 c4_2) (ik_n hb p8_6 c11_7) (of_rw ha hb ev27_8 c31_9 ev66_10 c70_11 p1_1 c4_2 xa ev74_13 p78_14 ev81_15) | exact of_f (ik_n ha p1_1 c4_2) (ik_n hb p8_6 c11_7) (of_rr ha hb ev27_8 c31_9 ev66_10 c70_11 p1_1 c4_2 p8_6 c11_7 ⟨xa, xb⟩ nokey_))⟩
      · refine z_aload_n (pc := 34) hZ 1 dO_of_34 rfl rfl ?_
        refine z_pg0N (pc := 35) hZ h_a1 uc_V nf_O_9 dO_of_35 (fun v35_16 ev35_16 => ?_)
        refine z_iconst (pc := 38) hZ 1 dO_of_38 (by decide) ?_
        refine z_icmp_ne (pc := 39) hZ 56 dO_of_39 (by decide) (fun c39_17 => ?_) (fun c39_17 => ?_)
        · refine z_aload_n (pc := 56) hZ 0 dO_of_56 rfl rfl ?_
          refine z_pg1N (pc := 57) hZ h_a0 uc_V nf_O_35 dO_of_57 (fun v57_18 ev57_18 => ?_)
          refine z_aload_n (pc := 60) hZ 1 dO_of_60 rfl rfl ?_
          refine z_callS (pc := 61) (As := [.long v57_18, .ref a1]) (rest := []) hZ (cO_ofWhole l D tys X LP f v57_18 a1 h_a1) zyO_ofWhole (z_goodS ml_O_44 st_O_ofWhole in_O co_O_ofWhole) rfl rfl (by decide) rfl rfl (Nat.le_of_ble_eq_true rfl) ⟨Nat.zero_le _, Nat.zero_le _⟩ dO_of_61 (z_ki (fun r61_19 w1 tys1 hp => ?_))
          obtain ⟨rfl, rfl, p61_19⟩ := hp
          exact z_reti (pc := 64) hZ dO_of_64 .int rfl rfl ⟨_, rfl, rfl, rfl, (by intro a b ha hb xa xb; first | exact of_i (nokey_ _ ha) (nokey_ _ hb) (Or.inl (ik_y ha p1_1 c4_2)) nokey_ | exact of_i (nokey_ _ ha) (nokey_ _ hb) (Or.inr (ik_y hb p8_6 c11_7)) nokey_ | exact of_f (ik_n ha p1_1 c4_2) (ik_n hb p8_6 c11_7) (of_ww ha hb ev27_8 c31_9 ev35_16 c39_17 nokey_ nokey_ nokey_) | exact of_f (ik_n ha p1_1 c4_2) (ik_n hb p8_6 c11_7) (of_wr ha hb ev27_8 c31_9 ev35_16 c39_17 p8_6 c11_7 xb ev57_18 p61_19) | exact of_f (ik_n ha p1_1 c4_2) (ik_n hb p8_6 c11_7) (of_rw ha hb ev27_8 c31_9 nokey_ nokey_ p1_1 c4_2 xa nokey_ nokey_ nokey_) | exact of_f (ik_n ha p1_1 c4_2) (ik_n hb p8_6 c11_7) (of_rr ha hb ev27_8 c31_9 nokey_ nokey_ p1_1 c4_2 p8_6 c11_7 ⟨xa, xb⟩ nokey_))⟩
        · refine z_aload_n (pc := 42) hZ 0 dO_of_42 rfl rfl ?_
          refine z_pg1N (pc := 43) hZ h_a0 uc_V nf_O_35 dO_of_43 (fun v43_20 ev43_20 => ?_)
          refine z_aload_n (pc := 46) hZ 1 dO_of_46 rfl rfl ?_
          refine z_pg1N (pc := 47) hZ h_a1 uc_V nf_O_35 dO_of_47 (fun v47_21 ev47_21 => ?_)
          refine z_callS (pc := 50) (As := [.long v43_20, .long v47_21]) (rest := []) hZ (cJL_compare l D tys (X ++ PL LP f) v43_20 v47_21) zyJL_compare (z_goodS ml_O_39 st_JL_compare in_JL co_JL_compare) rfl rfl (by decide) rfl rfl (Nat.le_of_ble_eq_true rfl) ⟨Nat.zero_le _, Nat.zero_le _⟩ dO_of_50 (z_ki (fun r50_22 w1 tys1 hp => ?_))
          obtain ⟨rfl, rfl, p50_22⟩ := hp
          refine z_goto (pc := 53) hZ 64 dO_of_53 (by decide) ?_
          exact z_reti (pc := 64) hZ dO_of_64 .int rfl rfl ⟨_, rfl, rfl, rfl, (by intro a b ha hb xa xb; first | exact of_i (nokey_ _ ha) (nokey_ _ hb) (Or.inl (ik_y ha p1_1 c4_2)) nokey_ | exact of_i (nokey_ _ ha) (nokey_ _ hb) (Or.inr (ik_y hb p8_6 c11_7)) nokey_ | exact of_f (ik_n ha p1_1 c4_2) (ik_n hb p8_6 c11_7) (of_ww ha hb ev27_8 c31_9 ev35_16 c39_17 ev43_20 ev47_21 p50_22) | exact of_f (ik_n ha p1_1 c4_2) (ik_n hb p8_6 c11_7) (of_wr ha hb ev27_8 c31_9 ev35_16 c39_17 p8_6 c11_7 xb nokey_ nokey_) | exact of_f (ik_n ha p1_1 c4_2) (ik_n hb p8_6 c11_7) (of_rw ha hb ev27_8 c31_9 nokey_ nokey_ p1_1 c4_2 xa nokey_ nokey_ nokey_) | exact of_f (ik_n ha p1_1 c4_2) (ik_n hb p8_6 c11_7) (of_rr ha hb ev27_8 c31_9 nokey_ nokey_ p1_1 c4_2 p8_6 c11_7 ⟨xa, xb⟩ nokey_))⟩
    · refine z_aload_n (pc := 14) hZ 0 dO_of_14 rfl rfl ?_
      refine z_callS (pc := 15) (As := [.ref a0]) (rest := []) hZ (cO_infinityOf l D tys X LP f a0 h_a0) zyO_infinityOf (z_goodS ml_O_25 st_O_infinityOf in_O co_O_infinityOf) rfl rfl (by decide) rfl rfl (Nat.le_of_ble_eq_true rfl) ⟨Nat.zero_le _, Nat.zero_le _⟩ dO_of_15 (z_ki (fun r15_23 w1 tys1 hp => ?_))
      obtain ⟨rfl, rfl, p15_23⟩ := hp
      refine z_aload_n (pc := 18) hZ 1 dO_of_18 rfl rfl ?_
      refine z_callS (pc := 19) (As := [.ref a1]) (rest := [.int r15_23]) hZ (cO_infinityOf l D tys X LP f a1 h_a1) zyO_infinityOf (z_goodS ml_O_25 st_O_infinityOf in_O co_O_infinityOf) rfl rfl (by decide) rfl rfl (Nat.le_of_ble_eq_true rfl) ⟨Nat.zero_le _, Nat.zero_le _⟩ dO_of_19 (z_ki (fun r19_24 w1 tys1 hp => ?_))
      obtain ⟨rfl, rfl, p19_24⟩ := hp
      refine z_callS (pc := 22) (As := [.int r15_23, .int r19_24]) (rest := []) hZ (cJI_compare l D tys (X ++ PL LP f) r15_23 r19_24) zyJI_compare (z_goodS ml_O_29 st_JI_compare in_JI co_JI_compare) rfl rfl (by decide) rfl rfl (Nat.le_of_ble_eq_true rfl) ⟨Nat.zero_le _, Nat.zero_le _⟩ dO_of_22 (z_ki (fun r22_25 w1 tys1 hp => ?_))
      obtain ⟨rfl, rfl, p22_25⟩ := hp
      exact z_reti (pc := 25) hZ dO_of_25 .int rfl rfl ⟨_, rfl, rfl, rfl, (by intro a b ha hb xa xb; first | exact of_i (p15_23 _ ha) (p19_24 _ hb) (Or.inl (ik_y ha p1_1 c4_2)) p22_25 | exact of_i (p15_23 _ ha) (p19_24 _ hb) (Or.inr (ik_y hb p8_6 c11_7)) p22_25 | exact of_f (ik_n ha p1_1 c4_2) (ik_n hb p8_6 c11_7) (of_ww ha hb nokey_ nokey_ nokey_ nokey_ nokey_ nokey_ nokey_) | exact of_f (ik_n ha p1_1 c4_2) (ik_n hb p8_6 c11_7) (of_wr ha hb nokey_ nokey_ nokey_ nokey_ p8_6 c11_7 xb nokey_ nokey_) | exact of_f (ik_n ha p1_1 c4_2) (ik_n hb p8_6 c11_7) (of_rw ha hb nokey_ nokey_ nokey_ nokey_ p1_1 c4_2 xa nokey_ nokey_ nokey_) | exact of_f (ik_n ha p1_1 c4_2) (ik_n hb p8_6 c11_7) (of_rr ha hb nokey_ nokey_ nokey_ nokey_ p1_1 c4_2 p8_6 c11_7 ⟨xa, xb⟩ nokey_))⟩
set_option maxHeartbeats 4000000 in
set_option maxRecDepth 100000 in
theorem cO_goesBefore (l : Launch) (D : va_G) (tys : zT) (X : va_W) (LP : List Nat) (f : Nat → V3) (a0 : Nat) (h_a0 : a0 ∈ LP) (a1 : Nat) (h_a1 : a1 ∈ LP) : zM l D vwCl zNF zNM yO_goesBefore wsO_goesBefore { frames := 5, cells := 0, slots := 0, locals := 110 } [.ref a0, .ref a1] (X ++ PL LP f) tys (qI (fun r w' tys' => X ++ PL LP f = w' ∧ tys = tys' ∧ (∀ a b, CA (f a0) a → CA (f a1) b → (r = 1 ∧ BEF a b ∨ r = 0 ∧ ¬ BEF a b)))) := by
  refine z_met (cc := bO_goesBefore) (maxL := 2) (ret := (some .boolean)) (isI := false) (own := RO) (by decide +kernel) rfl rfl (fun h => by cases h) (Nat.le_of_ble_eq_true rfl) (fun Z hZ => ?_)
  show Z 0 0 tys 0 [(0, .ref a0), (1, .ref a1)] [] (X ++ PL LP f)
  refine z_aload_n (pc := 0) hZ 0 dO_goesBefore_0 rfl rfl ?_
  refine z_pg0N (pc := 1) hZ h_a0 uc_V nf_O_9 dO_goesBefore_1 (fun v1_1 ev1_1 => ?_)
  refine z_iconst (pc := 4) hZ 5 dO_goesBefore_4 (by decide) ?_
  refine z_icmp_eq (pc := 5) hZ 16 dO_goesBefore_5 (by decide) (fun c5_2 => ?_) (fun c5_2 => ?_)
  · refine z_aload_n (pc := 16) hZ 0 dO_goesBefore_16 rfl rfl ?_
    refine z_pg0N (pc := 17) hZ h_a0 uc_V nf_O_9 dO_goesBefore_17 (fun v17_3 ev17_3 => ?_)
    refine z_iconst (pc := 20) hZ 5 dO_goesBefore_20 (by decide) ?_
    refine z_icmp_eq (pc := 21) hZ 36 dO_goesBefore_21 (by decide) (fun c21_4 => ?_) (fun c21_4 => ?_)
    · refine z_iconst (pc := 36) hZ 0 dO_goesBefore_36 (by decide) ?_
      exact z_reti (pc := 37) hZ dO_goesBefore_37 .boolean rfl rfl ⟨_, rfl, rfl, rfl, (by intro a b ha hb; first | exact gb_2 ha ev1_1 c5_2 | exact gb_1 ha hb ev1_1 c5_2 nokey_ nokey_ | exact gb_3 (v := f a0) (w := f a1) (a := a) (b := b) (k3 := 0) ev1_1 c5_2 ev17_3 c21_4 | exact gb_3 (v := f a0) (w := f a1) (a := a) (b := b) (k3 := 0) ev17_3 c21_4 ev1_1 c5_2 | exact gb_3 (v := f a1) (w := f a1) (a := a) (b := b) (k3 := 0) nokey_ nokey_ nokey_ nokey_ | exact gb_3 (v := f a1) (w := f a1) (a := a) (b := b) (k3 := 0) nokey_ nokey_ nokey_ nokey_ | exact gb_4 0 ha hb ev1_1 c5_2 nokey_ nokey_ (nokey_ _ _ ha hb) (Or.inl ⟨nokey_, rfl⟩) | exact gb_4 1 ha hb ev1_1 c5_2 nokey_ nokey_ (nokey_ _ _ ha hb) (Or.inr ⟨nokey_, rfl⟩))⟩
    · refine z_aload_n (pc := 24) hZ 1 dO_goesBefore_24 rfl rfl ?_
      refine z_pg0N (pc := 25) hZ h_a1 uc_V nf_O_9 dO_goesBefore_25 (fun v25_5 ev25_5 => ?_)
      refine z_iconst (pc := 28) hZ 5 dO_goesBefore_28 (by decide) ?_
      refine z_icmp_ne (pc := 29) hZ 36 dO_goesBefore_29 (by decide) (fun c29_6 => ?_) (fun c29_6 => ?_)
      · refine z_iconst (pc := 36) hZ 0 dO_goesBefore_36 (by decide) ?_
        exact z_reti (pc := 37) hZ dO_goesBefore_37 .boolean rfl rfl ⟨_, rfl, rfl, rfl, (by intro a b ha hb; first | exact gb_2 ha ev1_1 c5_2 | exact gb_1 ha hb ev1_1 c5_2 ev25_5 c29_6 | exact gb_3 (v := f a0) (w := f a1) (a := a) (b := b) (k3 := 0) ev1_1 c5_2 ev17_3 c21_4 | exact gb_3 (v := f a0) (w := f a1) (a := a) (b := b) (k3 := 0) ev17_3 c21_4 ev1_1 c5_2 | exact gb_3 (v := f a1) (w := f a1) (a := a) (b := b) (k3 := 0) ev25_5 c29_6 nokey_ nokey_ | exact gb_3 (v := f a1) (w := f a1) (a := a) (b := b) (k3 := 0) nokey_ nokey_ ev25_5 c29_6 | exact gb_4 0 ha hb ev1_1 c5_2 nokey_ nokey_ (nokey_ _ _ ha hb) (Or.inl ⟨nokey_, rfl⟩) | exact gb_4 1 ha hb ev1_1 c5_2 nokey_ nokey_ (nokey_ _ _ ha hb) (Or.inr ⟨nokey_, rfl⟩))⟩
      · refine z_iconst (pc := 32) hZ 1 dO_goesBefore_32 (by decide) ?_
        refine z_goto (pc := 33) hZ 37 dO_goesBefore_33 (by decide) ?_
        exact z_reti (pc := 37) hZ dO_goesBefore_37 .boolean rfl rfl ⟨_, rfl, rfl, rfl, (by intro a b ha hb; first | exact gb_2 ha ev1_1 c5_2 | exact gb_1 ha hb ev1_1 c5_2 ev25_5 c29_6 | exact gb_3 (v := f a0) (w := f a1) (a := a) (b := b) (k3 := 0) ev1_1 c5_2 ev17_3 c21_4 | exact gb_3 (v := f a0) (w := f a1) (a := a) (b := b) (k3 := 0) ev17_3 c21_4 ev1_1 c5_2 | exact gb_3 (v := f a1) (w := f a1) (a := a) (b := b) (k3 := 0) ev25_5 c29_6 nokey_ nokey_ | exact gb_3 (v := f a1) (w := f a1) (a := a) (b := b) (k3 := 0) nokey_ nokey_ ev25_5 c29_6 | exact gb_4 0 ha hb ev1_1 c5_2 nokey_ nokey_ (nokey_ _ _ ha hb) (Or.inl ⟨nokey_, rfl⟩) | exact gb_4 1 ha hb ev1_1 c5_2 nokey_ nokey_ (nokey_ _ _ ha hb) (Or.inr ⟨nokey_, rfl⟩))⟩
  · refine z_aload_n (pc := 8) hZ 1 dO_goesBefore_8 rfl rfl ?_
    refine z_pg0N (pc := 9) hZ h_a1 uc_V nf_O_9 dO_goesBefore_9 (fun v9_7 ev9_7 => ?_)
    refine z_iconst (pc := 12) hZ 5 dO_goesBefore_12 (by decide) ?_
    refine z_icmp_ne (pc := 13) hZ 38 dO_goesBefore_13 (by decide) (fun c13_8 => ?_) (fun c13_8 => ?_)
    · refine z_aload_n (pc := 38) hZ 0 dO_goesBefore_38 rfl rfl ?_
      refine z_aload_n (pc := 39) hZ 1 dO_goesBefore_39 rfl rfl ?_
      refine z_callS (pc := 40) (As := [.ref a0, .ref a1]) (rest := []) hZ (cO_of l D tys X LP f a0 h_a0 a1 h_a1) zyO_of (z_goodS ml_O_15 st_O_of in_O co_O_of) rfl rfl (by decide) rfl rfl (Nat.le_of_ble_eq_true rfl) ⟨Nat.zero_le _, Nat.zero_le _⟩ dO_goesBefore_40 (z_ki (fun r40_9 w1 tys1 hp => ?_))
      obtain ⟨rfl, rfl, p40_9⟩ := hp
      refine z_if_ge (pc := 43) hZ 50 dO_goesBefore_43 (by decide) (fun c43_10 => ?_) (fun c43_10 => ?_)
      · refine z_iconst (pc := 50) hZ 0 dO_goesBefore_50 (by decide) ?_
        exact z_reti (pc := 51) hZ dO_goesBefore_51 .boolean rfl rfl ⟨_, rfl, rfl, rfl, (by intro a b ha hb; first | exact gb_2 ha ev1_1 c5_2 | exact gb_1 ha hb ev1_1 c5_2 nokey_ nokey_ | exact gb_3 (v := f a0) (w := f a1) (a := a) (b := b) (k3 := 0) ev1_1 c5_2 nokey_ nokey_ | exact gb_3 (v := f a0) (w := f a1) (a := a) (b := b) (k3 := 0) nokey_ nokey_ ev1_1 c5_2 | exact gb_3 (v := f a1) (w := f a1) (a := a) (b := b) (k3 := 0) nokey_ nokey_ ev9_7 c13_8 | exact gb_3 (v := f a1) (w := f a1) (a := a) (b := b) (k3 := 0) ev9_7 c13_8 nokey_ nokey_ | exact gb_4 0 ha hb ev1_1 c5_2 ev9_7 c13_8 (p40_9 _ _ ha hb) (Or.inl ⟨c43_10, rfl⟩) | exact gb_4 1 ha hb ev1_1 c5_2 ev9_7 c13_8 (p40_9 _ _ ha hb) (Or.inr ⟨c43_10, rfl⟩))⟩
      · refine z_iconst (pc := 46) hZ 1 dO_goesBefore_46 (by decide) ?_
        refine z_goto (pc := 47) hZ 51 dO_goesBefore_47 (by decide) ?_
        exact z_reti (pc := 51) hZ dO_goesBefore_51 .boolean rfl rfl ⟨_, rfl, rfl, rfl, (by intro a b ha hb; first | exact gb_2 ha ev1_1 c5_2 | exact gb_1 ha hb ev1_1 c5_2 nokey_ nokey_ | exact gb_3 (v := f a0) (w := f a1) (a := a) (b := b) (k3 := 0) ev1_1 c5_2 nokey_ nokey_ | exact gb_3 (v := f a0) (w := f a1) (a := a) (b := b) (k3 := 0) nokey_ nokey_ ev1_1 c5_2 | exact gb_3 (v := f a1) (w := f a1) (a := a) (b := b) (k3 := 0) nokey_ nokey_ ev9_7 c13_8 | exact gb_3 (v := f a1) (w := f a1) (a := a) (b := b) (k3 := 0) ev9_7 c13_8 nokey_ nokey_ | exact gb_4 0 ha hb ev1_1 c5_2 ev9_7 c13_8 (p40_9 _ _ ha hb) (Or.inl ⟨c43_10, rfl⟩) | exact gb_4 1 ha hb ev1_1 c5_2 ev9_7 c13_8 (p40_9 _ _ ha hb) (Or.inr ⟨c43_10, rfl⟩))⟩
    · refine z_aload_n (pc := 16) hZ 0 dO_goesBefore_16 rfl rfl ?_
      refine z_pg0N (pc := 17) hZ h_a0 uc_V nf_O_9 dO_goesBefore_17 (fun v17_11 ev17_11 => ?_)
      refine z_iconst (pc := 20) hZ 5 dO_goesBefore_20 (by decide) ?_
      refine z_icmp_eq (pc := 21) hZ 36 dO_goesBefore_21 (by decide) (fun c21_12 => ?_) (fun c21_12 => ?_)
      · refine z_iconst (pc := 36) hZ 0 dO_goesBefore_36 (by decide) ?_
        exact z_reti (pc := 37) hZ dO_goesBefore_37 .boolean rfl rfl ⟨_, rfl, rfl, rfl, (by intro a b ha hb; first | exact gb_2 ha ev1_1 c5_2 | exact gb_1 ha hb ev1_1 c5_2 nokey_ nokey_ | exact gb_3 (v := f a0) (w := f a1) (a := a) (b := b) (k3 := 0) ev1_1 c5_2 ev17_11 c21_12 | exact gb_3 (v := f a0) (w := f a1) (a := a) (b := b) (k3 := 0) ev17_11 c21_12 ev1_1 c5_2 | exact gb_3 (v := f a1) (w := f a1) (a := a) (b := b) (k3 := 0) nokey_ nokey_ ev9_7 c13_8 | exact gb_3 (v := f a1) (w := f a1) (a := a) (b := b) (k3 := 0) ev9_7 c13_8 nokey_ nokey_ | exact gb_4 0 ha hb ev1_1 c5_2 ev9_7 c13_8 (nokey_ _ _ ha hb) (Or.inl ⟨nokey_, rfl⟩) | exact gb_4 1 ha hb ev1_1 c5_2 ev9_7 c13_8 (nokey_ _ _ ha hb) (Or.inr ⟨nokey_, rfl⟩))⟩
      · refine z_aload_n (pc := 24) hZ 1 dO_goesBefore_24 rfl rfl ?_
        refine z_pg0N (pc := 25) hZ h_a1 uc_V nf_O_9 dO_goesBefore_25 (fun v25_13 ev25_13 => ?_)
        refine z_iconst (pc := 28) hZ 5 dO_goesBefore_28 (by decide) ?_
        refine z_icmp_ne (pc := 29) hZ 36 dO_goesBefore_29 (by decide) (fun c29_14 => ?_) (fun c29_14 => ?_)
        · refine z_iconst (pc := 36) hZ 0 dO_goesBefore_36 (by decide) ?_
          exact z_reti (pc := 37) hZ dO_goesBefore_37 .boolean rfl rfl ⟨_, rfl, rfl, rfl, (by intro a b ha hb; first | exact gb_2 ha ev1_1 c5_2 | exact gb_1 ha hb ev1_1 c5_2 ev25_13 c29_14 | exact gb_3 (v := f a0) (w := f a1) (a := a) (b := b) (k3 := 0) ev1_1 c5_2 ev17_11 c21_12 | exact gb_3 (v := f a0) (w := f a1) (a := a) (b := b) (k3 := 0) ev17_11 c21_12 ev1_1 c5_2 | exact gb_3 (v := f a1) (w := f a1) (a := a) (b := b) (k3 := 0) ev25_13 c29_14 ev9_7 c13_8 | exact gb_3 (v := f a1) (w := f a1) (a := a) (b := b) (k3 := 0) ev9_7 c13_8 ev25_13 c29_14 | exact gb_4 0 ha hb ev1_1 c5_2 ev9_7 c13_8 (nokey_ _ _ ha hb) (Or.inl ⟨nokey_, rfl⟩) | exact gb_4 1 ha hb ev1_1 c5_2 ev9_7 c13_8 (nokey_ _ _ ha hb) (Or.inr ⟨nokey_, rfl⟩))⟩
        · refine z_iconst (pc := 32) hZ 1 dO_goesBefore_32 (by decide) ?_
          refine z_goto (pc := 33) hZ 37 dO_goesBefore_33 (by decide) ?_
          exact z_reti (pc := 37) hZ dO_goesBefore_37 .boolean rfl rfl ⟨_, rfl, rfl, rfl, (by intro a b ha hb; first | exact gb_2 ha ev1_1 c5_2 | exact gb_1 ha hb ev1_1 c5_2 ev25_13 c29_14 | exact gb_3 (v := f a0) (w := f a1) (a := a) (b := b) (k3 := 0) ev1_1 c5_2 ev17_11 c21_12 | exact gb_3 (v := f a0) (w := f a1) (a := a) (b := b) (k3 := 0) ev17_11 c21_12 ev1_1 c5_2 | exact gb_3 (v := f a1) (w := f a1) (a := a) (b := b) (k3 := 0) ev25_13 c29_14 ev9_7 c13_8 | exact gb_3 (v := f a1) (w := f a1) (a := a) (b := b) (k3 := 0) ev9_7 c13_8 ev25_13 c29_14 | exact gb_4 0 ha hb ev1_1 c5_2 ev9_7 c13_8 (nokey_ _ _ ha hb) (Or.inl ⟨nokey_, rfl⟩) | exact gb_4 1 ha hb ev1_1 c5_2 ev9_7 c13_8 (nokey_ _ _ ha hb) (Or.inr ⟨nokey_, rfl⟩))⟩
