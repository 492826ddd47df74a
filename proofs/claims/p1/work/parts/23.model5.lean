set_option maxHeartbeats 4000000 in
set_option maxRecDepth 100000 in
theorem cM_add (l : Launch) (D : va_G) (cR c1 c2 c3 : ClassId) (h0 a1 a2 a3 : Nat) (Y : va_W) (ka : Int32) (na : Int64) (ea : Int32) (kb : Int32) (nb : Int64) (eb : Int32) (k : Int32) (n : Int64) (e : Int32) (bits : Int64) (scale : Int32) (K : Nat → Int32) (N : Nat → Int64) (E : Nat → Int32) (ra : RK ka na ea) (rb : RK kb nb eb) : zM l D vwCl zNF zNM yM_add wsM_add { frames := 3, cells := 0, slots := 0, locals := 95 } [.ref h0] (MW h0 a1 a2 a3 c1 c2 c3 (ka, na, ea, kb, nb, eb, k, n, e, bits, scale, K, N, E) ++ Y) (TY cR c1 c2 c3) (qV (fun w' tys' => ∃ k' : Int32, ∃ n' : Int64, ∃ e' : Int32, MW h0 a1 a2 a3 c1 c2 c3 (ka, na, ea, kb, nb, eb, k', n', e', bits, scale, K, N, E) ++ Y = w' ∧ (TY cR c1 c2 c3) = tys' ∧ (RK k' n' e'))) := by
  refine z_met (cc := bM_add) (maxL := 1) (ret := none) (isI := false) (own := RM) (by decide +kernel) rfl rfl (fun h => by cases h) (Nat.le_of_ble_eq_true rfl) (fun Z hZ => ?_)
  show Z 0 0 (TY cR c1 c2 c3) 0 [(0, .ref h0)] [] (MW h0 a1 a2 a3 c1 c2 c3 (ka, na, ea, kb, nb, eb, k, n, e, bits, scale, K, N, E) ++ Y)
  refine z_aload_n (pc := 0) hZ 0 dM_add_0 rfl rfl ?_
  refine z_get (pc := 1) (ci := 2) hZ 0 rfl rfl uc_M 3 (by decide) (zb fl_M_51) rfl dM_add_1 ?_
  refine z_iconst (pc := 4) hZ 5 dM_add_4 (by decide) ?_
  refine z_icmp_eq (pc := 5) hZ 47 dM_add_5 (by decide) (fun c5_1 => ?_) (fun c5_1 => ?_)
  · refine z_aload_n (pc := 47) hZ 0 dM_add_47 rfl rfl ?_
    refine z_iconst (pc := 48) hZ 5 dM_add_48 (by decide) ?_
    refine z_callV (pc := 49) (As := [.int 5]) (rest := []) hZ (cM_setSpecial l D cR c1 c2 c3 h0 a1 a2 a3 Y ka na ea kb nb eb k n e bits scale K N E 5) zyM_setSpecial (z_goodV ml_M_35 im_M_setSpecial se_M_setSpecial in_M co_M_setSpecial) 0 rfl rfl rfl rfl (by decide) rfl rfl (Nat.le_of_ble_eq_true rfl) ⟨Nat.zero_le _, Nat.zero_le _⟩ dM_add_49 (z_kv (fun w1 tys1 hp => ?_))
    obtain ⟨k49_2, n49_2, e49_2, rfl, rfl, p49_2⟩ := hp
    refine z_goto (pc := 52) hZ 101 dM_add_52 (by decide) ?_
    exact z_retv (pc := 101) hZ dM_add_101 rfl ⟨rfl, _, _, _, rfl, rfl, (by first | exact nokey_ | exact sp_RK (Or.inr (Or.inr rfl)) p49_2 | exact sp_gt nokey_ nokey_ nokey_ | exact sp_gt nokey_ nokey_ nokey_)⟩
  · refine z_aload_n (pc := 8) hZ 0 dM_add_8 rfl rfl ?_
    refine z_get (pc := 9) (ci := 2) hZ 0 rfl rfl uc_M 6 (by decide) (zb fl_M_60) rfl dM_add_9 ?_
    refine z_iconst (pc := 12) hZ 5 dM_add_12 (by decide) ?_
    refine z_icmp_eq (pc := 13) hZ 47 dM_add_13 (by decide) (fun c13_3 => ?_) (fun c13_3 => ?_)
    · refine z_aload_n (pc := 47) hZ 0 dM_add_47 rfl rfl ?_
      refine z_iconst (pc := 48) hZ 5 dM_add_48 (by decide) ?_
      refine z_callV (pc := 49) (As := [.int 5]) (rest := []) hZ (cM_setSpecial l D cR c1 c2 c3 h0 a1 a2 a3 Y ka na ea kb nb eb k n e bits scale K N E 5) zyM_setSpecial (z_goodV ml_M_35 im_M_setSpecial se_M_setSpecial in_M co_M_setSpecial) 0 rfl rfl rfl rfl (by decide) rfl rfl (Nat.le_of_ble_eq_true rfl) ⟨Nat.zero_le _, Nat.zero_le _⟩ dM_add_49 (z_kv (fun w1 tys1 hp => ?_))
      obtain ⟨k49_4, n49_4, e49_4, rfl, rfl, p49_4⟩ := hp
      refine z_goto (pc := 52) hZ 101 dM_add_52 (by decide) ?_
      exact z_retv (pc := 101) hZ dM_add_101 rfl ⟨rfl, _, _, _, rfl, rfl, (by first | exact nokey_ | exact sp_RK (Or.inr (Or.inr rfl)) p49_4 | exact sp_gt nokey_ nokey_ nokey_ | exact sp_gt nokey_ nokey_ nokey_)⟩
    · refine z_aload_n (pc := 16) hZ 0 dM_add_16 rfl rfl ?_
      refine z_get (pc := 17) (ci := 2) hZ 0 rfl rfl uc_M 3 (by decide) (zb fl_M_51) rfl dM_add_17 ?_
      refine z_callS (pc := 20) (As := [.int ka]) (rest := []) hZ (cM_isGreat l D (TY cR c1 c2 c3) (MW h0 a1 a2 a3 c1 c2 c3 (ka, na, ea, kb, nb, eb, k, n, e, bits, scale, K, N, E) ++ Y) ka) zyM_isGreat (z_goodS ml_M_86 st_M_isGreat in_M co_M_isGreat) rfl rfl (by decide) rfl rfl (Nat.le_of_ble_eq_true rfl) ⟨Nat.zero_le _, Nat.zero_le _⟩ dM_add_20 (z_ki (fun r20_5 w1 tys1 hp => ?_))
      obtain ⟨rfl, rfl, p20_5⟩ := hp
      refine z_if_eq (pc := 23) hZ 55 dM_add_23 (by decide) (fun c23_6 => ?_) (fun c23_6 => ?_)
      · refine z_aload_n (pc := 55) hZ 0 dM_add_55 rfl rfl ?_
        refine z_get (pc := 56) (ci := 2) hZ 0 rfl rfl uc_M 3 (by decide) (zb fl_M_51) rfl dM_add_56 ?_
        refine z_callS (pc := 59) (As := [.int ka]) (rest := []) hZ (cM_isGreat l D (TY cR c1 c2 c3) (MW h0 a1 a2 a3 c1 c2 c3 (ka, na, ea, kb, nb, eb, k, n, e, bits, scale, K, N, E) ++ Y) ka) zyM_isGreat (z_goodS ml_M_86 st_M_isGreat in_M co_M_isGreat) rfl rfl (by decide) rfl rfl (Nat.le_of_ble_eq_true rfl) ⟨Nat.zero_le _, Nat.zero_le _⟩ dM_add_59 (z_ki (fun r59_7 w1 tys1 hp => ?_))
        obtain ⟨rfl, rfl, p59_7⟩ := hp
        refine z_if_eq (pc := 62) hZ 76 dM_add_62 (by decide) (fun c62_8 => ?_) (fun c62_8 => ?_)
        · refine z_aload_n (pc := 76) hZ 0 dM_add_76 rfl rfl ?_
          refine z_get (pc := 77) (ci := 2) hZ 0 rfl rfl uc_M 6 (by decide) (zb fl_M_60) rfl dM_add_77 ?_
          refine z_callS (pc := 80) (As := [.int kb]) (rest := []) hZ (cM_isGreat l D (TY cR c1 c2 c3) (MW h0 a1 a2 a3 c1 c2 c3 (ka, na, ea, kb, nb, eb, k, n, e, bits, scale, K, N, E) ++ Y) kb) zyM_isGreat (z_goodS ml_M_86 st_M_isGreat in_M co_M_isGreat) rfl rfl (by decide) rfl rfl (Nat.le_of_ble_eq_true rfl) ⟨Nat.zero_le _, Nat.zero_le _⟩ dM_add_80 (z_ki (fun r80_9 w1 tys1 hp => ?_))
          obtain ⟨rfl, rfl, p80_9⟩ := hp
          refine z_if_eq (pc := 83) hZ 97 dM_add_83 (by decide) (fun c83_10 => ?_) (fun c83_10 => ?_)
          · refine z_aload_n (pc := 97) hZ 0 dM_add_97 rfl rfl ?_
            refine z_callV (pc := 98) (As := []) (rest := []) hZ (cM_addNumbers l D cR c1 c2 c3 h0 a1 a2 a3 Y ka na ea kb nb eb k n e bits scale K N E (by exact RK_n (r := 0) ra c5_1 (gt_n p59_7 c62_8)) (by exact RK_n (r := 0) rb c13_3 (gt_n p80_9 c83_10))) zyM_addNumbers (z_goodV ml_M_90 im_M_addNumbers se_M_addNumbers in_M co_M_addNumbers) 0 rfl rfl rfl rfl (by decide) rfl rfl (Nat.le_of_ble_eq_true rfl) ⟨Nat.zero_le _, Nat.zero_le _⟩ dM_add_98 (z_kv (fun w1 tys1 hp => ?_))
            obtain ⟨k98_11, n98_11, e98_11, rfl, rfl, p98_11⟩ := hp
            exact z_retv (pc := 101) hZ dM_add_101 rfl ⟨rfl, _, _, _, rfl, rfl, (by first | exact p98_11 | exact sp_RK (Or.inr (Or.inr rfl)) nokey_ | exact sp_gt p59_7 c62_8 nokey_ | exact sp_gt p80_9 c83_10 nokey_)⟩
          · refine z_aload_n (pc := 86) hZ 0 dM_add_86 rfl rfl ?_
            refine z_aload_n (pc := 87) hZ 0 dM_add_87 rfl rfl ?_
            refine z_get (pc := 88) (ci := 2) hZ 0 rfl rfl uc_M 6 (by decide) (zb fl_M_60) rfl dM_add_88 ?_
            refine z_callV (pc := 91) (As := [.int kb]) (rest := []) hZ (cM_setSpecial l D cR c1 c2 c3 h0 a1 a2 a3 Y ka na ea kb nb eb k n e bits scale K N E kb) zyM_setSpecial (z_goodV ml_M_35 im_M_setSpecial se_M_setSpecial in_M co_M_setSpecial) 0 rfl rfl rfl rfl (by decide) rfl rfl (Nat.le_of_ble_eq_true rfl) ⟨Nat.zero_le _, Nat.zero_le _⟩ dM_add_91 (z_kv (fun w1 tys1 hp => ?_))
            obtain ⟨k91_12, n91_12, e91_12, rfl, rfl, p91_12⟩ := hp
            refine z_goto (pc := 94) hZ 101 dM_add_94 (by decide) ?_
            exact z_retv (pc := 101) hZ dM_add_101 rfl ⟨rfl, _, _, _, rfl, rfl, (by first | exact nokey_ | exact sp_RK (Or.inr (Or.inr rfl)) nokey_ | exact sp_gt p59_7 c62_8 nokey_ | exact sp_gt p80_9 c83_10 p91_12)⟩
        · refine z_aload_n (pc := 65) hZ 0 dM_add_65 rfl rfl ?_
          refine z_aload_n (pc := 66) hZ 0 dM_add_66 rfl rfl ?_
          refine z_get (pc := 67) (ci := 2) hZ 0 rfl rfl uc_M 3 (by decide) (zb fl_M_51) rfl dM_add_67 ?_
          refine z_callV (pc := 70) (As := [.int ka]) (rest := []) hZ (cM_setSpecial l D cR c1 c2 c3 h0 a1 a2 a3 Y ka na ea kb nb eb k n e bits scale K N E ka) zyM_setSpecial (z_goodV ml_M_35 im_M_setSpecial se_M_setSpecial in_M co_M_setSpecial) 0 rfl rfl rfl rfl (by decide) rfl rfl (Nat.le_of_ble_eq_true rfl) ⟨Nat.zero_le _, Nat.zero_le _⟩ dM_add_70 (z_kv (fun w1 tys1 hp => ?_))
          obtain ⟨k70_13, n70_13, e70_13, rfl, rfl, p70_13⟩ := hp
          refine z_goto (pc := 73) hZ 101 dM_add_73 (by decide) ?_
          exact z_retv (pc := 101) hZ dM_add_101 rfl ⟨rfl, _, _, _, rfl, rfl, (by first | exact nokey_ | exact sp_RK (Or.inr (Or.inr rfl)) nokey_ | exact sp_gt p59_7 c62_8 p70_13 | exact sp_gt nokey_ nokey_ nokey_)⟩
      · refine z_aload_n (pc := 26) hZ 0 dM_add_26 rfl rfl ?_
        refine z_get (pc := 27) (ci := 2) hZ 0 rfl rfl uc_M 6 (by decide) (zb fl_M_60) rfl dM_add_27 ?_
        refine z_callS (pc := 30) (As := [.int kb]) (rest := []) hZ (cM_isGreat l D (TY cR c1 c2 c3) (MW h0 a1 a2 a3 c1 c2 c3 (ka, na, ea, kb, nb, eb, k, n, e, bits, scale, K, N, E) ++ Y) kb) zyM_isGreat (z_goodS ml_M_86 st_M_isGreat in_M co_M_isGreat) rfl rfl (by decide) rfl rfl (Nat.le_of_ble_eq_true rfl) ⟨Nat.zero_le _, Nat.zero_le _⟩ dM_add_30 (z_ki (fun r30_14 w1 tys1 hp => ?_))
        obtain ⟨rfl, rfl, p30_14⟩ := hp
        refine z_if_eq (pc := 33) hZ 55 dM_add_33 (by decide) (fun c33_15 => ?_) (fun c33_15 => ?_)
        · refine z_aload_n (pc := 55) hZ 0 dM_add_55 rfl rfl ?_
          refine z_get (pc := 56) (ci := 2) hZ 0 rfl rfl uc_M 3 (by decide) (zb fl_M_51) rfl dM_add_56 ?_
          refine z_callS (pc := 59) (As := [.int ka]) (rest := []) hZ (cM_isGreat l D (TY cR c1 c2 c3) (MW h0 a1 a2 a3 c1 c2 c3 (ka, na, ea, kb, nb, eb, k, n, e, bits, scale, K, N, E) ++ Y) ka) zyM_isGreat (z_goodS ml_M_86 st_M_isGreat in_M co_M_isGreat) rfl rfl (by decide) rfl rfl (Nat.le_of_ble_eq_true rfl) ⟨Nat.zero_le _, Nat.zero_le _⟩ dM_add_59 (z_ki (fun r59_16 w1 tys1 hp => ?_))
          obtain ⟨rfl, rfl, p59_16⟩ := hp
          refine z_if_eq (pc := 62) hZ 76 dM_add_62 (by decide) (fun c62_17 => ?_) (fun c62_17 => ?_)
          · refine z_aload_n (pc := 76) hZ 0 dM_add_76 rfl rfl ?_
            refine z_get (pc := 77) (ci := 2) hZ 0 rfl rfl uc_M 6 (by decide) (zb fl_M_60) rfl dM_add_77 ?_
            refine z_callS (pc := 80) (As := [.int kb]) (rest := []) hZ (cM_isGreat l D (TY cR c1 c2 c3) (MW h0 a1 a2 a3 c1 c2 c3 (ka, na, ea, kb, nb, eb, k, n, e, bits, scale, K, N, E) ++ Y) kb) zyM_isGreat (z_goodS ml_M_86 st_M_isGreat in_M co_M_isGreat) rfl rfl (by decide) rfl rfl (Nat.le_of_ble_eq_true rfl) ⟨Nat.zero_le _, Nat.zero_le _⟩ dM_add_80 (z_ki (fun r80_18 w1 tys1 hp => ?_))
            obtain ⟨rfl, rfl, p80_18⟩ := hp
            refine z_if_eq (pc := 83) hZ 97 dM_add_83 (by decide) (fun c83_19 => ?_) (fun c83_19 => ?_)
            · refine z_aload_n (pc := 97) hZ 0 dM_add_97 rfl rfl ?_
              refine z_callV (pc := 98) (As := []) (rest := []) hZ (cM_addNumbers l D cR c1 c2 c3 h0 a1 a2 a3 Y ka na ea kb nb eb k n e bits scale K N E (by exact RK_n (r := 0) ra c5_1 (gt_n p59_16 c62_17)) (by exact RK_n (r := 0) rb c13_3 (gt_n p80_18 c83_19))) zyM_addNumbers (z_goodV ml_M_90 im_M_addNumbers se_M_addNumbers in_M co_M_addNumbers) 0 rfl rfl rfl rfl (by decide) rfl rfl (Nat.le_of_ble_eq_true rfl) ⟨Nat.zero_le _, Nat.zero_le _⟩ dM_add_98 (z_kv (fun w1 tys1 hp => ?_))
              obtain ⟨k98_20, n98_20, e98_20, rfl, rfl, p98_20⟩ := hp
              exact z_retv (pc := 101) hZ dM_add_101 rfl ⟨rfl, _, _, _, rfl, rfl, (by first | exact p98_20 | exact sp_RK (Or.inr (Or.inr rfl)) nokey_ | exact sp_gt p59_16 c62_17 nokey_ | exact sp_gt p80_18 c83_19 nokey_)⟩
            · refine z_aload_n (pc := 86) hZ 0 dM_add_86 rfl rfl ?_
              refine z_aload_n (pc := 87) hZ 0 dM_add_87 rfl rfl ?_
              refine z_get (pc := 88) (ci := 2) hZ 0 rfl rfl uc_M 6 (by decide) (zb fl_M_60) rfl dM_add_88 ?_
              refine z_callV (pc := 91) (As := [.int kb]) (rest := []) hZ (cM_setSpecial l D cR c1 c2 c3 h0 a1 a2 a3 Y ka na ea kb nb eb k n e bits scale K N E kb) zyM_setSpecial (z_goodV ml_M_35 im_M_setSpecial se_M_setSpecial in_M co_M_setSpecial) 0 rfl rfl rfl rfl (by decide) rfl rfl (Nat.le_of_ble_eq_true rfl) ⟨Nat.zero_le _, Nat.zero_le _⟩ dM_add_91 (z_kv (fun w1 tys1 hp => ?_))
              obtain ⟨k91_21, n91_21, e91_21, rfl, rfl, p91_21⟩ := hp
              refine z_goto (pc := 94) hZ 101 dM_add_94 (by decide) ?_
              exact z_retv (pc := 101) hZ dM_add_101 rfl ⟨rfl, _, _, _, rfl, rfl, (by first | exact nokey_ | exact sp_RK (Or.inr (Or.inr rfl)) nokey_ | exact sp_gt p59_16 c62_17 nokey_ | exact sp_gt p80_18 c83_19 p91_21)⟩
          · refine z_aload_n (pc := 65) hZ 0 dM_add_65 rfl rfl ?_
            refine z_aload_n (pc := 66) hZ 0 dM_add_66 rfl rfl ?_
            refine z_get (pc := 67) (ci := 2) hZ 0 rfl rfl uc_M 3 (by decide) (zb fl_M_51) rfl dM_add_67 ?_
            refine z_callV (pc := 70) (As := [.int ka]) (rest := []) hZ (cM_setSpecial l D cR c1 c2 c3 h0 a1 a2 a3 Y ka na ea kb nb eb k n e bits scale K N E ka) zyM_setSpecial (z_goodV ml_M_35 im_M_setSpecial se_M_setSpecial in_M co_M_setSpecial) 0 rfl rfl rfl rfl (by decide) rfl rfl (Nat.le_of_ble_eq_true rfl) ⟨Nat.zero_le _, Nat.zero_le _⟩ dM_add_70 (z_kv (fun w1 tys1 hp => ?_))
            obtain ⟨k70_22, n70_22, e70_22, rfl, rfl, p70_22⟩ := hp
            refine z_goto (pc := 73) hZ 101 dM_add_73 (by decide) ?_
            exact z_retv (pc := 101) hZ dM_add_101 rfl ⟨rfl, _, _, _, rfl, rfl, (by first | exact nokey_ | exact sp_RK (Or.inr (Or.inr rfl)) nokey_ | exact sp_gt p59_16 c62_17 p70_22 | exact sp_gt nokey_ nokey_ nokey_)⟩
        · refine z_aload_n (pc := 36) hZ 0 dM_add_36 rfl rfl ?_
          refine z_get (pc := 37) (ci := 2) hZ 0 rfl rfl uc_M 3 (by decide) (zb fl_M_51) rfl dM_add_37 ?_
          refine z_aload_n (pc := 40) hZ 0 dM_add_40 rfl rfl ?_
          refine z_get (pc := 41) (ci := 2) hZ 0 rfl rfl uc_M 6 (by decide) (zb fl_M_60) rfl dM_add_41 ?_
          refine z_icmp_eq (pc := 44) hZ 55 dM_add_44 (by decide) (fun c44_23 => ?_) (fun c44_23 => ?_)
          · refine z_aload_n (pc := 55) hZ 0 dM_add_55 rfl rfl ?_
            refine z_get (pc := 56) (ci := 2) hZ 0 rfl rfl uc_M 3 (by decide) (zb fl_M_51) rfl dM_add_56 ?_
            refine z_callS (pc := 59) (As := [.int ka]) (rest := []) hZ (cM_isGreat l D (TY cR c1 c2 c3) (MW h0 a1 a2 a3 c1 c2 c3 (ka, na, ea, kb, nb, eb, k, n, e, bits, scale, K, N, E) ++ Y) ka) zyM_isGreat (z_goodS ml_M_86 st_M_isGreat in_M co_M_isGreat) rfl rfl (by decide) rfl rfl (Nat.le_of_ble_eq_true rfl) ⟨Nat.zero_le _, Nat.zero_le _⟩ dM_add_59 (z_ki (fun r59_24 w1 tys1 hp => ?_))
            obtain ⟨rfl, rfl, p59_24⟩ := hp
            refine z_if_eq (pc := 62) hZ 76 dM_add_62 (by decide) (fun c62_25 => ?_) (fun c62_25 => ?_)
            · refine z_aload_n (pc := 76) hZ 0 dM_add_76 rfl rfl ?_
              refine z_get (pc := 77) (ci := 2) hZ 0 rfl rfl uc_M 6 (by decide) (zb fl_M_60) rfl dM_add_77 ?_
              refine z_callS (pc := 80) (As := [.int kb]) (rest := []) hZ (cM_isGreat l D (TY cR c1 c2 c3) (MW h0 a1 a2 a3 c1 c2 c3 (ka, na, ea, kb, nb, eb, k, n, e, bits, scale, K, N, E) ++ Y) kb) zyM_isGreat (z_goodS ml_M_86 st_M_isGreat in_M co_M_isGreat) rfl rfl (by decide) rfl rfl (Nat.le_of_ble_eq_true rfl) ⟨Nat.zero_le _, Nat.zero_le _⟩ dM_add_80 (z_ki (fun r80_26 w1 tys1 hp => ?_))
              obtain ⟨rfl, rfl, p80_26⟩ := hp
              refine z_if_eq (pc := 83) hZ 97 dM_add_83 (by decide) (fun c83_27 => ?_) (fun c83_27 => ?_)
              · refine z_aload_n (pc := 97) hZ 0 dM_add_97 rfl rfl ?_
                refine z_callV (pc := 98) (As := []) (rest := []) hZ (cM_addNumbers l D cR c1 c2 c3 h0 a1 a2 a3 Y ka na ea kb nb eb k n e bits scale K N E (by exact RK_n (r := 0) ra c5_1 (gt_n p59_24 c62_25)) (by exact RK_n (r := 0) rb c13_3 (gt_n p80_26 c83_27))) zyM_addNumbers (z_goodV ml_M_90 im_M_addNumbers se_M_addNumbers in_M co_M_addNumbers) 0 rfl rfl rfl rfl (by decide) rfl rfl (Nat.le_of_ble_eq_true rfl) ⟨Nat.zero_le _, Nat.zero_le _⟩ dM_add_98 (z_kv (fun w1 tys1 hp => ?_))
                obtain ⟨k98_28, n98_28, e98_28, rfl, rfl, p98_28⟩ := hp
                exact z_retv (pc := 101) hZ dM_add_101 rfl ⟨rfl, _, _, _, rfl, rfl, (by first | exact p98_28 | exact sp_RK (Or.inr (Or.inr rfl)) nokey_ | exact sp_gt p59_24 c62_25 nokey_ | exact sp_gt p80_26 c83_27 nokey_)⟩
              · refine z_aload_n (pc := 86) hZ 0 dM_add_86 rfl rfl ?_
                refine z_aload_n (pc := 87) hZ 0 dM_add_87 rfl rfl ?_
                refine z_get (pc := 88) (ci := 2) hZ 0 rfl rfl uc_M 6 (by decide) (zb fl_M_60) rfl dM_add_88 ?_
                refine z_callV (pc := 91) (As := [.int kb]) (rest := []) hZ (cM_setSpecial l D cR c1 c2 c3 h0 a1 a2 a3 Y ka na ea kb nb eb k n e bits scale K N E kb) zyM_setSpecial (z_goodV ml_M_35 im_M_setSpecial se_M_setSpecial in_M co_M_setSpecial) 0 rfl rfl rfl rfl (by decide) rfl rfl (Nat.le_of_ble_eq_true rfl) ⟨Nat.zero_le _, Nat.zero_le _⟩ dM_add_91 (z_kv (fun w1 tys1 hp => ?_))
                obtain ⟨k91_29, n91_29, e91_29, rfl, rfl, p91_29⟩ := hp
                refine z_goto (pc := 94) hZ 101 dM_add_94 (by decide) ?_
                exact z_retv (pc := 101) hZ dM_add_101 rfl ⟨rfl, _, _, _, rfl, rfl, (by first | exact nokey_ | exact sp_RK (Or.inr (Or.inr rfl)) nokey_ | exact sp_gt p59_24 c62_25 nokey_ | exact sp_gt p80_26 c83_27 p91_29)⟩
            · refine z_aload_n (pc := 65) hZ 0 dM_add_65 rfl rfl ?_
              refine z_aload_n (pc := 66) hZ 0 dM_add_66 rfl rfl ?_
              refine z_get (pc := 67) (ci := 2) hZ 0 rfl rfl uc_M 3 (by decide) (zb fl_M_51) rfl dM_add_67 ?_
              refine z_callV (pc := 70) (As := [.int ka]) (rest := []) hZ (cM_setSpecial l D cR c1 c2 c3 h0 a1 a2 a3 Y ka na ea kb nb eb k n e bits scale K N E ka) zyM_setSpecial (z_goodV ml_M_35 im_M_setSpecial se_M_setSpecial in_M co_M_setSpecial) 0 rfl rfl rfl rfl (by decide) rfl rfl (Nat.le_of_ble_eq_true rfl) ⟨Nat.zero_le _, Nat.zero_le _⟩ dM_add_70 (z_kv (fun w1 tys1 hp => ?_))
              obtain ⟨k70_30, n70_30, e70_30, rfl, rfl, p70_30⟩ := hp
              refine z_goto (pc := 73) hZ 101 dM_add_73 (by decide) ?_
              exact z_retv (pc := 101) hZ dM_add_101 rfl ⟨rfl, _, _, _, rfl, rfl, (by first | exact nokey_ | exact sp_RK (Or.inr (Or.inr rfl)) nokey_ | exact sp_gt p59_24 c62_25 p70_30 | exact sp_gt nokey_ nokey_ nokey_)⟩
          · refine z_aload_n (pc := 47) hZ 0 dM_add_47 rfl rfl ?_
            refine z_iconst (pc := 48) hZ 5 dM_add_48 (by decide) ?_
            refine z_callV (pc := 49) (As := [.int 5]) (rest := []) hZ (cM_setSpecial l D cR c1 c2 c3 h0 a1 a2 a3 Y ka na ea kb nb eb k n e bits scale K N E 5) zyM_setSpecial (z_goodV ml_M_35 im_M_setSpecial se_M_setSpecial in_M co_M_setSpecial) 0 rfl rfl rfl rfl (by decide) rfl rfl (Nat.le_of_ble_eq_true rfl) ⟨Nat.zero_le _, Nat.zero_le _⟩ dM_add_49 (z_kv (fun w1 tys1 hp => ?_))
            obtain ⟨k49_31, n49_31, e49_31, rfl, rfl, p49_31⟩ := hp
            refine z_goto (pc := 52) hZ 101 dM_add_52 (by decide) ?_
            exact z_retv (pc := 101) hZ dM_add_101 rfl ⟨rfl, _, _, _, rfl, rfl, (by first | exact nokey_ | exact sp_RK (Or.inr (Or.inr rfl)) p49_31 | exact sp_gt nokey_ nokey_ nokey_ | exact sp_gt nokey_ nokey_ nokey_)⟩
set_option maxHeartbeats 4000000 in
set_option maxRecDepth 100000 in
theorem cM_multiply (l : Launch) (D : va_G) (cR c1 c2 c3 : ClassId) (h0 a1 a2 a3 : Nat) (Y : va_W) (ka : Int32) (na : Int64) (ea : Int32) (kb : Int32) (nb : Int64) (eb : Int32) (k : Int32) (n : Int64) (e : Int32) (bits : Int64) (scale : Int32) (K : Nat → Int32) (N : Nat → Int64) (E : Nat → Int32) (ra : RK ka na ea) (rb : RK kb nb eb) : zM l D vwCl zNF zNM yM_multiply wsM_multiply { frames := 2, cells := 0, slots := 0, locals := 58 } [.ref h0] (MW h0 a1 a2 a3 c1 c2 c3 (ka, na, ea, kb, nb, eb, k, n, e, bits, scale, K, N, E) ++ Y) (TY cR c1 c2 c3) (qV (fun w' tys' => ∃ k' : Int32, ∃ n' : Int64, ∃ e' : Int32, ∃ bits' : Int64, ∃ scale' : Int32, MW h0 a1 a2 a3 c1 c2 c3 (ka, na, ea, kb, nb, eb, k', n', e', bits', scale', K, N, E) ++ Y = w' ∧ (TY cR c1 c2 c3) = tys' ∧ (RK k' n' e'))) := by
  refine z_met (cc := bM_multiply) (maxL := 2) (ret := none) (isI := false) (own := RM) (by decide +kernel) rfl rfl (fun h => by cases h) (Nat.le_of_ble_eq_true rfl) (fun Z hZ => ?_)
  show Z 0 0 (TY cR c1 c2 c3) 0 [(0, .ref h0)] [] (MW h0 a1 a2 a3 c1 c2 c3 (ka, na, ea, kb, nb, eb, k, n, e, bits, scale, K, N, E) ++ Y)
  refine z_aload_n (pc := 0) hZ 0 dM_multiply_0 rfl rfl ?_
  refine z_get (pc := 1) (ci := 2) hZ 0 rfl rfl uc_M 3 (by decide) (zb fl_M_51) rfl dM_multiply_1 ?_
  refine z_aload_n (pc := 4) hZ 0 dM_multiply_4 rfl rfl ?_
  refine z_get (pc := 5) (ci := 2) hZ 0 rfl rfl uc_M 4 (by decide) (zb fl_M_54) rfl dM_multiply_5 ?_
  refine z_callS (pc := 8) (As := [.int ka, .long na]) (rest := []) hZ (cM_signOf l D (TY cR c1 c2 c3) (MW h0 a1 a2 a3 c1 c2 c3 (ka, na, ea, kb, nb, eb, k, n, e, bits, scale, K, N, E) ++ Y) ka na) zyM_signOf (z_goodS ml_M_101 st_M_signOf in_M co_M_signOf) rfl rfl (by decide) rfl rfl (Nat.le_of_ble_eq_true rfl) ⟨Nat.zero_le _, Nat.zero_le _⟩ dM_multiply_8 (z_ki (fun r8_1 w1 tys1 hp => ?_))
  obtain ⟨rfl, rfl, p8_1⟩ := hp
  refine z_aload_n (pc := 11) hZ 0 dM_multiply_11 rfl rfl ?_
  refine z_get (pc := 12) (ci := 2) hZ 0 rfl rfl uc_M 6 (by decide) (zb fl_M_60) rfl dM_multiply_12 ?_
  refine z_aload_n (pc := 15) hZ 0 dM_multiply_15 rfl rfl ?_
  refine z_get (pc := 16) (ci := 2) hZ 0 rfl rfl uc_M 7 (by decide) (zb fl_M_63) rfl dM_multiply_16 ?_
  refine z_callS (pc := 19) (As := [.int kb, .long nb]) (rest := [.int r8_1]) hZ (cM_signOf l D (TY cR c1 c2 c3) (MW h0 a1 a2 a3 c1 c2 c3 (ka, na, ea, kb, nb, eb, k, n, e, bits, scale, K, N, E) ++ Y) kb nb) zyM_signOf (z_goodS ml_M_101 st_M_signOf in_M co_M_signOf) rfl rfl (by decide) rfl rfl (Nat.le_of_ble_eq_true rfl) ⟨Nat.zero_le _, Nat.zero_le _⟩ dM_multiply_19 (z_ki (fun r19_2 w1 tys1 hp => ?_))
  obtain ⟨rfl, rfl, p19_2⟩ := hp
  refine z_imul (pc := 22) hZ dM_multiply_22 (fun v22_3 ev22_3 => ?_)
  refine z_istore_n (pc := 23) hZ [(1, .int v22_3), (0, .ref h0)] dM_multiply_23 rfl (by decide) rfl ?_
  refine z_aload_n (pc := 24) hZ 1 dM_multiply_24 rfl rfl ?_
  refine z_get (pc := 25) (ci := 2) hZ 0 rfl rfl uc_M 3 (by decide) (zb fl_M_51) rfl dM_multiply_25 ?_
  refine z_iconst (pc := 28) hZ 5 dM_multiply_28 (by decide) ?_
  refine z_icmp_eq (pc := 29) hZ 64 dM_multiply_29 (by decide) (fun c29_4 => ?_) (fun c29_4 => ?_)
  · refine z_aload_n (pc := 64) hZ 1 dM_multiply_64 rfl rfl ?_
    refine z_iconst (pc := 65) hZ 5 dM_multiply_65 (by decide) ?_
    refine z_callV (pc := 66) (As := [.int 5]) (rest := []) hZ (cM_setSpecial l D cR c1 c2 c3 h0 a1 a2 a3 Y ka na ea kb nb eb k n e bits scale K N E 5) zyM_setSpecial (z_goodV ml_M_35 im_M_setSpecial se_M_setSpecial in_M co_M_setSpecial) 0 rfl rfl rfl rfl (by decide) rfl rfl (Nat.le_of_ble_eq_true rfl) ⟨Nat.zero_le _, Nat.zero_le _⟩ dM_multiply_66 (z_kv (fun w1 tys1 hp => ?_))
    obtain ⟨k66_5, n66_5, e66_5, rfl, rfl, p66_5⟩ := hp
    refine z_goto (pc := 69) hZ 170 dM_multiply_69 (by decide) ?_
    exact z_retv (pc := 170) hZ dM_multiply_170 rfl ⟨rfl, _, _, _, _, _, rfl, rfl, (by first | exact (((nokey_).1)).1 | exact RK_of ((nokey_).1) | exact sp_RK (Or.inr (Or.inr rfl)) p66_5 | exact sp_RK (Or.inr (Or.inl rfl)) nokey_ | exact sp_RK (Or.inl rfl) nokey_)⟩
  · refine z_aload_n (pc := 32) hZ 1 dM_multiply_32 rfl rfl ?_
    refine z_get (pc := 33) (ci := 2) hZ 0 rfl rfl uc_M 6 (by decide) (zb fl_M_60) rfl dM_multiply_33 ?_
    refine z_iconst (pc := 36) hZ 5 dM_multiply_36 (by decide) ?_
    refine z_icmp_eq (pc := 37) hZ 64 dM_multiply_37 (by decide) (fun c37_6 => ?_) (fun c37_6 => ?_)
    · refine z_aload_n (pc := 64) hZ 1 dM_multiply_64 rfl rfl ?_
      refine z_iconst (pc := 65) hZ 5 dM_multiply_65 (by decide) ?_
      refine z_callV (pc := 66) (As := [.int 5]) (rest := []) hZ (cM_setSpecial l D cR c1 c2 c3 h0 a1 a2 a3 Y ka na ea kb nb eb k n e bits scale K N E 5) zyM_setSpecial (z_goodV ml_M_35 im_M_setSpecial se_M_setSpecial in_M co_M_setSpecial) 0 rfl rfl rfl rfl (by decide) rfl rfl (Nat.le_of_ble_eq_true rfl) ⟨Nat.zero_le _, Nat.zero_le _⟩ dM_multiply_66 (z_kv (fun w1 tys1 hp => ?_))
      obtain ⟨k66_7, n66_7, e66_7, rfl, rfl, p66_7⟩ := hp
      refine z_goto (pc := 69) hZ 170 dM_multiply_69 (by decide) ?_
      exact z_retv (pc := 170) hZ dM_multiply_170 rfl ⟨rfl, _, _, _, _, _, rfl, rfl, (by first | exact (((nokey_).1)).1 | exact RK_of ((nokey_).1) | exact sp_RK (Or.inr (Or.inr rfl)) p66_7 | exact sp_RK (Or.inr (Or.inl rfl)) nokey_ | exact sp_RK (Or.inl rfl) nokey_)⟩
    · refine z_aload_n (pc := 40) hZ 1 dM_multiply_40 rfl rfl ?_
      refine z_get (pc := 41) (ci := 2) hZ 0 rfl rfl uc_M 3 (by decide) (zb fl_M_51) rfl dM_multiply_41 ?_
      refine z_callS (pc := 44) (As := [.int ka]) (rest := []) hZ (cM_isGreat l D (TY cR c1 c2 c3) (MW h0 a1 a2 a3 c1 c2 c3 (ka, na, ea, kb, nb, eb, k, n, e, bits, scale, K, N, E) ++ Y) ka) zyM_isGreat (z_goodS ml_M_86 st_M_isGreat in_M co_M_isGreat) rfl rfl (by decide) rfl rfl (Nat.le_of_ble_eq_true rfl) ⟨Nat.zero_le _, Nat.zero_le _⟩ dM_multiply_44 (z_ki (fun r44_8 w1 tys1 hp => ?_))
      obtain ⟨rfl, rfl, p44_8⟩ := hp
      refine z_if_ne (pc := 47) hZ 60 dM_multiply_47 (by decide) (fun c47_9 => ?_) (fun c47_9 => ?_)
      · refine z_iload_n (pc := 60) hZ 0 dM_multiply_60 rfl rfl ?_
        refine z_if_ne (pc := 61) hZ 72 dM_multiply_61 (by decide) (fun c61_10 => ?_) (fun c61_10 => ?_)
        · refine z_aload_n (pc := 72) hZ 1 dM_multiply_72 rfl rfl ?_
          refine z_get (pc := 73) (ci := 2) hZ 0 rfl rfl uc_M 3 (by decide) (zb fl_M_51) rfl dM_multiply_73 ?_
          refine z_callS (pc := 76) (As := [.int ka]) (rest := []) hZ (cM_isGreat l D (TY cR c1 c2 c3) (MW h0 a1 a2 a3 c1 c2 c3 (ka, na, ea, kb, nb, eb, k, n, e, bits, scale, K, N, E) ++ Y) ka) zyM_isGreat (z_goodS ml_M_86 st_M_isGreat in_M co_M_isGreat) rfl rfl (by decide) rfl rfl (Nat.le_of_ble_eq_true rfl) ⟨Nat.zero_le _, Nat.zero_le _⟩ dM_multiply_76 (z_ki (fun r76_11 w1 tys1 hp => ?_))
          obtain ⟨rfl, rfl, p76_11⟩ := hp
          refine z_if_ne (pc := 79) hZ 92 dM_multiply_79 (by decide) (fun c79_12 => ?_) (fun c79_12 => ?_)
          · refine z_aload_n (pc := 92) hZ 1 dM_multiply_92 rfl rfl ?_
            refine z_iload_n (pc := 93) hZ 0 dM_multiply_93 rfl rfl ?_
            refine z_if_ge (pc := 94) hZ 101 dM_multiply_94 (by decide) (fun c94_13 => ?_) (fun c94_13 => ?_)
            · refine z_iconst (pc := 101) hZ 3 dM_multiply_101 (by decide) ?_
              refine z_callV (pc := 102) (As := [.int 3]) (rest := []) hZ (cM_setSpecial l D cR c1 c2 c3 h0 a1 a2 a3 Y ka na ea kb nb eb k n e bits scale K N E 3) zyM_setSpecial (z_goodV ml_M_35 im_M_setSpecial se_M_setSpecial in_M co_M_setSpecial) 0 rfl rfl rfl rfl (by decide) rfl rfl (Nat.le_of_ble_eq_true rfl) ⟨Nat.zero_le _, Nat.zero_le _⟩ dM_multiply_102 (z_kv (fun w1 tys1 hp => ?_))
              obtain ⟨k102_14, n102_14, e102_14, rfl, rfl, p102_14⟩ := hp
              refine z_goto (pc := 105) hZ 170 dM_multiply_105 (by decide) ?_
              exact z_retv (pc := 170) hZ dM_multiply_170 rfl ⟨rfl, _, _, _, _, _, rfl, rfl, (by first | exact (((nokey_).1)).1 | exact RK_of ((nokey_).1) | exact sp_RK (Or.inr (Or.inr rfl)) nokey_ | exact sp_RK (Or.inr (Or.inl rfl)) p102_14 | exact sp_RK (Or.inl rfl) p102_14)⟩
            · refine z_iconst (pc := 97) hZ 4 dM_multiply_97 (by decide) ?_
              refine z_goto (pc := 98) hZ 102 dM_multiply_98 (by decide) ?_
              refine z_callV (pc := 102) (As := [.int 4]) (rest := []) hZ (cM_setSpecial l D cR c1 c2 c3 h0 a1 a2 a3 Y ka na ea kb nb eb k n e bits scale K N E 4) zyM_setSpecial (z_goodV ml_M_35 im_M_setSpecial se_M_setSpecial in_M co_M_setSpecial) 0 rfl rfl rfl rfl (by decide) rfl rfl (Nat.le_of_ble_eq_true rfl) ⟨Nat.zero_le _, Nat.zero_le _⟩ dM_multiply_102 (z_kv (fun w1 tys1 hp => ?_))
              obtain ⟨k102_15, n102_15, e102_15, rfl, rfl, p102_15⟩ := hp
              refine z_goto (pc := 105) hZ 170 dM_multiply_105 (by decide) ?_
              exact z_retv (pc := 170) hZ dM_multiply_170 rfl ⟨rfl, _, _, _, _, _, rfl, rfl, (by first | exact (((nokey_).1)).1 | exact RK_of ((nokey_).1) | exact sp_RK (Or.inr (Or.inr rfl)) nokey_ | exact sp_RK (Or.inr (Or.inl rfl)) p102_15 | exact sp_RK (Or.inl rfl) p102_15)⟩
          · refine z_aload_n (pc := 82) hZ 1 dM_multiply_82 rfl rfl ?_
            refine z_get (pc := 83) (ci := 2) hZ 0 rfl rfl uc_M 6 (by decide) (zb fl_M_60) rfl dM_multiply_83 ?_
            refine z_callS (pc := 86) (As := [.int kb]) (rest := []) hZ (cM_isGreat l D (TY cR c1 c2 c3) (MW h0 a1 a2 a3 c1 c2 c3 (ka, na, ea, kb, nb, eb, k, n, e, bits, scale, K, N, E) ++ Y) kb) zyM_isGreat (z_goodS ml_M_86 st_M_isGreat in_M co_M_isGreat) rfl rfl (by decide) rfl rfl (Nat.le_of_ble_eq_true rfl) ⟨Nat.zero_le _, Nat.zero_le _⟩ dM_multiply_86 (z_ki (fun r86_16 w1 tys1 hp => ?_))
            obtain ⟨rfl, rfl, p86_16⟩ := hp
            refine z_if_eq (pc := 89) hZ 108 dM_multiply_89 (by decide) (fun c89_17 => ?_) (fun c89_17 => ?_)
            · refine z_iload_n (pc := 108) hZ 0 dM_multiply_108 rfl rfl ?_
              refine z_if_ne (pc := 109) hZ 121 dM_multiply_109 (by decide) (fun c109 => ?_) (fun c9 => False.elim (by first | exact absurd c9 c61_10 | exact absurd c61_10 c9 | exact absurd c9 (Int32.not_lt.mpr c61_10) | exact absurd c9 (Int32.not_le.mpr c61_10) | exact c9 ((Int32.not_lt).mp c61_10) | exact c9 ((Int32.not_le).mp c61_10)))
              refine z_aload_n (pc := 121) hZ 1 dM_multiply_121 rfl rfl ?_
              refine z_aload_n (pc := 122) hZ 1 dM_multiply_122 rfl rfl ?_
              refine z_get (pc := 123) (ci := 2) hZ 0 rfl rfl uc_M 4 (by decide) (zb fl_M_54) rfl dM_multiply_123 ?_
              refine z_callS (pc := 126) (As := [.long na]) (rest := [.ref h0]) hZ (cM_size l D (TY cR c1 c2 c3) (MW h0 a1 a2 a3 c1 c2 c3 (ka, na, ea, kb, nb, eb, k, n, e, bits, scale, K, N, E) ++ Y) na) zyM_size (z_goodS ml_M_47 st_M_size in_M co_M_size) rfl rfl (by decide) rfl rfl (Nat.le_of_ble_eq_true rfl) ⟨Nat.zero_le _, Nat.zero_le _⟩ dM_multiply_126 (z_kl (fun r126_18 w1 tys1 hp => ?_))
              obtain ⟨rfl, rfl, p126_18⟩ := hp
              refine z_aload_n (pc := 129) hZ 1 dM_multiply_129 rfl rfl ?_
              refine z_get (pc := 130) (ci := 2) hZ 0 rfl rfl uc_M 7 (by decide) (zb fl_M_63) rfl dM_multiply_130 ?_
              refine z_callS (pc := 133) (As := [.long nb]) (rest := [.long r126_18, .ref h0]) hZ (cM_size l D (TY cR c1 c2 c3) (MW h0 a1 a2 a3 c1 c2 c3 (ka, na, ea, kb, nb, eb, k, n, e, bits, scale, K, N, E) ++ Y) nb) zyM_size (z_goodS ml_M_47 st_M_size in_M co_M_size) rfl rfl (by decide) rfl rfl (Nat.le_of_ble_eq_true rfl) ⟨Nat.zero_le _, Nat.zero_le _⟩ dM_multiply_133 (z_kl (fun r133_19 w1 tys1 hp => ?_))
              obtain ⟨rfl, rfl, p133_19⟩ := hp
              refine z_callV (pc := 136) (As := [.long r126_18, .long r133_19]) (rest := []) hZ (cM_product l D cR c1 c2 c3 h0 a1 a2 a3 Y ka na ea kb nb eb k n e bits scale K N E r126_18 r133_19 (by exact ⟨(sz_b (RK_n (r := 0) ra c29_4 (gt_n p76_11 c79_12)) p126_18).1, (sz_b (RK_n (r := 0) ra c29_4 (gt_n p76_11 c79_12)) p126_18).2.1⟩) (by exact ⟨(sz_b (RK_n (r := 0) rb c37_6 (gt_n p86_16 c89_17)) p133_19).1, (sz_b (RK_n (r := 0) rb c37_6 (gt_n p86_16 c89_17)) p133_19).2.1⟩)) zyM_product (z_goodV ml_M_105 im_M_product se_M_product in_M co_M_product) 0 rfl rfl rfl rfl (by decide) rfl rfl (Nat.le_of_ble_eq_true rfl) ⟨Nat.zero_le _, Nat.zero_le _⟩ dM_multiply_136 (z_kv (fun w1 tys1 hp => ?_))
              obtain ⟨bits136_20, scale136_20, rfl, rfl, p136_20⟩ := hp
              refine z_aload_n (pc := 139) hZ 1 dM_multiply_139 rfl rfl ?_
              refine z_aload_n (pc := 140) hZ 1 dM_multiply_140 rfl rfl ?_
              refine z_get (pc := 141) (ci := 2) hZ 0 rfl rfl uc_M 12 (by decide) (zb fl_M_95) rfl dM_multiply_141 ?_
              refine z_aload_n (pc := 144) hZ 1 dM_multiply_144 rfl rfl ?_
              refine z_get (pc := 145) (ci := 2) hZ 0 rfl rfl uc_M 5 (by decide) (zb fl_M_57) rfl dM_multiply_145 ?_
              refine z_aload_n (pc := 148) hZ 1 dM_multiply_148 rfl rfl ?_
              refine z_get (pc := 149) (ci := 2) hZ 0 rfl rfl uc_M 8 (by decide) (zb fl_M_66) rfl dM_multiply_149 ?_
              refine z_iadd (pc := 152) hZ dM_multiply_152 (fun v152_21 ev152_21 => ?_)
              refine z_aload_n (pc := 153) hZ 1 dM_multiply_153 rfl rfl ?_
              refine z_get (pc := 154) (ci := 2) hZ 0 rfl rfl uc_M 13 (by decide) (zb fl_M_98) rfl dM_multiply_154 ?_
              refine z_iadd (pc := 157) hZ dM_multiply_157 (fun v157_22 ev157_22 => ?_)
              refine z_iload_n (pc := 158) hZ 0 dM_multiply_158 rfl rfl ?_
              refine z_if_ge (pc := 159) hZ 166 dM_multiply_159 (by decide) (fun c159_23 => ?_) (fun c159_23 => ?_)
              · refine z_iconst (pc := 166) hZ 0 dM_multiply_166 (by decide) ?_
                refine z_callV (pc := 167) (As := [.long bits136_20, .int v157_22, .int 0]) (rest := []) hZ (cM_nearest l D cR c1 c2 c3 h0 a1 a2 a3 Y ka na ea kb nb eb k n e bits136_20 scale136_20 K N E bits136_20 v157_22 0 (by exact (p136_20).1.1) (by exact (p136_20).1.2) (by exact mu_e (RK_n (r := 0) ra c29_4 (gt_n p76_11 c79_12)) (RK_n (r := 0) rb c37_6 (gt_n p86_16 c89_17)) (p136_20).2 ev152_21 ev157_22)) zyM_nearest (z_goodV ml_M_43 im_M_nearest se_M_nearest in_M co_M_nearest) 0 rfl rfl rfl rfl (by decide) rfl rfl (Nat.le_of_ble_eq_true rfl) ⟨Nat.zero_le _, Nat.zero_le _⟩ dM_multiply_167 (z_kv (fun w1 tys1 hp => ?_))
                obtain ⟨k167_24, n167_24, e167_24, rfl, rfl, p167_24⟩ := hp
                exact z_retv (pc := 170) hZ dM_multiply_170 rfl ⟨rfl, _, _, _, _, _, rfl, rfl, (by first | exact (((p167_24).1)).1 | exact RK_of ((nokey_).1) | exact sp_RK (Or.inr (Or.inr rfl)) nokey_ | exact sp_RK (Or.inr (Or.inl rfl)) nokey_ | exact sp_RK (Or.inl rfl) nokey_)⟩
              · refine z_iconst (pc := 162) hZ 1 dM_multiply_162 (by decide) ?_
                refine z_goto (pc := 163) hZ 167 dM_multiply_163 (by decide) ?_
                refine z_callV (pc := 167) (As := [.long bits136_20, .int v157_22, .int 1]) (rest := []) hZ (cM_nearest l D cR c1 c2 c3 h0 a1 a2 a3 Y ka na ea kb nb eb k n e bits136_20 scale136_20 K N E bits136_20 v157_22 1 (by exact (p136_20).1.1) (by exact (p136_20).1.2) (by exact mu_e (RK_n (r := 0) ra c29_4 (gt_n p76_11 c79_12)) (RK_n (r := 0) rb c37_6 (gt_n p86_16 c89_17)) (p136_20).2 ev152_21 ev157_22)) zyM_nearest (z_goodV ml_M_43 im_M_nearest se_M_nearest in_M co_M_nearest) 0 rfl rfl rfl rfl (by decide) rfl rfl (Nat.le_of_ble_eq_true rfl) ⟨Nat.zero_le _, Nat.zero_le _⟩ dM_multiply_167 (z_kv (fun w1 tys1 hp => ?_))
                obtain ⟨k167_25, n167_25, e167_25, rfl, rfl, p167_25⟩ := hp
                exact z_retv (pc := 170) hZ dM_multiply_170 rfl ⟨rfl, _, _, _, _, _, rfl, rfl, (by first | exact (((p167_25).1)).1 | exact RK_of ((nokey_).1) | exact sp_RK (Or.inr (Or.inr rfl)) nokey_ | exact sp_RK (Or.inr (Or.inl rfl)) nokey_ | exact sp_RK (Or.inl rfl) nokey_)⟩
            · refine z_aload_n (pc := 92) hZ 1 dM_multiply_92 rfl rfl ?_
              refine z_iload_n (pc := 93) hZ 0 dM_multiply_93 rfl rfl ?_
              refine z_if_ge (pc := 94) hZ 101 dM_multiply_94 (by decide) (fun c94_26 => ?_) (fun c94_26 => ?_)
              · refine z_iconst (pc := 101) hZ 3 dM_multiply_101 (by decide) ?_
                refine z_callV (pc := 102) (As := [.int 3]) (rest := []) hZ (cM_setSpecial l D cR c1 c2 c3 h0 a1 a2 a3 Y ka na ea kb nb eb k n e bits scale K N E 3) zyM_setSpecial (z_goodV ml_M_35 im_M_setSpecial se_M_setSpecial in_M co_M_setSpecial) 0 rfl rfl rfl rfl (by decide) rfl rfl (Nat.le_of_ble_eq_true rfl) ⟨Nat.zero_le _, Nat.zero_le _⟩ dM_multiply_102 (z_kv (fun w1 tys1 hp => ?_))
                obtain ⟨k102_27, n102_27, e102_27, rfl, rfl, p102_27⟩ := hp
                refine z_goto (pc := 105) hZ 170 dM_multiply_105 (by decide) ?_
                exact z_retv (pc := 170) hZ dM_multiply_170 rfl ⟨rfl, _, _, _, _, _, rfl, rfl, (by first | exact (((nokey_).1)).1 | exact RK_of ((nokey_).1) | exact sp_RK (Or.inr (Or.inr rfl)) nokey_ | exact sp_RK (Or.inr (Or.inl rfl)) p102_27 | exact sp_RK (Or.inl rfl) p102_27)⟩
              · refine z_iconst (pc := 97) hZ 4 dM_multiply_97 (by decide) ?_
                refine z_goto (pc := 98) hZ 102 dM_multiply_98 (by decide) ?_
                refine z_callV (pc := 102) (As := [.int 4]) (rest := []) hZ (cM_setSpecial l D cR c1 c2 c3 h0 a1 a2 a3 Y ka na ea kb nb eb k n e bits scale K N E 4) zyM_setSpecial (z_goodV ml_M_35 im_M_setSpecial se_M_setSpecial in_M co_M_setSpecial) 0 rfl rfl rfl rfl (by decide) rfl rfl (Nat.le_of_ble_eq_true rfl) ⟨Nat.zero_le _, Nat.zero_le _⟩ dM_multiply_102 (z_kv (fun w1 tys1 hp => ?_))
                obtain ⟨k102_28, n102_28, e102_28, rfl, rfl, p102_28⟩ := hp
                refine z_goto (pc := 105) hZ 170 dM_multiply_105 (by decide) ?_
                exact z_retv (pc := 170) hZ dM_multiply_170 rfl ⟨rfl, _, _, _, _, _, rfl, rfl, (by first | exact (((nokey_).1)).1 | exact RK_of ((nokey_).1) | exact sp_RK (Or.inr (Or.inr rfl)) nokey_ | exact sp_RK (Or.inr (Or.inl rfl)) p102_28 | exact sp_RK (Or.inl rfl) p102_28)⟩
        · refine z_aload_n (pc := 64) hZ 1 dM_multiply_64 rfl rfl ?_
          refine z_iconst (pc := 65) hZ 5 dM_multiply_65 (by decide) ?_
          refine z_callV (pc := 66) (As := [.int 5]) (rest := []) hZ (cM_setSpecial l D cR c1 c2 c3 h0 a1 a2 a3 Y ka na ea kb nb eb k n e bits scale K N E 5) zyM_setSpecial (z_goodV ml_M_35 im_M_setSpecial se_M_setSpecial in_M co_M_setSpecial) 0 rfl rfl rfl rfl (by decide) rfl rfl (Nat.le_of_ble_eq_true rfl) ⟨Nat.zero_le _, Nat.zero_le _⟩ dM_multiply_66 (z_kv (fun w1 tys1 hp => ?_))
          obtain ⟨k66_29, n66_29, e66_29, rfl, rfl, p66_29⟩ := hp
          refine z_goto (pc := 69) hZ 170 dM_multiply_69 (by decide) ?_
          exact z_retv (pc := 170) hZ dM_multiply_170 rfl ⟨rfl, _, _, _, _, _, rfl, rfl, (by first | exact (((nokey_).1)).1 | exact RK_of ((nokey_).1) | exact sp_RK (Or.inr (Or.inr rfl)) p66_29 | exact sp_RK (Or.inr (Or.inl rfl)) nokey_ | exact sp_RK (Or.inl rfl) nokey_)⟩
      · refine z_aload_n (pc := 50) hZ 1 dM_multiply_50 rfl rfl ?_
        refine z_get (pc := 51) (ci := 2) hZ 0 rfl rfl uc_M 6 (by decide) (zb fl_M_60) rfl dM_multiply_51 ?_
        refine z_callS (pc := 54) (As := [.int kb]) (rest := []) hZ (cM_isGreat l D (TY cR c1 c2 c3) (MW h0 a1 a2 a3 c1 c2 c3 (ka, na, ea, kb, nb, eb, k, n, e, bits, scale, K, N, E) ++ Y) kb) zyM_isGreat (z_goodS ml_M_86 st_M_isGreat in_M co_M_isGreat) rfl rfl (by decide) rfl rfl (Nat.le_of_ble_eq_true rfl) ⟨Nat.zero_le _, Nat.zero_le _⟩ dM_multiply_54 (z_ki (fun r54_30 w1 tys1 hp => ?_))
        obtain ⟨rfl, rfl, p54_30⟩ := hp
        refine z_if_eq (pc := 57) hZ 72 dM_multiply_57 (by decide) (fun c57_31 => ?_) (fun c57_31 => ?_)
        · refine z_aload_n (pc := 72) hZ 1 dM_multiply_72 rfl rfl ?_
          refine z_get (pc := 73) (ci := 2) hZ 0 rfl rfl uc_M 3 (by decide) (zb fl_M_51) rfl dM_multiply_73 ?_
          refine z_callS (pc := 76) (As := [.int ka]) (rest := []) hZ (cM_isGreat l D (TY cR c1 c2 c3) (MW h0 a1 a2 a3 c1 c2 c3 (ka, na, ea, kb, nb, eb, k, n, e, bits, scale, K, N, E) ++ Y) ka) zyM_isGreat (z_goodS ml_M_86 st_M_isGreat in_M co_M_isGreat) rfl rfl (by decide) rfl rfl (Nat.le_of_ble_eq_true rfl) ⟨Nat.zero_le _, Nat.zero_le _⟩ dM_multiply_76 (z_ki (fun r76_32 w1 tys1 hp => ?_))
          obtain ⟨rfl, rfl, p76_32⟩ := hp
          refine z_if_ne (pc := 79) hZ 92 dM_multiply_79 (by decide) (fun c79_33 => ?_) (fun c79_33 => ?_)
          · refine z_aload_n (pc := 92) hZ 1 dM_multiply_92 rfl rfl ?_
            refine z_iload_n (pc := 93) hZ 0 dM_multiply_93 rfl rfl ?_
            refine z_if_ge (pc := 94) hZ 101 dM_multiply_94 (by decide) (fun c94_34 => ?_) (fun c94_34 => ?_)
            · refine z_iconst (pc := 101) hZ 3 dM_multiply_101 (by decide) ?_
              refine z_callV (pc := 102) (As := [.int 3]) (rest := []) hZ (cM_setSpecial l D cR c1 c2 c3 h0 a1 a2 a3 Y ka na ea kb nb eb k n e bits scale K N E 3) zyM_setSpecial (z_goodV ml_M_35 im_M_setSpecial se_M_setSpecial in_M co_M_setSpecial) 0 rfl rfl rfl rfl (by decide) rfl rfl (Nat.le_of_ble_eq_true rfl) ⟨Nat.zero_le _, Nat.zero_le _⟩ dM_multiply_102 (z_kv (fun w1 tys1 hp => ?_))
              obtain ⟨k102_35, n102_35, e102_35, rfl, rfl, p102_35⟩ := hp
              refine z_goto (pc := 105) hZ 170 dM_multiply_105 (by decide) ?_
              exact z_retv (pc := 170) hZ dM_multiply_170 rfl ⟨rfl, _, _, _, _, _, rfl, rfl, (by first | exact (((nokey_).1)).1 | exact RK_of ((nokey_).1) | exact sp_RK (Or.inr (Or.inr rfl)) nokey_ | exact sp_RK (Or.inr (Or.inl rfl)) p102_35 | exact sp_RK (Or.inl rfl) p102_35)⟩
            · refine z_iconst (pc := 97) hZ 4 dM_multiply_97 (by decide) ?_
              refine z_goto (pc := 98) hZ 102 dM_multiply_98 (by decide) ?_
              refine z_callV (pc := 102) (As := [.int 4]) (rest := []) hZ (cM_setSpecial l D cR c1 c2 c3 h0 a1 a2 a3 Y ka na ea kb nb eb k n e bits scale K N E 4) zyM_setSpecial (z_goodV ml_M_35 im_M_setSpecial se_M_setSpecial in_M co_M_setSpecial) 0 rfl rfl rfl rfl (by decide) rfl rfl (Nat.le_of_ble_eq_true rfl) ⟨Nat.zero_le _, Nat.zero_le _⟩ dM_multiply_102 (z_kv (fun w1 tys1 hp => ?_))
              obtain ⟨k102_36, n102_36, e102_36, rfl, rfl, p102_36⟩ := hp
              refine z_goto (pc := 105) hZ 170 dM_multiply_105 (by decide) ?_
              exact z_retv (pc := 170) hZ dM_multiply_170 rfl ⟨rfl, _, _, _, _, _, rfl, rfl, (by first | exact (((nokey_).1)).1 | exact RK_of ((nokey_).1) | exact sp_RK (Or.inr (Or.inr rfl)) nokey_ | exact sp_RK (Or.inr (Or.inl rfl)) p102_36 | exact sp_RK (Or.inl rfl) p102_36)⟩
          · refine z_aload_n (pc := 82) hZ 1 dM_multiply_82 rfl rfl ?_
            refine z_get (pc := 83) (ci := 2) hZ 0 rfl rfl uc_M 6 (by decide) (zb fl_M_60) rfl dM_multiply_83 ?_
            refine z_callS (pc := 86) (As := [.int kb]) (rest := []) hZ (cM_isGreat l D (TY cR c1 c2 c3) (MW h0 a1 a2 a3 c1 c2 c3 (ka, na, ea, kb, nb, eb, k, n, e, bits, scale, K, N, E) ++ Y) kb) zyM_isGreat (z_goodS ml_M_86 st_M_isGreat in_M co_M_isGreat) rfl rfl (by decide) rfl rfl (Nat.le_of_ble_eq_true rfl) ⟨Nat.zero_le _, Nat.zero_le _⟩ dM_multiply_86 (z_ki (fun r86_37 w1 tys1 hp => ?_))
            obtain ⟨rfl, rfl, p86_37⟩ := hp
            refine z_if_eq (pc := 89) hZ 108 dM_multiply_89 (by decide) (fun c89_38 => ?_) (fun c89_38 => ?_)
            · refine z_iload_n (pc := 108) hZ 0 dM_multiply_108 rfl rfl ?_
              refine z_if_ne (pc := 109) hZ 121 dM_multiply_109 (by decide) (fun c109_39 => ?_) (fun c109_39 => ?_)
              · refine z_aload_n (pc := 121) hZ 1 dM_multiply_121 rfl rfl ?_
                refine z_aload_n (pc := 122) hZ 1 dM_multiply_122 rfl rfl ?_
                refine z_get (pc := 123) (ci := 2) hZ 0 rfl rfl uc_M 4 (by decide) (zb fl_M_54) rfl dM_multiply_123 ?_
                refine z_callS (pc := 126) (As := [.long na]) (rest := [.ref h0]) hZ (cM_size l D (TY cR c1 c2 c3) (MW h0 a1 a2 a3 c1 c2 c3 (ka, na, ea, kb, nb, eb, k, n, e, bits, scale, K, N, E) ++ Y) na) zyM_size (z_goodS ml_M_47 st_M_size in_M co_M_size) rfl rfl (by decide) rfl rfl (Nat.le_of_ble_eq_true rfl) ⟨Nat.zero_le _, Nat.zero_le _⟩ dM_multiply_126 (z_kl (fun r126_40 w1 tys1 hp => ?_))
                obtain ⟨rfl, rfl, p126_40⟩ := hp
                refine z_aload_n (pc := 129) hZ 1 dM_multiply_129 rfl rfl ?_
                refine z_get (pc := 130) (ci := 2) hZ 0 rfl rfl uc_M 7 (by decide) (zb fl_M_63) rfl dM_multiply_130 ?_
                refine z_callS (pc := 133) (As := [.long nb]) (rest := [.long r126_40, .ref h0]) hZ (cM_size l D (TY cR c1 c2 c3) (MW h0 a1 a2 a3 c1 c2 c3 (ka, na, ea, kb, nb, eb, k, n, e, bits, scale, K, N, E) ++ Y) nb) zyM_size (z_goodS ml_M_47 st_M_size in_M co_M_size) rfl rfl (by decide) rfl rfl (Nat.le_of_ble_eq_true rfl) ⟨Nat.zero_le _, Nat.zero_le _⟩ dM_multiply_133 (z_kl (fun r133_41 w1 tys1 hp => ?_))
                obtain ⟨rfl, rfl, p133_41⟩ := hp
                refine z_callV (pc := 136) (As := [.long r126_40, .long r133_41]) (rest := []) hZ (cM_product l D cR c1 c2 c3 h0 a1 a2 a3 Y ka na ea kb nb eb k n e bits scale K N E r126_40 r133_41 (by exact ⟨(sz_b (RK_n (r := 0) ra c29_4 (gt_n p76_32 c79_33)) p126_40).1, (sz_b (RK_n (r := 0) ra c29_4 (gt_n p76_32 c79_33)) p126_40).2.1⟩) (by exact ⟨(sz_b (RK_n (r := 0) rb c37_6 (gt_n p86_37 c89_38)) p133_41).1, (sz_b (RK_n (r := 0) rb c37_6 (gt_n p86_37 c89_38)) p133_41).2.1⟩)) zyM_product (z_goodV ml_M_105 im_M_product se_M_product in_M co_M_product) 0 rfl rfl rfl rfl (by decide) rfl rfl (Nat.le_of_ble_eq_true rfl) ⟨Nat.zero_le _, Nat.zero_le _⟩ dM_multiply_136 (z_kv (fun w1 tys1 hp => ?_))
                obtain ⟨bits136_42, scale136_42, rfl, rfl, p136_42⟩ := hp
                refine z_aload_n (pc := 139) hZ 1 dM_multiply_139 rfl rfl ?_
                refine z_aload_n (pc := 140) hZ 1 dM_multiply_140 rfl rfl ?_
                refine z_get (pc := 141) (ci := 2) hZ 0 rfl rfl uc_M 12 (by decide) (zb fl_M_95) rfl dM_multiply_141 ?_
                refine z_aload_n (pc := 144) hZ 1 dM_multiply_144 rfl rfl ?_
                refine z_get (pc := 145) (ci := 2) hZ 0 rfl rfl uc_M 5 (by decide) (zb fl_M_57) rfl dM_multiply_145 ?_
                refine z_aload_n (pc := 148) hZ 1 dM_multiply_148 rfl rfl ?_
                refine z_get (pc := 149) (ci := 2) hZ 0 rfl rfl uc_M 8 (by decide) (zb fl_M_66) rfl dM_multiply_149 ?_
                refine z_iadd (pc := 152) hZ dM_multiply_152 (fun v152_43 ev152_43 => ?_)
                refine z_aload_n (pc := 153) hZ 1 dM_multiply_153 rfl rfl ?_
                refine z_get (pc := 154) (ci := 2) hZ 0 rfl rfl uc_M 13 (by decide) (zb fl_M_98) rfl dM_multiply_154 ?_
                refine z_iadd (pc := 157) hZ dM_multiply_157 (fun v157_44 ev157_44 => ?_)
                refine z_iload_n (pc := 158) hZ 0 dM_multiply_158 rfl rfl ?_
                refine z_if_ge (pc := 159) hZ 166 dM_multiply_159 (by decide) (fun c159_45 => ?_) (fun c159_45 => ?_)
                · refine z_iconst (pc := 166) hZ 0 dM_multiply_166 (by decide) ?_
                  refine z_callV (pc := 167) (As := [.long bits136_42, .int v157_44, .int 0]) (rest := []) hZ (cM_nearest l D cR c1 c2 c3 h0 a1 a2 a3 Y ka na ea kb nb eb k n e bits136_42 scale136_42 K N E bits136_42 v157_44 0 (by exact (p136_42).1.1) (by exact (p136_42).1.2) (by exact mu_e (RK_n (r := 0) ra c29_4 (gt_n p76_32 c79_33)) (RK_n (r := 0) rb c37_6 (gt_n p86_37 c89_38)) (p136_42).2 ev152_43 ev157_44)) zyM_nearest (z_goodV ml_M_43 im_M_nearest se_M_nearest in_M co_M_nearest) 0 rfl rfl rfl rfl (by decide) rfl rfl (Nat.le_of_ble_eq_true rfl) ⟨Nat.zero_le _, Nat.zero_le _⟩ dM_multiply_167 (z_kv (fun w1 tys1 hp => ?_))
                  obtain ⟨k167_46, n167_46, e167_46, rfl, rfl, p167_46⟩ := hp
                  exact z_retv (pc := 170) hZ dM_multiply_170 rfl ⟨rfl, _, _, _, _, _, rfl, rfl, (by first | exact (((p167_46).1)).1 | exact RK_of ((nokey_).1) | exact sp_RK (Or.inr (Or.inr rfl)) nokey_ | exact sp_RK (Or.inr (Or.inl rfl)) nokey_ | exact sp_RK (Or.inl rfl) nokey_)⟩
                · refine z_iconst (pc := 162) hZ 1 dM_multiply_162 (by decide) ?_
                  refine z_goto (pc := 163) hZ 167 dM_multiply_163 (by decide) ?_
                  refine z_callV (pc := 167) (As := [.long bits136_42, .int v157_44, .int 1]) (rest := []) hZ (cM_nearest l D cR c1 c2 c3 h0 a1 a2 a3 Y ka na ea kb nb eb k n e bits136_42 scale136_42 K N E bits136_42 v157_44 1 (by exact (p136_42).1.1) (by exact (p136_42).1.2) (by exact mu_e (RK_n (r := 0) ra c29_4 (gt_n p76_32 c79_33)) (RK_n (r := 0) rb c37_6 (gt_n p86_37 c89_38)) (p136_42).2 ev152_43 ev157_44)) zyM_nearest (z_goodV ml_M_43 im_M_nearest se_M_nearest in_M co_M_nearest) 0 rfl rfl rfl rfl (by decide) rfl rfl (Nat.le_of_ble_eq_true rfl) ⟨Nat.zero_le _, Nat.zero_le _⟩ dM_multiply_167 (z_kv (fun w1 tys1 hp => ?_))
                  obtain ⟨k167_47, n167_47, e167_47, rfl, rfl, p167_47⟩ := hp
                  exact z_retv (pc := 170) hZ dM_multiply_170 rfl ⟨rfl, _, _, _, _, _, rfl, rfl, (by first | exact (((p167_47).1)).1 | exact RK_of ((nokey_).1) | exact sp_RK (Or.inr (Or.inr rfl)) nokey_ | exact sp_RK (Or.inr (Or.inl rfl)) nokey_ | exact sp_RK (Or.inl rfl) nokey_)⟩
              · refine z_aload_n (pc := 112) hZ 1 dM_multiply_112 rfl rfl ?_
                refine z_lconst (pc := 113) hZ 0 dM_multiply_113 (by decide) ?_
                refine z_iconst (pc := 114) hZ 0 dM_multiply_114 (by decide) ?_
                refine z_callV (pc := 115) (As := [.long 0, .int 0]) (rest := []) hZ (cM_plain l D cR c1 c2 c3 h0 a1 a2 a3 Y ka na ea kb nb eb k n e bits scale K N E 0 0 (by exact Or.inl rfl)) zyM_plain (z_goodV ml_M_31 im_M_plain se_M_plain in_M co_M_plain) 0 rfl rfl rfl rfl (by decide) rfl rfl (Nat.le_of_ble_eq_true rfl) ⟨Nat.zero_le _, Nat.zero_le _⟩ dM_multiply_115 (z_kv (fun w1 tys1 hp => ?_))
                obtain ⟨k115_48, n115_48, e115_48, rfl, rfl, p115_48⟩ := hp
                refine z_goto (pc := 118) hZ 170 dM_multiply_118 (by decide) ?_
                exact z_retv (pc := 170) hZ dM_multiply_170 rfl ⟨rfl, _, _, _, _, _, rfl, rfl, (by first | exact (((nokey_).1)).1 | exact RK_of ((p115_48).1) | exact sp_RK (Or.inr (Or.inr rfl)) nokey_ | exact sp_RK (Or.inr (Or.inl rfl)) nokey_ | exact sp_RK (Or.inl rfl) nokey_)⟩
            · refine z_aload_n (pc := 92) hZ 1 dM_multiply_92 rfl rfl ?_
              refine z_iload_n (pc := 93) hZ 0 dM_multiply_93 rfl rfl ?_
              refine z_if_ge (pc := 94) hZ 101 dM_multiply_94 (by decide) (fun c94_49 => ?_) (fun c94_49 => ?_)
              · refine z_iconst (pc := 101) hZ 3 dM_multiply_101 (by decide) ?_
                refine z_callV (pc := 102) (As := [.int 3]) (rest := []) hZ (cM_setSpecial l D cR c1 c2 c3 h0 a1 a2 a3 Y ka na ea kb nb eb k n e bits scale K N E 3) zyM_setSpecial (z_goodV ml_M_35 im_M_setSpecial se_M_setSpecial in_M co_M_setSpecial) 0 rfl rfl rfl rfl (by decide) rfl rfl (Nat.le_of_ble_eq_true rfl) ⟨Nat.zero_le _, Nat.zero_le _⟩ dM_multiply_102 (z_kv (fun w1 tys1 hp => ?_))
                obtain ⟨k102_50, n102_50, e102_50, rfl, rfl, p102_50⟩ := hp
                refine z_goto (pc := 105) hZ 170 dM_multiply_105 (by decide) ?_
                exact z_retv (pc := 170) hZ dM_multiply_170 rfl ⟨rfl, _, _, _, _, _, rfl, rfl, (by first | exact (((nokey_).1)).1 | exact RK_of ((nokey_).1) | exact sp_RK (Or.inr (Or.inr rfl)) nokey_ | exact sp_RK (Or.inr (Or.inl rfl)) p102_50 | exact sp_RK (Or.inl rfl) p102_50)⟩
              · refine z_iconst (pc := 97) hZ 4 dM_multiply_97 (by decide) ?_
                refine z_goto (pc := 98) hZ 102 dM_multiply_98 (by decide) ?_
                refine z_callV (pc := 102) (As := [.int 4]) (rest := []) hZ (cM_setSpecial l D cR c1 c2 c3 h0 a1 a2 a3 Y ka na ea kb nb eb k n e bits scale K N E 4) zyM_setSpecial (z_goodV ml_M_35 im_M_setSpecial se_M_setSpecial in_M co_M_setSpecial) 0 rfl rfl rfl rfl (by decide) rfl rfl (Nat.le_of_ble_eq_true rfl) ⟨Nat.zero_le _, Nat.zero_le _⟩ dM_multiply_102 (z_kv (fun w1 tys1 hp => ?_))
                obtain ⟨k102_51, n102_51, e102_51, rfl, rfl, p102_51⟩ := hp
                refine z_goto (pc := 105) hZ 170 dM_multiply_105 (by decide) ?_
                exact z_retv (pc := 170) hZ dM_multiply_170 rfl ⟨rfl, _, _, _, _, _, rfl, rfl, (by first | exact (((nokey_).1)).1 | exact RK_of ((nokey_).1) | exact sp_RK (Or.inr (Or.inr rfl)) nokey_ | exact sp_RK (Or.inr (Or.inl rfl)) p102_51 | exact sp_RK (Or.inl rfl) p102_51)⟩
        · refine z_iload_n (pc := 60) hZ 0 dM_multiply_60 rfl rfl ?_
          refine z_if_ne (pc := 61) hZ 72 dM_multiply_61 (by decide) (fun c61_52 => ?_) (fun c61_52 => ?_)
          · refine z_aload_n (pc := 72) hZ 1 dM_multiply_72 rfl rfl ?_
            refine z_get (pc := 73) (ci := 2) hZ 0 rfl rfl uc_M 3 (by decide) (zb fl_M_51) rfl dM_multiply_73 ?_
            refine z_callS (pc := 76) (As := [.int ka]) (rest := []) hZ (cM_isGreat l D (TY cR c1 c2 c3) (MW h0 a1 a2 a3 c1 c2 c3 (ka, na, ea, kb, nb, eb, k, n, e, bits, scale, K, N, E) ++ Y) ka) zyM_isGreat (z_goodS ml_M_86 st_M_isGreat in_M co_M_isGreat) rfl rfl (by decide) rfl rfl (Nat.le_of_ble_eq_true rfl) ⟨Nat.zero_le _, Nat.zero_le _⟩ dM_multiply_76 (z_ki (fun r76_53 w1 tys1 hp => ?_))
            obtain ⟨rfl, rfl, p76_53⟩ := hp
            refine z_if_ne (pc := 79) hZ 92 dM_multiply_79 (by decide) (fun c79_54 => ?_) (fun c79_54 => ?_)
            · refine z_aload_n (pc := 92) hZ 1 dM_multiply_92 rfl rfl ?_
              refine z_iload_n (pc := 93) hZ 0 dM_multiply_93 rfl rfl ?_
              refine z_if_ge (pc := 94) hZ 101 dM_multiply_94 (by decide) (fun c94_55 => ?_) (fun c94_55 => ?_)
              · refine z_iconst (pc := 101) hZ 3 dM_multiply_101 (by decide) ?_
                refine z_callV (pc := 102) (As := [.int 3]) (rest := []) hZ (cM_setSpecial l D cR c1 c2 c3 h0 a1 a2 a3 Y ka na ea kb nb eb k n e bits scale K N E 3) zyM_setSpecial (z_goodV ml_M_35 im_M_setSpecial se_M_setSpecial in_M co_M_setSpecial) 0 rfl rfl rfl rfl (by decide) rfl rfl (Nat.le_of_ble_eq_true rfl) ⟨Nat.zero_le _, Nat.zero_le _⟩ dM_multiply_102 (z_kv (fun w1 tys1 hp => ?_))
                obtain ⟨k102_56, n102_56, e102_56, rfl, rfl, p102_56⟩ := hp
                refine z_goto (pc := 105) hZ 170 dM_multiply_105 (by decide) ?_
                exact z_retv (pc := 170) hZ dM_multiply_170 rfl ⟨rfl, _, _, _, _, _, rfl, rfl, (by first | exact (((nokey_).1)).1 | exact RK_of ((nokey_).1) | exact sp_RK (Or.inr (Or.inr rfl)) nokey_ | exact sp_RK (Or.inr (Or.inl rfl)) p102_56 | exact sp_RK (Or.inl rfl) p102_56)⟩
              · refine z_iconst (pc := 97) hZ 4 dM_multiply_97 (by decide) ?_
                refine z_goto (pc := 98) hZ 102 dM_multiply_98 (by decide) ?_
                refine z_callV (pc := 102) (As := [.int 4]) (rest := []) hZ (cM_setSpecial l D cR c1 c2 c3 h0 a1 a2 a3 Y ka na ea kb nb eb k n e bits scale K N E 4) zyM_setSpecial (z_goodV ml_M_35 im_M_setSpecial se_M_setSpecial in_M co_M_setSpecial) 0 rfl rfl rfl rfl (by decide) rfl rfl (Nat.le_of_ble_eq_true rfl) ⟨Nat.zero_le _, Nat.zero_le _⟩ dM_multiply_102 (z_kv (fun w1 tys1 hp => ?_))
                obtain ⟨k102_57, n102_57, e102_57, rfl, rfl, p102_57⟩ := hp
                refine z_goto (pc := 105) hZ 170 dM_multiply_105 (by decide) ?_
                exact z_retv (pc := 170) hZ dM_multiply_170 rfl ⟨rfl, _, _, _, _, _, rfl, rfl, (by first | exact (((nokey_).1)).1 | exact RK_of ((nokey_).1) | exact sp_RK (Or.inr (Or.inr rfl)) nokey_ | exact sp_RK (Or.inr (Or.inl rfl)) p102_57 | exact sp_RK (Or.inl rfl) p102_57)⟩
            · refine z_aload_n (pc := 82) hZ 1 dM_multiply_82 rfl rfl ?_
              refine z_get (pc := 83) (ci := 2) hZ 0 rfl rfl uc_M 6 (by decide) (zb fl_M_60) rfl dM_multiply_83 ?_
              refine z_callS (pc := 86) (As := [.int kb]) (rest := []) hZ (cM_isGreat l D (TY cR c1 c2 c3) (MW h0 a1 a2 a3 c1 c2 c3 (ka, na, ea, kb, nb, eb, k, n, e, bits, scale, K, N, E) ++ Y) kb) zyM_isGreat (z_goodS ml_M_86 st_M_isGreat in_M co_M_isGreat) rfl rfl (by decide) rfl rfl (Nat.le_of_ble_eq_true rfl) ⟨Nat.zero_le _, Nat.zero_le _⟩ dM_multiply_86 (z_ki (fun r86_58 w1 tys1 hp => ?_))
              obtain ⟨rfl, rfl, p86_58⟩ := hp
              refine z_if_eq (pc := 89) hZ 108 dM_multiply_89 (by decide) (fun c89_59 => ?_) (fun c89_59 => ?_)
              · refine z_iload_n (pc := 108) hZ 0 dM_multiply_108 rfl rfl ?_
                refine z_if_ne (pc := 109) hZ 121 dM_multiply_109 (by decide) (fun c109 => ?_) (fun c9 => False.elim (by first | exact absurd c9 c61_52 | exact absurd c61_52 c9 | exact absurd c9 (Int32.not_lt.mpr c61_52) | exact absurd c9 (Int32.not_le.mpr c61_52) | exact c9 ((Int32.not_lt).mp c61_52) | exact c9 ((Int32.not_le).mp c61_52)))
                refine z_aload_n (pc := 121) hZ 1 dM_multiply_121 rfl rfl ?_
                refine z_aload_n (pc := 122) hZ 1 dM_multiply_122 rfl rfl ?_
                refine z_get (pc := 123) (ci := 2) hZ 0 rfl rfl uc_M 4 (by decide) (zb fl_M_54) rfl dM_multiply_123 ?_
                refine z_callS (pc := 126) (As := [.long na]) (rest := [.ref h0]) hZ (cM_size l D (TY cR c1 c2 c3) (MW h0 a1 a2 a3 c1 c2 c3 (ka, na, ea, kb, nb, eb, k, n, e, bits, scale, K, N, E) ++ Y) na) zyM_size (z_goodS ml_M_47 st_M_size in_M co_M_size) rfl rfl (by decide) rfl rfl (Nat.le_of_ble_eq_true rfl) ⟨Nat.zero_le _, Nat.zero_le _⟩ dM_multiply_126 (z_kl (fun r126_60 w1 tys1 hp => ?_))
                obtain ⟨rfl, rfl, p126_60⟩ := hp
                refine z_aload_n (pc := 129) hZ 1 dM_multiply_129 rfl rfl ?_
                refine z_get (pc := 130) (ci := 2) hZ 0 rfl rfl uc_M 7 (by decide) (zb fl_M_63) rfl dM_multiply_130 ?_
                refine z_callS (pc := 133) (As := [.long nb]) (rest := [.long r126_60, .ref h0]) hZ (cM_size l D (TY cR c1 c2 c3) (MW h0 a1 a2 a3 c1 c2 c3 (ka, na, ea, kb, nb, eb, k, n, e, bits, scale, K, N, E) ++ Y) nb) zyM_size (z_goodS ml_M_47 st_M_size in_M co_M_size) rfl rfl (by decide) rfl rfl (Nat.le_of_ble_eq_true rfl) ⟨Nat.zero_le _, Nat.zero_le _⟩ dM_multiply_133 (z_kl (fun r133_61 w1 tys1 hp => ?_))
                obtain ⟨rfl, rfl, p133_61⟩ := hp
                refine z_callV (pc := 136) (As := [.long r126_60, .long r133_61]) (rest := []) hZ (cM_product l D cR c1 c2 c3 h0 a1 a2 a3 Y ka na ea kb nb eb k n e bits scale K N E r126_60 r133_61 (by exact ⟨(sz_b (RK_n (r := 0) ra c29_4 (gt_n p76_53 c79_54)) p126_60).1, (sz_b (RK_n (r := 0) ra c29_4 (gt_n p76_53 c79_54)) p126_60).2.1⟩) (by exact ⟨(sz_b (RK_n (r := 0) rb c37_6 (gt_n p86_58 c89_59)) p133_61).1, (sz_b (RK_n (r := 0) rb c37_6 (gt_n p86_58 c89_59)) p133_61).2.1⟩)) zyM_product (z_goodV ml_M_105 im_M_product se_M_product in_M co_M_product) 0 rfl rfl rfl rfl (by decide) rfl rfl (Nat.le_of_ble_eq_true rfl) ⟨Nat.zero_le _, Nat.zero_le _⟩ dM_multiply_136 (z_kv (fun w1 tys1 hp => ?_))
                obtain ⟨bits136_62, scale136_62, rfl, rfl, p136_62⟩ := hp
                refine z_aload_n (pc := 139) hZ 1 dM_multiply_139 rfl rfl ?_
                refine z_aload_n (pc := 140) hZ 1 dM_multiply_140 rfl rfl ?_
                refine z_get (pc := 141) (ci := 2) hZ 0 rfl rfl uc_M 12 (by decide) (zb fl_M_95) rfl dM_multiply_141 ?_
                refine z_aload_n (pc := 144) hZ 1 dM_multiply_144 rfl rfl ?_
                refine z_get (pc := 145) (ci := 2) hZ 0 rfl rfl uc_M 5 (by decide) (zb fl_M_57) rfl dM_multiply_145 ?_
                refine z_aload_n (pc := 148) hZ 1 dM_multiply_148 rfl rfl ?_
                refine z_get (pc := 149) (ci := 2) hZ 0 rfl rfl uc_M 8 (by decide) (zb fl_M_66) rfl dM_multiply_149 ?_
                refine z_iadd (pc := 152) hZ dM_multiply_152 (fun v152_63 ev152_63 => ?_)
                refine z_aload_n (pc := 153) hZ 1 dM_multiply_153 rfl rfl ?_
                refine z_get (pc := 154) (ci := 2) hZ 0 rfl rfl uc_M 13 (by decide) (zb fl_M_98) rfl dM_multiply_154 ?_
                refine z_iadd (pc := 157) hZ dM_multiply_157 (fun v157_64 ev157_64 => ?_)
                refine z_iload_n (pc := 158) hZ 0 dM_multiply_158 rfl rfl ?_
                refine z_if_ge (pc := 159) hZ 166 dM_multiply_159 (by decide) (fun c159_65 => ?_) (fun c159_65 => ?_)
                · refine z_iconst (pc := 166) hZ 0 dM_multiply_166 (by decide) ?_
                  refine z_callV (pc := 167) (As := [.long bits136_62, .int v157_64, .int 0]) (rest := []) hZ (cM_nearest l D cR c1 c2 c3 h0 a1 a2 a3 Y ka na ea kb nb eb k n e bits136_62 scale136_62 K N E bits136_62 v157_64 0 (by exact (p136_62).1.1) (by exact (p136_62).1.2) (by exact mu_e (RK_n (r := 0) ra c29_4 (gt_n p76_53 c79_54)) (RK_n (r := 0) rb c37_6 (gt_n p86_58 c89_59)) (p136_62).2 ev152_63 ev157_64)) zyM_nearest (z_goodV ml_M_43 im_M_nearest se_M_nearest in_M co_M_nearest) 0 rfl rfl rfl rfl (by decide) rfl rfl (Nat.le_of_ble_eq_true rfl) ⟨Nat.zero_le _, Nat.zero_le _⟩ dM_multiply_167 (z_kv (fun w1 tys1 hp => ?_))
                  obtain ⟨k167_66, n167_66, e167_66, rfl, rfl, p167_66⟩ := hp
                  exact z_retv (pc := 170) hZ dM_multiply_170 rfl ⟨rfl, _, _, _, _, _, rfl, rfl, (by first | exact (((p167_66).1)).1 | exact RK_of ((nokey_).1) | exact sp_RK (Or.inr (Or.inr rfl)) nokey_ | exact sp_RK (Or.inr (Or.inl rfl)) nokey_ | exact sp_RK (Or.inl rfl) nokey_)⟩
                · refine z_iconst (pc := 162) hZ 1 dM_multiply_162 (by decide) ?_
                  refine z_goto (pc := 163) hZ 167 dM_multiply_163 (by decide) ?_
                  refine z_callV (pc := 167) (As := [.long bits136_62, .int v157_64, .int 1]) (rest := []) hZ (cM_nearest l D cR c1 c2 c3 h0 a1 a2 a3 Y ka na ea kb nb eb k n e bits136_62 scale136_62 K N E bits136_62 v157_64 1 (by exact (p136_62).1.1) (by exact (p136_62).1.2) (by exact mu_e (RK_n (r := 0) ra c29_4 (gt_n p76_53 c79_54)) (RK_n (r := 0) rb c37_6 (gt_n p86_58 c89_59)) (p136_62).2 ev152_63 ev157_64)) zyM_nearest (z_goodV ml_M_43 im_M_nearest se_M_nearest in_M co_M_nearest) 0 rfl rfl rfl rfl (by decide) rfl rfl (Nat.le_of_ble_eq_true rfl) ⟨Nat.zero_le _, Nat.zero_le _⟩ dM_multiply_167 (z_kv (fun w1 tys1 hp => ?_))
                  obtain ⟨k167_67, n167_67, e167_67, rfl, rfl, p167_67⟩ := hp
                  exact z_retv (pc := 170) hZ dM_multiply_170 rfl ⟨rfl, _, _, _, _, _, rfl, rfl, (by first | exact (((p167_67).1)).1 | exact RK_of ((nokey_).1) | exact sp_RK (Or.inr (Or.inr rfl)) nokey_ | exact sp_RK (Or.inr (Or.inl rfl)) nokey_ | exact sp_RK (Or.inl rfl) nokey_)⟩
              · refine z_aload_n (pc := 92) hZ 1 dM_multiply_92 rfl rfl ?_
                refine z_iload_n (pc := 93) hZ 0 dM_multiply_93 rfl rfl ?_
                refine z_if_ge (pc := 94) hZ 101 dM_multiply_94 (by decide) (fun c94_68 => ?_) (fun c94_68 => ?_)
                · refine z_iconst (pc := 101) hZ 3 dM_multiply_101 (by decide) ?_
                  refine z_callV (pc := 102) (As := [.int 3]) (rest := []) hZ (cM_setSpecial l D cR c1 c2 c3 h0 a1 a2 a3 Y ka na ea kb nb eb k n e bits scale K N E 3) zyM_setSpecial (z_goodV ml_M_35 im_M_setSpecial se_M_setSpecial in_M co_M_setSpecial) 0 rfl rfl rfl rfl (by decide) rfl rfl (Nat.le_of_ble_eq_true rfl) ⟨Nat.zero_le _, Nat.zero_le _⟩ dM_multiply_102 (z_kv (fun w1 tys1 hp => ?_))
                  obtain ⟨k102_69, n102_69, e102_69, rfl, rfl, p102_69⟩ := hp
                  refine z_goto (pc := 105) hZ 170 dM_multiply_105 (by decide) ?_
                  exact z_retv (pc := 170) hZ dM_multiply_170 rfl ⟨rfl, _, _, _, _, _, rfl, rfl, (by first | exact (((nokey_).1)).1 | exact RK_of ((nokey_).1) | exact sp_RK (Or.inr (Or.inr rfl)) nokey_ | exact sp_RK (Or.inr (Or.inl rfl)) p102_69 | exact sp_RK (Or.inl rfl) p102_69)⟩
                · refine z_iconst (pc := 97) hZ 4 dM_multiply_97 (by decide) ?_
                  refine z_goto (pc := 98) hZ 102 dM_multiply_98 (by decide) ?_
                  refine z_callV (pc := 102) (As := [.int 4]) (rest := []) hZ (cM_setSpecial l D cR c1 c2 c3 h0 a1 a2 a3 Y ka na ea kb nb eb k n e bits scale K N E 4) zyM_setSpecial (z_goodV ml_M_35 im_M_setSpecial se_M_setSpecial in_M co_M_setSpecial) 0 rfl rfl rfl rfl (by decide) rfl rfl (Nat.le_of_ble_eq_true rfl) ⟨Nat.zero_le _, Nat.zero_le _⟩ dM_multiply_102 (z_kv (fun w1 tys1 hp => ?_))
                  obtain ⟨k102_70, n102_70, e102_70, rfl, rfl, p102_70⟩ := hp
                  refine z_goto (pc := 105) hZ 170 dM_multiply_105 (by decide) ?_
                  exact z_retv (pc := 170) hZ dM_multiply_170 rfl ⟨rfl, _, _, _, _, _, rfl, rfl, (by first | exact (((nokey_).1)).1 | exact RK_of ((nokey_).1) | exact sp_RK (Or.inr (Or.inr rfl)) nokey_ | exact sp_RK (Or.inr (Or.inl rfl)) p102_70 | exact sp_RK (Or.inl rfl) p102_70)⟩
          · refine z_aload_n (pc := 64) hZ 1 dM_multiply_64 rfl rfl ?_
            refine z_iconst (pc := 65) hZ 5 dM_multiply_65 (by decide) ?_
            refine z_callV (pc := 66) (As := [.int 5]) (rest := []) hZ (cM_setSpecial l D cR c1 c2 c3 h0 a1 a2 a3 Y ka na ea kb nb eb k n e bits scale K N E 5) zyM_setSpecial (z_goodV ml_M_35 im_M_setSpecial se_M_setSpecial in_M co_M_setSpecial) 0 rfl rfl rfl rfl (by decide) rfl rfl (Nat.le_of_ble_eq_true rfl) ⟨Nat.zero_le _, Nat.zero_le _⟩ dM_multiply_66 (z_kv (fun w1 tys1 hp => ?_))
            obtain ⟨k66_71, n66_71, e66_71, rfl, rfl, p66_71⟩ := hp
            refine z_goto (pc := 69) hZ 170 dM_multiply_69 (by decide) ?_
            exact z_retv (pc := 170) hZ dM_multiply_170 rfl ⟨rfl, _, _, _, _, _, rfl, rfl, (by first | exact (((nokey_).1)).1 | exact RK_of ((nokey_).1) | exact sp_RK (Or.inr (Or.inr rfl)) p66_71 | exact sp_RK (Or.inr (Or.inl rfl)) nokey_ | exact sp_RK (Or.inl rfl) nokey_)⟩
set_option maxHeartbeats 4000000 in
set_option maxRecDepth 100000 in
theorem cM_divide (l : Launch) (D : va_G) (cR c1 c2 c3 : ClassId) (h0 a1 a2 a3 : Nat) (Y : va_W) (ka : Int32) (na : Int64) (ea : Int32) (kb : Int32) (nb : Int64) (eb : Int32) (k : Int32) (n : Int64) (e : Int32) (bits : Int64) (scale : Int32) (K : Nat → Int32) (N : Nat → Int64) (E : Nat → Int32) (ra : RK ka na ea) (rb : RK kb nb eb) : zM l D vwCl zNF zNM yM_divide wsM_divide { frames := 2, cells := 0, slots := 0, locals := 57 } [.ref h0] (MW h0 a1 a2 a3 c1 c2 c3 (ka, na, ea, kb, nb, eb, k, n, e, bits, scale, K, N, E) ++ Y) (TY cR c1 c2 c3) (qV (fun w' tys' => ∃ k' : Int32, ∃ n' : Int64, ∃ e' : Int32, ∃ bits' : Int64, ∃ scale' : Int32, MW h0 a1 a2 a3 c1 c2 c3 (ka, na, ea, kb, nb, eb, k', n', e', bits', scale', K, N, E) ++ Y = w' ∧ (TY cR c1 c2 c3) = tys' ∧ (RK k' n' e'))) := by
  refine z_met (cc := bM_divide) (maxL := 3) (ret := none) (isI := false) (own := RM) (by decide +kernel) rfl rfl (fun h => by cases h) (Nat.le_of_ble_eq_true rfl) (fun Z hZ => ?_)
  show Z 0 0 (TY cR c1 c2 c3) 0 [(0, .ref h0)] [] (MW h0 a1 a2 a3 c1 c2 c3 (ka, na, ea, kb, nb, eb, k, n, e, bits, scale, K, N, E) ++ Y)
  refine z_aload_n (pc := 0) hZ 0 dM_divide_0 rfl rfl ?_
  refine z_get (pc := 1) (ci := 2) hZ 0 rfl rfl uc_M 3 (by decide) (zb fl_M_51) rfl dM_divide_1 ?_
  refine z_aload_n (pc := 4) hZ 0 dM_divide_4 rfl rfl ?_
  refine z_get (pc := 5) (ci := 2) hZ 0 rfl rfl uc_M 4 (by decide) (zb fl_M_54) rfl dM_divide_5 ?_
  refine z_callS (pc := 8) (As := [.int ka, .long na]) (rest := []) hZ (cM_signOf l D (TY cR c1 c2 c3) (MW h0 a1 a2 a3 c1 c2 c3 (ka, na, ea, kb, nb, eb, k, n, e, bits, scale, K, N, E) ++ Y) ka na) zyM_signOf (z_goodS ml_M_101 st_M_signOf in_M co_M_signOf) rfl rfl (by decide) rfl rfl (Nat.le_of_ble_eq_true rfl) ⟨Nat.zero_le _, Nat.zero_le _⟩ dM_divide_8 (z_ki (fun r8_1 w1 tys1 hp => ?_))
  obtain ⟨rfl, rfl, p8_1⟩ := hp
  refine z_istore_n (pc := 11) hZ [(1, .int r8_1), (0, .ref h0)] dM_divide_11 rfl (by decide) rfl ?_
  refine z_aload_n (pc := 12) hZ 1 dM_divide_12 rfl rfl ?_
  refine z_get (pc := 13) (ci := 2) hZ 0 rfl rfl uc_M 6 (by decide) (zb fl_M_60) rfl dM_divide_13 ?_
  refine z_aload_n (pc := 16) hZ 1 dM_divide_16 rfl rfl ?_
  refine z_get (pc := 17) (ci := 2) hZ 0 rfl rfl uc_M 7 (by decide) (zb fl_M_63) rfl dM_divide_17 ?_
  refine z_callS (pc := 20) (As := [.int kb, .long nb]) (rest := []) hZ (cM_signOf l D (TY cR c1 c2 c3) (MW h0 a1 a2 a3 c1 c2 c3 (ka, na, ea, kb, nb, eb, k, n, e, bits, scale, K, N, E) ++ Y) kb nb) zyM_signOf (z_goodS ml_M_101 st_M_signOf in_M co_M_signOf) rfl rfl (by decide) rfl rfl (Nat.le_of_ble_eq_true rfl) ⟨Nat.zero_le _, Nat.zero_le _⟩ dM_divide_20 (z_ki (fun r20_2 w1 tys1 hp => ?_))
  obtain ⟨rfl, rfl, p20_2⟩ := hp
  refine z_istore_n (pc := 23) hZ [(2, .int r20_2), (1, .int r8_1), (0, .ref h0)] dM_divide_23 rfl (by decide) rfl ?_
  refine z_aload_n (pc := 24) hZ 2 dM_divide_24 rfl rfl ?_
  refine z_get (pc := 25) (ci := 2) hZ 0 rfl rfl uc_M 3 (by decide) (zb fl_M_51) rfl dM_divide_25 ?_
  refine z_iconst (pc := 28) hZ 5 dM_divide_28 (by decide) ?_
  refine z_icmp_eq (pc := 29) hZ 68 dM_divide_29 (by decide) (fun c29_3 => ?_) (fun c29_3 => ?_)
  · refine z_aload_n (pc := 68) hZ 2 dM_divide_68 rfl rfl ?_
    refine z_iconst (pc := 69) hZ 5 dM_divide_69 (by decide) ?_
    refine z_callV (pc := 70) (As := [.int 5]) (rest := []) hZ (cM_setSpecial l D cR c1 c2 c3 h0 a1 a2 a3 Y ka na ea kb nb eb k n e bits scale K N E 5) zyM_setSpecial (z_goodV ml_M_35 im_M_setSpecial se_M_setSpecial in_M co_M_setSpecial) 0 rfl rfl rfl rfl (by decide) rfl rfl (Nat.le_of_ble_eq_true rfl) ⟨Nat.zero_le _, Nat.zero_le _⟩ dM_divide_70 (z_kv (fun w1 tys1 hp => ?_))
    obtain ⟨k70_4, n70_4, e70_4, rfl, rfl, p70_4⟩ := hp
    refine z_goto (pc := 73) hZ 218 dM_divide_73 (by decide) ?_
    exact z_retv (pc := 218) hZ dM_divide_218 rfl ⟨rfl, _, _, _, _, _, rfl, rfl, (by first | exact (((nokey_).1)).1 | exact RK_of ((nokey_).1) | exact RK_of ((nokey_).1) | exact sp_RK (Or.inr (Or.inr rfl)) p70_4 | exact sp_gt nokey_ nokey_ nokey_ | exact sp_RK (Or.inr (Or.inl rfl)) nokey_ | exact sp_RK (Or.inl rfl) nokey_ | exact sp_RK (Or.inr (Or.inl rfl)) nokey_ | exact sp_RK (Or.inl rfl) nokey_)⟩
  · refine z_aload_n (pc := 32) hZ 2 dM_divide_32 rfl rfl ?_
    refine z_get (pc := 33) (ci := 2) hZ 0 rfl rfl uc_M 6 (by decide) (zb fl_M_60) rfl dM_divide_33 ?_
    refine z_iconst (pc := 36) hZ 5 dM_divide_36 (by decide) ?_
    refine z_icmp_eq (pc := 37) hZ 68 dM_divide_37 (by decide) (fun c37_5 => ?_) (fun c37_5 => ?_)
    · refine z_aload_n (pc := 68) hZ 2 dM_divide_68 rfl rfl ?_
      refine z_iconst (pc := 69) hZ 5 dM_divide_69 (by decide) ?_
      refine z_callV (pc := 70) (As := [.int 5]) (rest := []) hZ (cM_setSpecial l D cR c1 c2 c3 h0 a1 a2 a3 Y ka na ea kb nb eb k n e bits scale K N E 5) zyM_setSpecial (z_goodV ml_M_35 im_M_setSpecial se_M_setSpecial in_M co_M_setSpecial) 0 rfl rfl rfl rfl (by decide) rfl rfl (Nat.le_of_ble_eq_true rfl) ⟨Nat.zero_le _, Nat.zero_le _⟩ dM_divide_70 (z_kv (fun w1 tys1 hp => ?_))
      obtain ⟨k70_6, n70_6, e70_6, rfl, rfl, p70_6⟩ := hp
      refine z_goto (pc := 73) hZ 218 dM_divide_73 (by decide) ?_
      exact z_retv (pc := 218) hZ dM_divide_218 rfl ⟨rfl, _, _, _, _, _, rfl, rfl, (by first | exact (((nokey_).1)).1 | exact RK_of ((nokey_).1) | exact RK_of ((nokey_).1) | exact sp_RK (Or.inr (Or.inr rfl)) p70_6 | exact sp_gt nokey_ nokey_ nokey_ | exact sp_RK (Or.inr (Or.inl rfl)) nokey_ | exact sp_RK (Or.inl rfl) nokey_ | exact sp_RK (Or.inr (Or.inl rfl)) nokey_ | exact sp_RK (Or.inl rfl) nokey_)⟩
    · refine z_aload_n (pc := 40) hZ 2 dM_divide_40 rfl rfl ?_
      refine z_get (pc := 41) (ci := 2) hZ 0 rfl rfl uc_M 3 (by decide) (zb fl_M_51) rfl dM_divide_41 ?_
      refine z_callS (pc := 44) (As := [.int ka]) (rest := []) hZ (cM_isGreat l D (TY cR c1 c2 c3) (MW h0 a1 a2 a3 c1 c2 c3 (ka, na, ea, kb, nb, eb, k, n, e, bits, scale, K, N, E) ++ Y) ka) zyM_isGreat (z_goodS ml_M_86 st_M_isGreat in_M co_M_isGreat) rfl rfl (by decide) rfl rfl (Nat.le_of_ble_eq_true rfl) ⟨Nat.zero_le _, Nat.zero_le _⟩ dM_divide_44 (z_ki (fun r44_7 w1 tys1 hp => ?_))
      obtain ⟨rfl, rfl, p44_7⟩ := hp
      refine z_if_eq (pc := 47) hZ 60 dM_divide_47 (by decide) (fun c47_8 => ?_) (fun c47_8 => ?_)
      · refine z_iload_n (pc := 60) hZ 1 dM_divide_60 rfl rfl ?_
        refine z_if_ne (pc := 61) hZ 76 dM_divide_61 (by decide) (fun c61_9 => ?_) (fun c61_9 => ?_)
        · refine z_aload_n (pc := 76) hZ 2 dM_divide_76 rfl rfl ?_
          refine z_get (pc := 77) (ci := 2) hZ 0 rfl rfl uc_M 6 (by decide) (zb fl_M_60) rfl dM_divide_77 ?_
          refine z_callS (pc := 80) (As := [.int kb]) (rest := []) hZ (cM_isGreat l D (TY cR c1 c2 c3) (MW h0 a1 a2 a3 c1 c2 c3 (ka, na, ea, kb, nb, eb, k, n, e, bits, scale, K, N, E) ++ Y) kb) zyM_isGreat (z_goodS ml_M_86 st_M_isGreat in_M co_M_isGreat) rfl rfl (by decide) rfl rfl (Nat.le_of_ble_eq_true rfl) ⟨Nat.zero_le _, Nat.zero_le _⟩ dM_divide_80 (z_ki (fun r80_10 w1 tys1 hp => ?_))
          obtain ⟨rfl, rfl, p80_10⟩ := hp
          refine z_if_eq (pc := 83) hZ 95 dM_divide_83 (by decide) (fun c83_11 => ?_) (fun c83_11 => ?_)
          · refine z_aload_n (pc := 95) hZ 2 dM_divide_95 rfl rfl ?_
            refine z_get (pc := 96) (ci := 2) hZ 0 rfl rfl uc_M 3 (by decide) (zb fl_M_51) rfl dM_divide_96 ?_
            refine z_callS (pc := 99) (As := [.int ka]) (rest := []) hZ (cM_isGreat l D (TY cR c1 c2 c3) (MW h0 a1 a2 a3 c1 c2 c3 (ka, na, ea, kb, nb, eb, k, n, e, bits, scale, K, N, E) ++ Y) ka) zyM_isGreat (z_goodS ml_M_86 st_M_isGreat in_M co_M_isGreat) rfl rfl (by decide) rfl rfl (Nat.le_of_ble_eq_true rfl) ⟨Nat.zero_le _, Nat.zero_le _⟩ dM_divide_99 (z_ki (fun r99_12 w1 tys1 hp => ?_))
            obtain ⟨rfl, rfl, p99_12⟩ := hp
            refine z_if_eq (pc := 102) hZ 134 dM_divide_102 (by decide) (fun c102_13 => ?_) (fun c102_13 => ?_)
            · refine z_iload_n (pc := 134) hZ 0 dM_divide_134 rfl rfl ?_
              refine z_if_ne (pc := 135) hZ 154 dM_divide_135 (by decide) (fun c135_14 => ?_) (fun c135_14 => ?_)
              · refine z_iload_n (pc := 154) hZ 1 dM_divide_154 rfl rfl ?_
                refine z_if_ne (pc := 155) hZ 167 dM_divide_155 (by decide) (fun c155 => ?_) (fun c9 => False.elim (by first | exact absurd c9 c61_9 | exact absurd c61_9 c9 | exact absurd c9 (Int32.not_lt.mpr c61_9) | exact absurd c9 (Int32.not_le.mpr c61_9) | exact c9 ((Int32.not_lt).mp c61_9) | exact c9 ((Int32.not_le).mp c61_9)))
                refine z_aload_n (pc := 167) hZ 2 dM_divide_167 rfl rfl ?_
                refine z_aload_n (pc := 168) hZ 2 dM_divide_168 rfl rfl ?_
                refine z_get (pc := 169) (ci := 2) hZ 0 rfl rfl uc_M 4 (by decide) (zb fl_M_54) rfl dM_divide_169 ?_
                refine z_callS (pc := 172) (As := [.long na]) (rest := [.ref h0]) hZ (cM_size l D (TY cR c1 c2 c3) (MW h0 a1 a2 a3 c1 c2 c3 (ka, na, ea, kb, nb, eb, k, n, e, bits, scale, K, N, E) ++ Y) na) zyM_size (z_goodS ml_M_47 st_M_size in_M co_M_size) rfl rfl (by decide) rfl rfl (Nat.le_of_ble_eq_true rfl) ⟨Nat.zero_le _, Nat.zero_le _⟩ dM_divide_172 (z_kl (fun r172_15 w1 tys1 hp => ?_))
                obtain ⟨rfl, rfl, p172_15⟩ := hp
                refine z_aload_n (pc := 175) hZ 2 dM_divide_175 rfl rfl ?_
                refine z_get (pc := 176) (ci := 2) hZ 0 rfl rfl uc_M 7 (by decide) (zb fl_M_63) rfl dM_divide_176 ?_
                refine z_callS (pc := 179) (As := [.long nb]) (rest := [.long r172_15, .ref h0]) hZ (cM_size l D (TY cR c1 c2 c3) (MW h0 a1 a2 a3 c1 c2 c3 (ka, na, ea, kb, nb, eb, k, n, e, bits, scale, K, N, E) ++ Y) nb) zyM_size (z_goodS ml_M_47 st_M_size in_M co_M_size) rfl rfl (by decide) rfl rfl (Nat.le_of_ble_eq_true rfl) ⟨Nat.zero_le _, Nat.zero_le _⟩ dM_divide_179 (z_kl (fun r179_16 w1 tys1 hp => ?_))
                obtain ⟨rfl, rfl, p179_16⟩ := hp
                refine z_callV (pc := 182) (As := [.long r172_15, .long r179_16]) (rest := []) hZ (cM_quotientBits l D cR c1 c2 c3 h0 a1 a2 a3 Y ka na ea kb nb eb k n e bits scale K N E r172_15 r179_16 (by exact ⟨(sz_0 (RK_n (r := 0) ra c29_3 (gt_n p99_12 c102_13)) p172_15 (p8_1 c155 (gt_n p99_12 c102_13).1 (gt_n p99_12 c102_13).2)).1, (sz_b (RK_n (r := 0) ra c29_3 (gt_n p99_12 c102_13)) p172_15).2.1⟩) (by exact ⟨(sz_0 (RK_n (r := 0) rb c37_5 (gt_n p80_10 c83_11)) p179_16 (p20_2 c135_14 (gt_n p80_10 c83_11).1 (gt_n p80_10 c83_11).2)).1, (sz_b (RK_n (r := 0) rb c37_5 (gt_n p80_10 c83_11)) p179_16).2.1⟩)) zyM_quotientBits (z_goodV ml_M_109 im_M_quotientBits se_M_quotientBits in_M co_M_quotientBits) 0 rfl rfl rfl rfl (by decide) rfl rfl (Nat.le_of_ble_eq_true rfl) ⟨Nat.zero_le _, Nat.zero_le _⟩ dM_divide_182 (z_kv (fun w1 tys1 hp => ?_))
                obtain ⟨bits182_17, scale182_17, rfl, rfl, p182_17⟩ := hp
                refine z_aload_n (pc := 185) hZ 2 dM_divide_185 rfl rfl ?_
                refine z_aload_n (pc := 186) hZ 2 dM_divide_186 rfl rfl ?_
                refine z_get (pc := 187) (ci := 2) hZ 0 rfl rfl uc_M 12 (by decide) (zb fl_M_95) rfl dM_divide_187 ?_
                refine z_aload_n (pc := 190) hZ 2 dM_divide_190 rfl rfl ?_
                refine z_get (pc := 191) (ci := 2) hZ 0 rfl rfl uc_M 5 (by decide) (zb fl_M_57) rfl dM_divide_191 ?_
                refine z_aload_n (pc := 194) hZ 2 dM_divide_194 rfl rfl ?_
                refine z_get (pc := 195) (ci := 2) hZ 0 rfl rfl uc_M 8 (by decide) (zb fl_M_66) rfl dM_divide_195 ?_
                refine z_isub (pc := 198) hZ dM_divide_198 (fun v198_18 ev198_18 => ?_)
                refine z_aload_n (pc := 199) hZ 2 dM_divide_199 rfl rfl ?_
                refine z_get (pc := 200) (ci := 2) hZ 0 rfl rfl uc_M 13 (by decide) (zb fl_M_98) rfl dM_divide_200 ?_
                refine z_iadd (pc := 203) hZ dM_divide_203 (fun v203_19 ev203_19 => ?_)
                refine z_iload_n (pc := 204) hZ 1 dM_divide_204 rfl rfl ?_
                refine z_iload_n (pc := 205) hZ 0 dM_divide_205 rfl rfl ?_
                refine z_imul (pc := 206) hZ dM_divide_206 (fun v206_20 ev206_20 => ?_)
                refine z_if_ge (pc := 207) hZ 214 dM_divide_207 (by decide) (fun c207_21 => ?_) (fun c207_21 => ?_)
                · refine z_iconst (pc := 214) hZ 0 dM_divide_214 (by decide) ?_
                  refine z_callV (pc := 215) (As := [.long bits182_17, .int v203_19, .int 0]) (rest := []) hZ (cM_nearest l D cR c1 c2 c3 h0 a1 a2 a3 Y ka na ea kb nb eb k n e bits182_17 scale182_17 K N E bits182_17 v203_19 0 (by exact (p182_17).1.1) (by exact (p182_17).1.2) (by exact di_e (RK_n (r := 0) ra c29_3 (gt_n p99_12 c102_13)) (RK_n (r := 0) rb c37_5 (gt_n p80_10 c83_11)) (p182_17).2 ev198_18 ev203_19)) zyM_nearest (z_goodV ml_M_43 im_M_nearest se_M_nearest in_M co_M_nearest) 0 rfl rfl rfl rfl (by decide) rfl rfl (Nat.le_of_ble_eq_true rfl) ⟨Nat.zero_le _, Nat.zero_le _⟩ dM_divide_215 (z_kv (fun w1 tys1 hp => ?_))
                  obtain ⟨k215_22, n215_22, e215_22, rfl, rfl, p215_22⟩ := hp
                  exact z_retv (pc := 218) hZ dM_divide_218 rfl ⟨rfl, _, _, _, _, _, rfl, rfl, (by first | exact (((p215_22).1)).1 | exact RK_of ((nokey_).1) | exact RK_of ((nokey_).1) | exact sp_RK (Or.inr (Or.inr rfl)) nokey_ | exact sp_gt p99_12 c102_13 nokey_ | exact sp_RK (Or.inr (Or.inl rfl)) nokey_ | exact sp_RK (Or.inl rfl) nokey_ | exact sp_RK (Or.inr (Or.inl rfl)) nokey_ | exact sp_RK (Or.inl rfl) nokey_)⟩
                · refine z_iconst (pc := 210) hZ 1 dM_divide_210 (by decide) ?_
                  refine z_goto (pc := 211) hZ 215 dM_divide_211 (by decide) ?_
                  refine z_callV (pc := 215) (As := [.long bits182_17, .int v203_19, .int 1]) (rest := []) hZ (cM_nearest l D cR c1 c2 c3 h0 a1 a2 a3 Y ka na ea kb nb eb k n e bits182_17 scale182_17 K N E bits182_17 v203_19 1 (by exact (p182_17).1.1) (by exact (p182_17).1.2) (by exact di_e (RK_n (r := 0) ra c29_3 (gt_n p99_12 c102_13)) (RK_n (r := 0) rb c37_5 (gt_n p80_10 c83_11)) (p182_17).2 ev198_18 ev203_19)) zyM_nearest (z_goodV ml_M_43 im_M_nearest se_M_nearest in_M co_M_nearest) 0 rfl rfl rfl rfl (by decide) rfl rfl (Nat.le_of_ble_eq_true rfl) ⟨Nat.zero_le _, Nat.zero_le _⟩ dM_divide_215 (z_kv (fun w1 tys1 hp => ?_))
                  obtain ⟨k215_23, n215_23, e215_23, rfl, rfl, p215_23⟩ := hp
                  exact z_retv (pc := 218) hZ dM_divide_218 rfl ⟨rfl, _, _, _, _, _, rfl, rfl, (by first | exact (((p215_23).1)).1 | exact RK_of ((nokey_).1) | exact RK_of ((nokey_).1) | exact sp_RK (Or.inr (Or.inr rfl)) nokey_ | exact sp_gt p99_12 c102_13 nokey_ | exact sp_RK (Or.inr (Or.inl rfl)) nokey_ | exact sp_RK (Or.inl rfl) nokey_ | exact sp_RK (Or.inr (Or.inl rfl)) nokey_ | exact sp_RK (Or.inl rfl) nokey_)⟩
              · refine z_aload_n (pc := 138) hZ 2 dM_divide_138 rfl rfl ?_
                refine z_iload_n (pc := 139) hZ 1 dM_divide_139 rfl rfl ?_
                refine z_if_ge (pc := 140) hZ 147 dM_divide_140 (by decide) (fun c140_24 => ?_) (fun c140_24 => ?_)
                · refine z_iconst (pc := 147) hZ 3 dM_divide_147 (by decide) ?_
                  refine z_callV (pc := 148) (As := [.int 3]) (rest := []) hZ (cM_setSpecial l D cR c1 c2 c3 h0 a1 a2 a3 Y ka na ea kb nb eb k n e bits scale K N E 3) zyM_setSpecial (z_goodV ml_M_35 im_M_setSpecial se_M_setSpecial in_M co_M_setSpecial) 0 rfl rfl rfl rfl (by decide) rfl rfl (Nat.le_of_ble_eq_true rfl) ⟨Nat.zero_le _, Nat.zero_le _⟩ dM_divide_148 (z_kv (fun w1 tys1 hp => ?_))
                  obtain ⟨k148_25, n148_25, e148_25, rfl, rfl, p148_25⟩ := hp
                  refine z_goto (pc := 151) hZ 218 dM_divide_151 (by decide) ?_
                  exact z_retv (pc := 218) hZ dM_divide_218 rfl ⟨rfl, _, _, _, _, _, rfl, rfl, (by first | exact (((nokey_).1)).1 | exact RK_of ((nokey_).1) | exact RK_of ((nokey_).1) | exact sp_RK (Or.inr (Or.inr rfl)) nokey_ | exact sp_gt p99_12 c102_13 nokey_ | exact sp_RK (Or.inr (Or.inl rfl)) nokey_ | exact sp_RK (Or.inl rfl) nokey_ | exact sp_RK (Or.inr (Or.inl rfl)) p148_25 | exact sp_RK (Or.inl rfl) p148_25)⟩
                · refine z_iconst (pc := 143) hZ 4 dM_divide_143 (by decide) ?_
                  refine z_goto (pc := 144) hZ 148 dM_divide_144 (by decide) ?_
                  refine z_callV (pc := 148) (As := [.int 4]) (rest := []) hZ (cM_setSpecial l D cR c1 c2 c3 h0 a1 a2 a3 Y ka na ea kb nb eb k n e bits scale K N E 4) zyM_setSpecial (z_goodV ml_M_35 im_M_setSpecial se_M_setSpecial in_M co_M_setSpecial) 0 rfl rfl rfl rfl (by decide) rfl rfl (Nat.le_of_ble_eq_true rfl) ⟨Nat.zero_le _, Nat.zero_le _⟩ dM_divide_148 (z_kv (fun w1 tys1 hp => ?_))
                  obtain ⟨k148_26, n148_26, e148_26, rfl, rfl, p148_26⟩ := hp
                  refine z_goto (pc := 151) hZ 218 dM_divide_151 (by decide) ?_
                  exact z_retv (pc := 218) hZ dM_divide_218 rfl ⟨rfl, _, _, _, _, _, rfl, rfl, (by first | exact (((nokey_).1)).1 | exact RK_of ((nokey_).1) | exact RK_of ((nokey_).1) | exact sp_RK (Or.inr (Or.inr rfl)) nokey_ | exact sp_gt p99_12 c102_13 nokey_ | exact sp_RK (Or.inr (Or.inl rfl)) nokey_ | exact sp_RK (Or.inl rfl) nokey_ | exact sp_RK (Or.inr (Or.inl rfl)) p148_26 | exact sp_RK (Or.inl rfl) p148_26)⟩
            · refine z_aload_n (pc := 105) hZ 2 dM_divide_105 rfl rfl ?_
              refine z_iload_n (pc := 106) hZ 0 dM_divide_106 rfl rfl ?_
              refine z_if_ne (pc := 107) hZ 117 dM_divide_107 (by decide) (fun c107_27 => ?_) (fun c107_27 => ?_)
              · refine z_iload_n (pc := 117) hZ 1 dM_divide_117 rfl rfl ?_
                refine z_iload_n (pc := 118) hZ 0 dM_divide_118 rfl rfl ?_
                refine z_imul (pc := 119) hZ dM_divide_119 (fun v119_28 ev119_28 => ?_)
                refine z_if_ge (pc := 120) hZ 127 dM_divide_120 (by decide) (fun c120_29 => ?_) (fun c120_29 => ?_)
                · refine z_iconst (pc := 127) hZ 3 dM_divide_127 (by decide) ?_
                  refine z_callV (pc := 128) (As := [.int 3]) (rest := []) hZ (cM_setSpecial l D cR c1 c2 c3 h0 a1 a2 a3 Y ka na ea kb nb eb k n e bits scale K N E 3) zyM_setSpecial (z_goodV ml_M_35 im_M_setSpecial se_M_setSpecial in_M co_M_setSpecial) 0 rfl rfl rfl rfl (by decide) rfl rfl (Nat.le_of_ble_eq_true rfl) ⟨Nat.zero_le _, Nat.zero_le _⟩ dM_divide_128 (z_kv (fun w1 tys1 hp => ?_))
                  obtain ⟨k128_30, n128_30, e128_30, rfl, rfl, p128_30⟩ := hp
                  refine z_goto (pc := 131) hZ 218 dM_divide_131 (by decide) ?_
                  exact z_retv (pc := 218) hZ dM_divide_218 rfl ⟨rfl, _, _, _, _, _, rfl, rfl, (by first | exact (((nokey_).1)).1 | exact RK_of ((nokey_).1) | exact RK_of ((nokey_).1) | exact sp_RK (Or.inr (Or.inr rfl)) nokey_ | exact sp_gt p99_12 c102_13 p128_30 | exact sp_RK (Or.inr (Or.inl rfl)) p128_30 | exact sp_RK (Or.inl rfl) p128_30 | exact sp_RK (Or.inr (Or.inl rfl)) nokey_ | exact sp_RK (Or.inl rfl) nokey_)⟩
                · refine z_iconst (pc := 123) hZ 4 dM_divide_123 (by decide) ?_
                  refine z_goto (pc := 124) hZ 128 dM_divide_124 (by decide) ?_
                  refine z_callV (pc := 128) (As := [.int 4]) (rest := []) hZ (cM_setSpecial l D cR c1 c2 c3 h0 a1 a2 a3 Y ka na ea kb nb eb k n e bits scale K N E 4) zyM_setSpecial (z_goodV ml_M_35 im_M_setSpecial se_M_setSpecial in_M co_M_setSpecial) 0 rfl rfl rfl rfl (by decide) rfl rfl (Nat.le_of_ble_eq_true rfl) ⟨Nat.zero_le _, Nat.zero_le _⟩ dM_divide_128 (z_kv (fun w1 tys1 hp => ?_))
                  obtain ⟨k128_31, n128_31, e128_31, rfl, rfl, p128_31⟩ := hp
                  refine z_goto (pc := 131) hZ 218 dM_divide_131 (by decide) ?_
                  exact z_retv (pc := 218) hZ dM_divide_218 rfl ⟨rfl, _, _, _, _, _, rfl, rfl, (by first | exact (((nokey_).1)).1 | exact RK_of ((nokey_).1) | exact RK_of ((nokey_).1) | exact sp_RK (Or.inr (Or.inr rfl)) nokey_ | exact sp_gt p99_12 c102_13 p128_31 | exact sp_RK (Or.inr (Or.inl rfl)) p128_31 | exact sp_RK (Or.inl rfl) p128_31 | exact sp_RK (Or.inr (Or.inl rfl)) nokey_ | exact sp_RK (Or.inl rfl) nokey_)⟩
              · refine z_aload_n (pc := 110) hZ 2 dM_divide_110 rfl rfl ?_
                refine z_get (pc := 111) (ci := 2) hZ 0 rfl rfl uc_M 3 (by decide) (zb fl_M_51) rfl dM_divide_111 ?_
                refine z_goto (pc := 114) hZ 128 dM_divide_114 (by decide) ?_
                refine z_callV (pc := 128) (As := [.int ka]) (rest := []) hZ (cM_setSpecial l D cR c1 c2 c3 h0 a1 a2 a3 Y ka na ea kb nb eb k n e bits scale K N E ka) zyM_setSpecial (z_goodV ml_M_35 im_M_setSpecial se_M_setSpecial in_M co_M_setSpecial) 0 rfl rfl rfl rfl (by decide) rfl rfl (Nat.le_of_ble_eq_true rfl) ⟨Nat.zero_le _, Nat.zero_le _⟩ dM_divide_128 (z_kv (fun w1 tys1 hp => ?_))
                obtain ⟨k128_32, n128_32, e128_32, rfl, rfl, p128_32⟩ := hp
                refine z_goto (pc := 131) hZ 218 dM_divide_131 (by decide) ?_
                exact z_retv (pc := 218) hZ dM_divide_218 rfl ⟨rfl, _, _, _, _, _, rfl, rfl, (by first | exact (((nokey_).1)).1 | exact RK_of ((nokey_).1) | exact RK_of ((nokey_).1) | exact sp_RK (Or.inr (Or.inr rfl)) nokey_ | exact sp_gt p99_12 c102_13 p128_32 | exact sp_RK (Or.inr (Or.inl rfl)) p128_32 | exact sp_RK (Or.inl rfl) p128_32 | exact sp_RK (Or.inr (Or.inl rfl)) nokey_ | exact sp_RK (Or.inl rfl) nokey_)⟩
          · refine z_aload_n (pc := 86) hZ 2 dM_divide_86 rfl rfl ?_
            refine z_lconst (pc := 87) hZ 0 dM_divide_87 (by decide) ?_
            refine z_iconst (pc := 88) hZ 0 dM_divide_88 (by decide) ?_
            refine z_callV (pc := 89) (As := [.long 0, .int 0]) (rest := []) hZ (cM_plain l D cR c1 c2 c3 h0 a1 a2 a3 Y ka na ea kb nb eb k n e bits scale K N E 0 0 (by exact Or.inl rfl)) zyM_plain (z_goodV ml_M_31 im_M_plain se_M_plain in_M co_M_plain) 0 rfl rfl rfl rfl (by decide) rfl rfl (Nat.le_of_ble_eq_true rfl) ⟨Nat.zero_le _, Nat.zero_le _⟩ dM_divide_89 (z_kv (fun w1 tys1 hp => ?_))
            obtain ⟨k89_33, n89_33, e89_33, rfl, rfl, p89_33⟩ := hp
            refine z_goto (pc := 92) hZ 218 dM_divide_92 (by decide) ?_
            exact z_retv (pc := 218) hZ dM_divide_218 rfl ⟨rfl, _, _, _, _, _, rfl, rfl, (by first | exact (((nokey_).1)).1 | exact RK_of ((nokey_).1) | exact RK_of ((p89_33).1) | exact sp_RK (Or.inr (Or.inr rfl)) nokey_ | exact sp_gt nokey_ nokey_ nokey_ | exact sp_RK (Or.inr (Or.inl rfl)) nokey_ | exact sp_RK (Or.inl rfl) nokey_ | exact sp_RK (Or.inr (Or.inl rfl)) nokey_ | exact sp_RK (Or.inl rfl) nokey_)⟩
        · refine z_iload_n (pc := 64) hZ 0 dM_divide_64 rfl rfl ?_
          refine z_if_ne (pc := 65) hZ 76 dM_divide_65 (by decide) (fun c65_34 => ?_) (fun c65_34 => ?_)
          · refine z_aload_n (pc := 76) hZ 2 dM_divide_76 rfl rfl ?_
            refine z_get (pc := 77) (ci := 2) hZ 0 rfl rfl uc_M 6 (by decide) (zb fl_M_60) rfl dM_divide_77 ?_
            refine z_callS (pc := 80) (As := [.int kb]) (rest := []) hZ (cM_isGreat l D (TY cR c1 c2 c3) (MW h0 a1 a2 a3 c1 c2 c3 (ka, na, ea, kb, nb, eb, k, n, e, bits, scale, K, N, E) ++ Y) kb) zyM_isGreat (z_goodS ml_M_86 st_M_isGreat in_M co_M_isGreat) rfl rfl (by decide) rfl rfl (Nat.le_of_ble_eq_true rfl) ⟨Nat.zero_le _, Nat.zero_le _⟩ dM_divide_80 (z_ki (fun r80_35 w1 tys1 hp => ?_))
            obtain ⟨rfl, rfl, p80_35⟩ := hp
            refine z_if_eq (pc := 83) hZ 95 dM_divide_83 (by decide) (fun c83_36 => ?_) (fun c83_36 => ?_)
            · refine z_aload_n (pc := 95) hZ 2 dM_divide_95 rfl rfl ?_
              refine z_get (pc := 96) (ci := 2) hZ 0 rfl rfl uc_M 3 (by decide) (zb fl_M_51) rfl dM_divide_96 ?_
              refine z_callS (pc := 99) (As := [.int ka]) (rest := []) hZ (cM_isGreat l D (TY cR c1 c2 c3) (MW h0 a1 a2 a3 c1 c2 c3 (ka, na, ea, kb, nb, eb, k, n, e, bits, scale, K, N, E) ++ Y) ka) zyM_isGreat (z_goodS ml_M_86 st_M_isGreat in_M co_M_isGreat) rfl rfl (by decide) rfl rfl (Nat.le_of_ble_eq_true rfl) ⟨Nat.zero_le _, Nat.zero_le _⟩ dM_divide_99 (z_ki (fun r99_37 w1 tys1 hp => ?_))
              obtain ⟨rfl, rfl, p99_37⟩ := hp
              refine z_if_eq (pc := 102) hZ 134 dM_divide_102 (by decide) (fun c102_38 => ?_) (fun c102_38 => ?_)
              · refine z_iload_n (pc := 134) hZ 0 dM_divide_134 rfl rfl ?_
                refine z_if_ne (pc := 135) hZ 154 dM_divide_135 (by decide) (fun c135 => ?_) (fun c9 => False.elim (by first | exact absurd c9 c65_34 | exact absurd c65_34 c9 | exact absurd c9 (Int32.not_lt.mpr c65_34) | exact absurd c9 (Int32.not_le.mpr c65_34) | exact c9 ((Int32.not_lt).mp c65_34) | exact c9 ((Int32.not_le).mp c65_34)))
                refine z_iload_n (pc := 154) hZ 1 dM_divide_154 rfl rfl ?_
                refine z_if_ne (pc := 155) hZ 167 dM_divide_155 (by decide) (fun c9 => False.elim (by first | exact absurd c9 c61_9 | exact absurd c61_9 c9 | exact absurd c9 (Int32.not_lt.mpr c61_9) | exact absurd c9 (Int32.not_le.mpr c61_9) | exact c9 ((Int32.not_lt).mp c61_9) | exact c9 ((Int32.not_le).mp c61_9))) (fun c155 => ?_)
                refine z_aload_n (pc := 158) hZ 2 dM_divide_158 rfl rfl ?_
                refine z_lconst (pc := 159) hZ 0 dM_divide_159 (by decide) ?_
                refine z_iconst (pc := 160) hZ 0 dM_divide_160 (by decide) ?_
                refine z_callV (pc := 161) (As := [.long 0, .int 0]) (rest := []) hZ (cM_plain l D cR c1 c2 c3 h0 a1 a2 a3 Y ka na ea kb nb eb k n e bits scale K N E 0 0 (by exact Or.inl rfl)) zyM_plain (z_goodV ml_M_31 im_M_plain se_M_plain in_M co_M_plain) 0 rfl rfl rfl rfl (by decide) rfl rfl (Nat.le_of_ble_eq_true rfl) ⟨Nat.zero_le _, Nat.zero_le _⟩ dM_divide_161 (z_kv (fun w1 tys1 hp => ?_))
                obtain ⟨k161_39, n161_39, e161_39, rfl, rfl, p161_39⟩ := hp
                refine z_goto (pc := 164) hZ 218 dM_divide_164 (by decide) ?_
                exact z_retv (pc := 218) hZ dM_divide_218 rfl ⟨rfl, _, _, _, _, _, rfl, rfl, (by first | exact (((nokey_).1)).1 | exact RK_of ((p161_39).1) | exact RK_of ((nokey_).1) | exact sp_RK (Or.inr (Or.inr rfl)) nokey_ | exact sp_gt p99_37 c102_38 nokey_ | exact sp_RK (Or.inr (Or.inl rfl)) nokey_ | exact sp_RK (Or.inl rfl) nokey_ | exact sp_RK (Or.inr (Or.inl rfl)) nokey_ | exact sp_RK (Or.inl rfl) nokey_)⟩
              · refine z_aload_n (pc := 105) hZ 2 dM_divide_105 rfl rfl ?_
                refine z_iload_n (pc := 106) hZ 0 dM_divide_106 rfl rfl ?_
                refine z_if_ne (pc := 107) hZ 117 dM_divide_107 (by decide) (fun c107 => ?_) (fun c9 => False.elim (by first | exact absurd c9 c65_34 | exact absurd c65_34 c9 | exact absurd c9 (Int32.not_lt.mpr c65_34) | exact absurd c9 (Int32.not_le.mpr c65_34) | exact c9 ((Int32.not_lt).mp c65_34) | exact c9 ((Int32.not_le).mp c65_34)))
                refine z_iload_n (pc := 117) hZ 1 dM_divide_117 rfl rfl ?_
                refine z_iload_n (pc := 118) hZ 0 dM_divide_118 rfl rfl ?_
                refine z_imul (pc := 119) hZ dM_divide_119 (fun v119_40 ev119_40 => ?_)
                refine z_if_ge (pc := 120) hZ 127 dM_divide_120 (by decide) (fun c120_41 => ?_) (fun c120_41 => ?_)
                · refine z_iconst (pc := 127) hZ 3 dM_divide_127 (by decide) ?_
                  refine z_callV (pc := 128) (As := [.int 3]) (rest := []) hZ (cM_setSpecial l D cR c1 c2 c3 h0 a1 a2 a3 Y ka na ea kb nb eb k n e bits scale K N E 3) zyM_setSpecial (z_goodV ml_M_35 im_M_setSpecial se_M_setSpecial in_M co_M_setSpecial) 0 rfl rfl rfl rfl (by decide) rfl rfl (Nat.le_of_ble_eq_true rfl) ⟨Nat.zero_le _, Nat.zero_le _⟩ dM_divide_128 (z_kv (fun w1 tys1 hp => ?_))
                  obtain ⟨k128_42, n128_42, e128_42, rfl, rfl, p128_42⟩ := hp
                  refine z_goto (pc := 131) hZ 218 dM_divide_131 (by decide) ?_
                  exact z_retv (pc := 218) hZ dM_divide_218 rfl ⟨rfl, _, _, _, _, _, rfl, rfl, (by first | exact (((nokey_).1)).1 | exact RK_of ((nokey_).1) | exact RK_of ((nokey_).1) | exact sp_RK (Or.inr (Or.inr rfl)) nokey_ | exact sp_gt p99_37 c102_38 p128_42 | exact sp_RK (Or.inr (Or.inl rfl)) p128_42 | exact sp_RK (Or.inl rfl) p128_42 | exact sp_RK (Or.inr (Or.inl rfl)) nokey_ | exact sp_RK (Or.inl rfl) nokey_)⟩
                · refine z_iconst (pc := 123) hZ 4 dM_divide_123 (by decide) ?_
                  refine z_goto (pc := 124) hZ 128 dM_divide_124 (by decide) ?_
                  refine z_callV (pc := 128) (As := [.int 4]) (rest := []) hZ (cM_setSpecial l D cR c1 c2 c3 h0 a1 a2 a3 Y ka na ea kb nb eb k n e bits scale K N E 4) zyM_setSpecial (z_goodV ml_M_35 im_M_setSpecial se_M_setSpecial in_M co_M_setSpecial) 0 rfl rfl rfl rfl (by decide) rfl rfl (Nat.le_of_ble_eq_true rfl) ⟨Nat.zero_le _, Nat.zero_le _⟩ dM_divide_128 (z_kv (fun w1 tys1 hp => ?_))
                  obtain ⟨k128_43, n128_43, e128_43, rfl, rfl, p128_43⟩ := hp
                  refine z_goto (pc := 131) hZ 218 dM_divide_131 (by decide) ?_
                  exact z_retv (pc := 218) hZ dM_divide_218 rfl ⟨rfl, _, _, _, _, _, rfl, rfl, (by first | exact (((nokey_).1)).1 | exact RK_of ((nokey_).1) | exact RK_of ((nokey_).1) | exact sp_RK (Or.inr (Or.inr rfl)) nokey_ | exact sp_gt p99_37 c102_38 p128_43 | exact sp_RK (Or.inr (Or.inl rfl)) p128_43 | exact sp_RK (Or.inl rfl) p128_43 | exact sp_RK (Or.inr (Or.inl rfl)) nokey_ | exact sp_RK (Or.inl rfl) nokey_)⟩
            · refine z_aload_n (pc := 86) hZ 2 dM_divide_86 rfl rfl ?_
              refine z_lconst (pc := 87) hZ 0 dM_divide_87 (by decide) ?_
              refine z_iconst (pc := 88) hZ 0 dM_divide_88 (by decide) ?_
              refine z_callV (pc := 89) (As := [.long 0, .int 0]) (rest := []) hZ (cM_plain l D cR c1 c2 c3 h0 a1 a2 a3 Y ka na ea kb nb eb k n e bits scale K N E 0 0 (by exact Or.inl rfl)) zyM_plain (z_goodV ml_M_31 im_M_plain se_M_plain in_M co_M_plain) 0 rfl rfl rfl rfl (by decide) rfl rfl (Nat.le_of_ble_eq_true rfl) ⟨Nat.zero_le _, Nat.zero_le _⟩ dM_divide_89 (z_kv (fun w1 tys1 hp => ?_))
              obtain ⟨k89_44, n89_44, e89_44, rfl, rfl, p89_44⟩ := hp
              refine z_goto (pc := 92) hZ 218 dM_divide_92 (by decide) ?_
              exact z_retv (pc := 218) hZ dM_divide_218 rfl ⟨rfl, _, _, _, _, _, rfl, rfl, (by first | exact (((nokey_).1)).1 | exact RK_of ((nokey_).1) | exact RK_of ((p89_44).1) | exact sp_RK (Or.inr (Or.inr rfl)) nokey_ | exact sp_gt nokey_ nokey_ nokey_ | exact sp_RK (Or.inr (Or.inl rfl)) nokey_ | exact sp_RK (Or.inl rfl) nokey_ | exact sp_RK (Or.inr (Or.inl rfl)) nokey_ | exact sp_RK (Or.inl rfl) nokey_)⟩
          · refine z_aload_n (pc := 68) hZ 2 dM_divide_68 rfl rfl ?_
            refine z_iconst (pc := 69) hZ 5 dM_divide_69 (by decide) ?_
            refine z_callV (pc := 70) (As := [.int 5]) (rest := []) hZ (cM_setSpecial l D cR c1 c2 c3 h0 a1 a2 a3 Y ka na ea kb nb eb k n e bits scale K N E 5) zyM_setSpecial (z_goodV ml_M_35 im_M_setSpecial se_M_setSpecial in_M co_M_setSpecial) 0 rfl rfl rfl rfl (by decide) rfl rfl (Nat.le_of_ble_eq_true rfl) ⟨Nat.zero_le _, Nat.zero_le _⟩ dM_divide_70 (z_kv (fun w1 tys1 hp => ?_))
            obtain ⟨k70_45, n70_45, e70_45, rfl, rfl, p70_45⟩ := hp
            refine z_goto (pc := 73) hZ 218 dM_divide_73 (by decide) ?_
            exact z_retv (pc := 218) hZ dM_divide_218 rfl ⟨rfl, _, _, _, _, _, rfl, rfl, (by first | exact (((nokey_).1)).1 | exact RK_of ((nokey_).1) | exact RK_of ((nokey_).1) | exact sp_RK (Or.inr (Or.inr rfl)) p70_45 | exact sp_gt nokey_ nokey_ nokey_ | exact sp_RK (Or.inr (Or.inl rfl)) nokey_ | exact sp_RK (Or.inl rfl) nokey_ | exact sp_RK (Or.inr (Or.inl rfl)) nokey_ | exact sp_RK (Or.inl rfl) nokey_)⟩
      · refine z_aload_n (pc := 50) hZ 2 dM_divide_50 rfl rfl ?_
        refine z_get (pc := 51) (ci := 2) hZ 0 rfl rfl uc_M 6 (by decide) (zb fl_M_60) rfl dM_divide_51 ?_
        refine z_callS (pc := 54) (As := [.int kb]) (rest := []) hZ (cM_isGreat l D (TY cR c1 c2 c3) (MW h0 a1 a2 a3 c1 c2 c3 (ka, na, ea, kb, nb, eb, k, n, e, bits, scale, K, N, E) ++ Y) kb) zyM_isGreat (z_goodS ml_M_86 st_M_isGreat in_M co_M_isGreat) rfl rfl (by decide) rfl rfl (Nat.le_of_ble_eq_true rfl) ⟨Nat.zero_le _, Nat.zero_le _⟩ dM_divide_54 (z_ki (fun r54_46 w1 tys1 hp => ?_))
        obtain ⟨rfl, rfl, p54_46⟩ := hp
        refine z_if_ne (pc := 57) hZ 68 dM_divide_57 (by decide) (fun c57_47 => ?_) (fun c57_47 => ?_)
        · refine z_aload_n (pc := 68) hZ 2 dM_divide_68 rfl rfl ?_
          refine z_iconst (pc := 69) hZ 5 dM_divide_69 (by decide) ?_
          refine z_callV (pc := 70) (As := [.int 5]) (rest := []) hZ (cM_setSpecial l D cR c1 c2 c3 h0 a1 a2 a3 Y ka na ea kb nb eb k n e bits scale K N E 5) zyM_setSpecial (z_goodV ml_M_35 im_M_setSpecial se_M_setSpecial in_M co_M_setSpecial) 0 rfl rfl rfl rfl (by decide) rfl rfl (Nat.le_of_ble_eq_true rfl) ⟨Nat.zero_le _, Nat.zero_le _⟩ dM_divide_70 (z_kv (fun w1 tys1 hp => ?_))
          obtain ⟨k70_48, n70_48, e70_48, rfl, rfl, p70_48⟩ := hp
          refine z_goto (pc := 73) hZ 218 dM_divide_73 (by decide) ?_
          exact z_retv (pc := 218) hZ dM_divide_218 rfl ⟨rfl, _, _, _, _, _, rfl, rfl, (by first | exact (((nokey_).1)).1 | exact RK_of ((nokey_).1) | exact RK_of ((nokey_).1) | exact sp_RK (Or.inr (Or.inr rfl)) p70_48 | exact sp_gt nokey_ nokey_ nokey_ | exact sp_RK (Or.inr (Or.inl rfl)) nokey_ | exact sp_RK (Or.inl rfl) nokey_ | exact sp_RK (Or.inr (Or.inl rfl)) nokey_ | exact sp_RK (Or.inl rfl) nokey_)⟩
        · refine z_iload_n (pc := 60) hZ 1 dM_divide_60 rfl rfl ?_
          refine z_if_ne (pc := 61) hZ 76 dM_divide_61 (by decide) (fun c61_49 => ?_) (fun c61_49 => ?_)
          · refine z_aload_n (pc := 76) hZ 2 dM_divide_76 rfl rfl ?_
            refine z_get (pc := 77) (ci := 2) hZ 0 rfl rfl uc_M 6 (by decide) (zb fl_M_60) rfl dM_divide_77 ?_
            refine z_callS (pc := 80) (As := [.int kb]) (rest := []) hZ (cM_isGreat l D (TY cR c1 c2 c3) (MW h0 a1 a2 a3 c1 c2 c3 (ka, na, ea, kb, nb, eb, k, n, e, bits, scale, K, N, E) ++ Y) kb) zyM_isGreat (z_goodS ml_M_86 st_M_isGreat in_M co_M_isGreat) rfl rfl (by decide) rfl rfl (Nat.le_of_ble_eq_true rfl) ⟨Nat.zero_le _, Nat.zero_le _⟩ dM_divide_80 (z_ki (fun r80_50 w1 tys1 hp => ?_))
            obtain ⟨rfl, rfl, p80_50⟩ := hp
            refine z_if_eq (pc := 83) hZ 95 dM_divide_83 (by decide) (fun c83_51 => ?_) (fun c83_51 => ?_)
            · refine z_aload_n (pc := 95) hZ 2 dM_divide_95 rfl rfl ?_
              refine z_get (pc := 96) (ci := 2) hZ 0 rfl rfl uc_M 3 (by decide) (zb fl_M_51) rfl dM_divide_96 ?_
              refine z_callS (pc := 99) (As := [.int ka]) (rest := []) hZ (cM_isGreat l D (TY cR c1 c2 c3) (MW h0 a1 a2 a3 c1 c2 c3 (ka, na, ea, kb, nb, eb, k, n, e, bits, scale, K, N, E) ++ Y) ka) zyM_isGreat (z_goodS ml_M_86 st_M_isGreat in_M co_M_isGreat) rfl rfl (by decide) rfl rfl (Nat.le_of_ble_eq_true rfl) ⟨Nat.zero_le _, Nat.zero_le _⟩ dM_divide_99 (z_ki (fun r99_52 w1 tys1 hp => ?_))
              obtain ⟨rfl, rfl, p99_52⟩ := hp
              refine z_if_eq (pc := 102) hZ 134 dM_divide_102 (by decide) (fun c102_53 => ?_) (fun c102_53 => ?_)
              · refine z_iload_n (pc := 134) hZ 0 dM_divide_134 rfl rfl ?_
                refine z_if_ne (pc := 135) hZ 154 dM_divide_135 (by decide) (fun c135_54 => ?_) (fun c135_54 => ?_)
                · refine z_iload_n (pc := 154) hZ 1 dM_divide_154 rfl rfl ?_
                  refine z_if_ne (pc := 155) hZ 167 dM_divide_155 (by decide) (fun c155 => ?_) (fun c9 => False.elim (by first | exact absurd c9 c61_49 | exact absurd c61_49 c9 | exact absurd c9 (Int32.not_lt.mpr c61_49) | exact absurd c9 (Int32.not_le.mpr c61_49) | exact c9 ((Int32.not_lt).mp c61_49) | exact c9 ((Int32.not_le).mp c61_49)))
                  refine z_aload_n (pc := 167) hZ 2 dM_divide_167 rfl rfl ?_
                  refine z_aload_n (pc := 168) hZ 2 dM_divide_168 rfl rfl ?_
                  refine z_get (pc := 169) (ci := 2) hZ 0 rfl rfl uc_M 4 (by decide) (zb fl_M_54) rfl dM_divide_169 ?_
                  refine z_callS (pc := 172) (As := [.long na]) (rest := [.ref h0]) hZ (cM_size l D (TY cR c1 c2 c3) (MW h0 a1 a2 a3 c1 c2 c3 (ka, na, ea, kb, nb, eb, k, n, e, bits, scale, K, N, E) ++ Y) na) zyM_size (z_goodS ml_M_47 st_M_size in_M co_M_size) rfl rfl (by decide) rfl rfl (Nat.le_of_ble_eq_true rfl) ⟨Nat.zero_le _, Nat.zero_le _⟩ dM_divide_172 (z_kl (fun r172_55 w1 tys1 hp => ?_))
                  obtain ⟨rfl, rfl, p172_55⟩ := hp
                  refine z_aload_n (pc := 175) hZ 2 dM_divide_175 rfl rfl ?_
                  refine z_get (pc := 176) (ci := 2) hZ 0 rfl rfl uc_M 7 (by decide) (zb fl_M_63) rfl dM_divide_176 ?_
                  refine z_callS (pc := 179) (As := [.long nb]) (rest := [.long r172_55, .ref h0]) hZ (cM_size l D (TY cR c1 c2 c3) (MW h0 a1 a2 a3 c1 c2 c3 (ka, na, ea, kb, nb, eb, k, n, e, bits, scale, K, N, E) ++ Y) nb) zyM_size (z_goodS ml_M_47 st_M_size in_M co_M_size) rfl rfl (by decide) rfl rfl (Nat.le_of_ble_eq_true rfl) ⟨Nat.zero_le _, Nat.zero_le _⟩ dM_divide_179 (z_kl (fun r179_56 w1 tys1 hp => ?_))
                  obtain ⟨rfl, rfl, p179_56⟩ := hp
                  refine z_callV (pc := 182) (As := [.long r172_55, .long r179_56]) (rest := []) hZ (cM_quotientBits l D cR c1 c2 c3 h0 a1 a2 a3 Y ka na ea kb nb eb k n e bits scale K N E r172_55 r179_56 (by exact ⟨(sz_0 (RK_n (r := 0) ra c29_3 (gt_n p99_52 c102_53)) p172_55 (p8_1 c155 (gt_n p99_52 c102_53).1 (gt_n p99_52 c102_53).2)).1, (sz_b (RK_n (r := 0) ra c29_3 (gt_n p99_52 c102_53)) p172_55).2.1⟩) (by exact ⟨(sz_0 (RK_n (r := 0) rb c37_5 (gt_n p80_50 c83_51)) p179_56 (p20_2 c135_54 (gt_n p80_50 c83_51).1 (gt_n p80_50 c83_51).2)).1, (sz_b (RK_n (r := 0) rb c37_5 (gt_n p80_50 c83_51)) p179_56).2.1⟩)) zyM_quotientBits (z_goodV ml_M_109 im_M_quotientBits se_M_quotientBits in_M co_M_quotientBits) 0 rfl rfl rfl rfl (by decide) rfl rfl (Nat.le_of_ble_eq_true rfl) ⟨Nat.zero_le _, Nat.zero_le _⟩ dM_divide_182 (z_kv (fun w1 tys1 hp => ?_))
                  obtain ⟨bits182_57, scale182_57, rfl, rfl, p182_57⟩ := hp
                  refine z_aload_n (pc := 185) hZ 2 dM_divide_185 rfl rfl ?_
                  refine z_aload_n (pc := 186) hZ 2 dM_divide_186 rfl rfl ?_
                  refine z_get (pc := 187) (ci := 2) hZ 0 rfl rfl uc_M 12 (by decide) (zb fl_M_95) rfl dM_divide_187 ?_
                  refine z_aload_n (pc := 190) hZ 2 dM_divide_190 rfl rfl ?_
                  refine z_get (pc := 191) (ci := 2) hZ 0 rfl rfl uc_M 5 (by decide) (zb fl_M_57) rfl dM_divide_191 ?_
                  refine z_aload_n (pc := 194) hZ 2 dM_divide_194 rfl rfl ?_
                  refine z_get (pc := 195) (ci := 2) hZ 0 rfl rfl uc_M 8 (by decide) (zb fl_M_66) rfl dM_divide_195 ?_
                  refine z_isub (pc := 198) hZ dM_divide_198 (fun v198_58 ev198_58 => ?_)
                  refine z_aload_n (pc := 199) hZ 2 dM_divide_199 rfl rfl ?_
                  refine z_get (pc := 200) (ci := 2) hZ 0 rfl rfl uc_M 13 (by decide) (zb fl_M_98) rfl dM_divide_200 ?_
                  refine z_iadd (pc := 203) hZ dM_divide_203 (fun v203_59 ev203_59 => ?_)
                  refine z_iload_n (pc := 204) hZ 1 dM_divide_204 rfl rfl ?_
                  refine z_iload_n (pc := 205) hZ 0 dM_divide_205 rfl rfl ?_
                  refine z_imul (pc := 206) hZ dM_divide_206 (fun v206_60 ev206_60 => ?_)
                  refine z_if_ge (pc := 207) hZ 214 dM_divide_207 (by decide) (fun c207_61 => ?_) (fun c207_61 => ?_)
                  · refine z_iconst (pc := 214) hZ 0 dM_divide_214 (by decide) ?_
                    refine z_callV (pc := 215) (As := [.long bits182_57, .int v203_59, .int 0]) (rest := []) hZ (cM_nearest l D cR c1 c2 c3 h0 a1 a2 a3 Y ka na ea kb nb eb k n e bits182_57 scale182_57 K N E bits182_57 v203_59 0 (by exact (p182_57).1.1) (by exact (p182_57).1.2) (by exact di_e (RK_n (r := 0) ra c29_3 (gt_n p99_52 c102_53)) (RK_n (r := 0) rb c37_5 (gt_n p80_50 c83_51)) (p182_57).2 ev198_58 ev203_59)) zyM_nearest (z_goodV ml_M_43 im_M_nearest se_M_nearest in_M co_M_nearest) 0 rfl rfl rfl rfl (by decide) rfl rfl (Nat.le_of_ble_eq_true rfl) ⟨Nat.zero_le _, Nat.zero_le _⟩ dM_divide_215 (z_kv (fun w1 tys1 hp => ?_))
                    obtain ⟨k215_62, n215_62, e215_62, rfl, rfl, p215_62⟩ := hp
                    exact z_retv (pc := 218) hZ dM_divide_218 rfl ⟨rfl, _, _, _, _, _, rfl, rfl, (by first | exact (((p215_62).1)).1 | exact RK_of ((nokey_).1) | exact RK_of ((nokey_).1) | exact sp_RK (Or.inr (Or.inr rfl)) nokey_ | exact sp_gt p99_52 c102_53 nokey_ | exact sp_RK (Or.inr (Or.inl rfl)) nokey_ | exact sp_RK (Or.inl rfl) nokey_ | exact sp_RK (Or.inr (Or.inl rfl)) nokey_ | exact sp_RK (Or.inl rfl) nokey_)⟩
                  · refine z_iconst (pc := 210) hZ 1 dM_divide_210 (by decide) ?_
                    refine z_goto (pc := 211) hZ 215 dM_divide_211 (by decide) ?_
                    refine z_callV (pc := 215) (As := [.long bits182_57, .int v203_59, .int 1]) (rest := []) hZ (cM_nearest l D cR c1 c2 c3 h0 a1 a2 a3 Y ka na ea kb nb eb k n e bits182_57 scale182_57 K N E bits182_57 v203_59 1 (by exact (p182_57).1.1) (by exact (p182_57).1.2) (by exact di_e (RK_n (r := 0) ra c29_3 (gt_n p99_52 c102_53)) (RK_n (r := 0) rb c37_5 (gt_n p80_50 c83_51)) (p182_57).2 ev198_58 ev203_59)) zyM_nearest (z_goodV ml_M_43 im_M_nearest se_M_nearest in_M co_M_nearest) 0 rfl rfl rfl rfl (by decide) rfl rfl (Nat.le_of_ble_eq_true rfl) ⟨Nat.zero_le _, Nat.zero_le _⟩ dM_divide_215 (z_kv (fun w1 tys1 hp => ?_))
                    obtain ⟨k215_63, n215_63, e215_63, rfl, rfl, p215_63⟩ := hp
                    exact z_retv (pc := 218) hZ dM_divide_218 rfl ⟨rfl, _, _, _, _, _, rfl, rfl, (by first | exact (((p215_63).1)).1 | exact RK_of ((nokey_).1) | exact RK_of ((nokey_).1) | exact sp_RK (Or.inr (Or.inr rfl)) nokey_ | exact sp_gt p99_52 c102_53 nokey_ | exact sp_RK (Or.inr (Or.inl rfl)) nokey_ | exact sp_RK (Or.inl rfl) nokey_ | exact sp_RK (Or.inr (Or.inl rfl)) nokey_ | exact sp_RK (Or.inl rfl) nokey_)⟩
                · refine z_aload_n (pc := 138) hZ 2 dM_divide_138 rfl rfl ?_
                  refine z_iload_n (pc := 139) hZ 1 dM_divide_139 rfl rfl ?_
                  refine z_if_ge (pc := 140) hZ 147 dM_divide_140 (by decide) (fun c140_64 => ?_) (fun c140_64 => ?_)
                  · refine z_iconst (pc := 147) hZ 3 dM_divide_147 (by decide) ?_
                    refine z_callV (pc := 148) (As := [.int 3]) (rest := []) hZ (cM_setSpecial l D cR c1 c2 c3 h0 a1 a2 a3 Y ka na ea kb nb eb k n e bits scale K N E 3) zyM_setSpecial (z_goodV ml_M_35 im_M_setSpecial se_M_setSpecial in_M co_M_setSpecial) 0 rfl rfl rfl rfl (by decide) rfl rfl (Nat.le_of_ble_eq_true rfl) ⟨Nat.zero_le _, Nat.zero_le _⟩ dM_divide_148 (z_kv (fun w1 tys1 hp => ?_))
                    obtain ⟨k148_65, n148_65, e148_65, rfl, rfl, p148_65⟩ := hp
                    refine z_goto (pc := 151) hZ 218 dM_divide_151 (by decide) ?_
                    exact z_retv (pc := 218) hZ dM_divide_218 rfl ⟨rfl, _, _, _, _, _, rfl, rfl, (by first | exact (((nokey_).1)).1 | exact RK_of ((nokey_).1) | exact RK_of ((nokey_).1) | exact sp_RK (Or.inr (Or.inr rfl)) nokey_ | exact sp_gt p99_52 c102_53 nokey_ | exact sp_RK (Or.inr (Or.inl rfl)) nokey_ | exact sp_RK (Or.inl rfl) nokey_ | exact sp_RK (Or.inr (Or.inl rfl)) p148_65 | exact sp_RK (Or.inl rfl) p148_65)⟩
                  · refine z_iconst (pc := 143) hZ 4 dM_divide_143 (by decide) ?_
                    refine z_goto (pc := 144) hZ 148 dM_divide_144 (by decide) ?_
                    refine z_callV (pc := 148) (As := [.int 4]) (rest := []) hZ (cM_setSpecial l D cR c1 c2 c3 h0 a1 a2 a3 Y ka na ea kb nb eb k n e bits scale K N E 4) zyM_setSpecial (z_goodV ml_M_35 im_M_setSpecial se_M_setSpecial in_M co_M_setSpecial) 0 rfl rfl rfl rfl (by decide) rfl rfl (Nat.le_of_ble_eq_true rfl) ⟨Nat.zero_le _, Nat.zero_le _⟩ dM_divide_148 (z_kv (fun w1 tys1 hp => ?_))
                    obtain ⟨k148_66, n148_66, e148_66, rfl, rfl, p148_66⟩ := hp
                    refine z_goto (pc := 151) hZ 218 dM_divide_151 (by decide) ?_
                    exact z_retv (pc := 218) hZ dM_divide_218 rfl ⟨rfl, _, _, _, _, _, rfl, rfl, (by first | exact (((nokey_).1)).1 | exact RK_of ((nokey_).1) | exact RK_of ((nokey_).1) | exact sp_RK (Or.inr (Or.inr rfl)) nokey_ | exact sp_gt p99_52 c102_53 nokey_ | exact sp_RK (Or.inr (Or.inl rfl)) nokey_ | exact sp_RK (Or.inl rfl) nokey_ | exact sp_RK (Or.inr (Or.inl rfl)) p148_66 | exact sp_RK (Or.inl rfl) p148_66)⟩
              · refine z_aload_n (pc := 105) hZ 2 dM_divide_105 rfl rfl ?_
                refine z_iload_n (pc := 106) hZ 0 dM_divide_106 rfl rfl ?_
                refine z_if_ne (pc := 107) hZ 117 dM_divide_107 (by decide) (fun c107_67 => ?_) (fun c107_67 => ?_)
                · refine z_iload_n (pc := 117) hZ 1 dM_divide_117 rfl rfl ?_
                  refine z_iload_n (pc := 118) hZ 0 dM_divide_118 rfl rfl ?_
                  refine z_imul (pc := 119) hZ dM_divide_119 (fun v119_68 ev119_68 => ?_)
                  refine z_if_ge (pc := 120) hZ 127 dM_divide_120 (by decide) (fun c120_69 => ?_) (fun c120_69 => ?_)
                  · refine z_iconst (pc := 127) hZ 3 dM_divide_127 (by decide) ?_
                    refine z_callV (pc := 128) (As := [.int 3]) (rest := []) hZ (cM_setSpecial l D cR c1 c2 c3 h0 a1 a2 a3 Y ka na ea kb nb eb k n e bits scale K N E 3) zyM_setSpecial (z_goodV ml_M_35 im_M_setSpecial se_M_setSpecial in_M co_M_setSpecial) 0 rfl rfl rfl rfl (by decide) rfl rfl (Nat.le_of_ble_eq_true rfl) ⟨Nat.zero_le _, Nat.zero_le _⟩ dM_divide_128 (z_kv (fun w1 tys1 hp => ?_))
                    obtain ⟨k128_70, n128_70, e128_70, rfl, rfl, p128_70⟩ := hp
                    refine z_goto (pc := 131) hZ 218 dM_divide_131 (by decide) ?_
                    exact z_retv (pc := 218) hZ dM_divide_218 rfl ⟨rfl, _, _, _, _, _, rfl, rfl, (by first | exact (((nokey_).1)).1 | exact RK_of ((nokey_).1) | exact RK_of ((nokey_).1) | exact sp_RK (Or.inr (Or.inr rfl)) nokey_ | exact sp_gt p99_52 c102_53 p128_70 | exact sp_RK (Or.inr (Or.inl rfl)) p128_70 | exact sp_RK (Or.inl rfl) p128_70 | exact sp_RK (Or.inr (Or.inl rfl)) nokey_ | exact sp_RK (Or.inl rfl) nokey_)⟩
                  · refine z_iconst (pc := 123) hZ 4 dM_divide_123 (by decide) ?_
                    refine z_goto (pc := 124) hZ 128 dM_divide_124 (by decide) ?_
                    refine z_callV (pc := 128) (As := [.int 4]) (rest := []) hZ (cM_setSpecial l D cR c1 c2 c3 h0 a1 a2 a3 Y ka na ea kb nb eb k n e bits scale K N E 4) zyM_setSpecial (z_goodV ml_M_35 im_M_setSpecial se_M_setSpecial in_M co_M_setSpecial) 0 rfl rfl rfl rfl (by decide) rfl rfl (Nat.le_of_ble_eq_true rfl) ⟨Nat.zero_le _, Nat.zero_le _⟩ dM_divide_128 (z_kv (fun w1 tys1 hp => ?_))
                    obtain ⟨k128_71, n128_71, e128_71, rfl, rfl, p128_71⟩ := hp
                    refine z_goto (pc := 131) hZ 218 dM_divide_131 (by decide) ?_
                    exact z_retv (pc := 218) hZ dM_divide_218 rfl ⟨rfl, _, _, _, _, _, rfl, rfl, (by first | exact (((nokey_).1)).1 | exact RK_of ((nokey_).1) | exact RK_of ((nokey_).1) | exact sp_RK (Or.inr (Or.inr rfl)) nokey_ | exact sp_gt p99_52 c102_53 p128_71 | exact sp_RK (Or.inr (Or.inl rfl)) p128_71 | exact sp_RK (Or.inl rfl) p128_71 | exact sp_RK (Or.inr (Or.inl rfl)) nokey_ | exact sp_RK (Or.inl rfl) nokey_)⟩
                · refine z_aload_n (pc := 110) hZ 2 dM_divide_110 rfl rfl ?_
                  refine z_get (pc := 111) (ci := 2) hZ 0 rfl rfl uc_M 3 (by decide) (zb fl_M_51) rfl dM_divide_111 ?_
                  refine z_goto (pc := 114) hZ 128 dM_divide_114 (by decide) ?_
                  refine z_callV (pc := 128) (As := [.int ka]) (rest := []) hZ (cM_setSpecial l D cR c1 c2 c3 h0 a1 a2 a3 Y ka na ea kb nb eb k n e bits scale K N E ka) zyM_setSpecial (z_goodV ml_M_35 im_M_setSpecial se_M_setSpecial in_M co_M_setSpecial) 0 rfl rfl rfl rfl (by decide) rfl rfl (Nat.le_of_ble_eq_true rfl) ⟨Nat.zero_le _, Nat.zero_le _⟩ dM_divide_128 (z_kv (fun w1 tys1 hp => ?_))
                  obtain ⟨k128_72, n128_72, e128_72, rfl, rfl, p128_72⟩ := hp
                  refine z_goto (pc := 131) hZ 218 dM_divide_131 (by decide) ?_
                  exact z_retv (pc := 218) hZ dM_divide_218 rfl ⟨rfl, _, _, _, _, _, rfl, rfl, (by first | exact (((nokey_).1)).1 | exact RK_of ((nokey_).1) | exact RK_of ((nokey_).1) | exact sp_RK (Or.inr (Or.inr rfl)) nokey_ | exact sp_gt p99_52 c102_53 p128_72 | exact sp_RK (Or.inr (Or.inl rfl)) p128_72 | exact sp_RK (Or.inl rfl) p128_72 | exact sp_RK (Or.inr (Or.inl rfl)) nokey_ | exact sp_RK (Or.inl rfl) nokey_)⟩
            · refine z_aload_n (pc := 86) hZ 2 dM_divide_86 rfl rfl ?_
              refine z_lconst (pc := 87) hZ 0 dM_divide_87 (by decide) ?_
              refine z_iconst (pc := 88) hZ 0 dM_divide_88 (by decide) ?_
              refine z_callV (pc := 89) (As := [.long 0, .int 0]) (rest := []) hZ (cM_plain l D cR c1 c2 c3 h0 a1 a2 a3 Y ka na ea kb nb eb k n e bits scale K N E 0 0 (by exact Or.inl rfl)) zyM_plain (z_goodV ml_M_31 im_M_plain se_M_plain in_M co_M_plain) 0 rfl rfl rfl rfl (by decide) rfl rfl (Nat.le_of_ble_eq_true rfl) ⟨Nat.zero_le _, Nat.zero_le _⟩ dM_divide_89 (z_kv (fun w1 tys1 hp => ?_))
              obtain ⟨k89_73, n89_73, e89_73, rfl, rfl, p89_73⟩ := hp
              refine z_goto (pc := 92) hZ 218 dM_divide_92 (by decide) ?_
              exact z_retv (pc := 218) hZ dM_divide_218 rfl ⟨rfl, _, _, _, _, _, rfl, rfl, (by first | exact (((nokey_).1)).1 | exact RK_of ((nokey_).1) | exact RK_of ((p89_73).1) | exact sp_RK (Or.inr (Or.inr rfl)) nokey_ | exact sp_gt nokey_ nokey_ nokey_ | exact sp_RK (Or.inr (Or.inl rfl)) nokey_ | exact sp_RK (Or.inl rfl) nokey_ | exact sp_RK (Or.inr (Or.inl rfl)) nokey_ | exact sp_RK (Or.inl rfl) nokey_)⟩
          · refine z_iload_n (pc := 64) hZ 0 dM_divide_64 rfl rfl ?_
            refine z_if_ne (pc := 65) hZ 76 dM_divide_65 (by decide) (fun c65_74 => ?_) (fun c65_74 => ?_)
            · refine z_aload_n (pc := 76) hZ 2 dM_divide_76 rfl rfl ?_
              refine z_get (pc := 77) (ci := 2) hZ 0 rfl rfl uc_M 6 (by decide) (zb fl_M_60) rfl dM_divide_77 ?_
              refine z_callS (pc := 80) (As := [.int kb]) (rest := []) hZ (cM_isGreat l D (TY cR c1 c2 c3) (MW h0 a1 a2 a3 c1 c2 c3 (ka, na, ea, kb, nb, eb, k, n, e, bits, scale, K, N, E) ++ Y) kb) zyM_isGreat (z_goodS ml_M_86 st_M_isGreat in_M co_M_isGreat) rfl rfl (by decide) rfl rfl (Nat.le_of_ble_eq_true rfl) ⟨Nat.zero_le _, Nat.zero_le _⟩ dM_divide_80 (z_ki (fun r80_75 w1 tys1 hp => ?_))
              obtain ⟨rfl, rfl, p80_75⟩ := hp
              refine z_if_eq (pc := 83) hZ 95 dM_divide_83 (by decide) (fun c83_76 => ?_) (fun c83_76 => ?_)
              · refine z_aload_n (pc := 95) hZ 2 dM_divide_95 rfl rfl ?_
                refine z_get (pc := 96) (ci := 2) hZ 0 rfl rfl uc_M 3 (by decide) (zb fl_M_51) rfl dM_divide_96 ?_
                refine z_callS (pc := 99) (As := [.int ka]) (rest := []) hZ (cM_isGreat l D (TY cR c1 c2 c3) (MW h0 a1 a2 a3 c1 c2 c3 (ka, na, ea, kb, nb, eb, k, n, e, bits, scale, K, N, E) ++ Y) ka) zyM_isGreat (z_goodS ml_M_86 st_M_isGreat in_M co_M_isGreat) rfl rfl (by decide) rfl rfl (Nat.le_of_ble_eq_true rfl) ⟨Nat.zero_le _, Nat.zero_le _⟩ dM_divide_99 (z_ki (fun r99_77 w1 tys1 hp => ?_))
                obtain ⟨rfl, rfl, p99_77⟩ := hp
                refine z_if_eq (pc := 102) hZ 134 dM_divide_102 (by decide) (fun c102_78 => ?_) (fun c102_78 => ?_)
                · refine z_iload_n (pc := 134) hZ 0 dM_divide_134 rfl rfl ?_
                  refine z_if_ne (pc := 135) hZ 154 dM_divide_135 (by decide) (fun c135 => ?_) (fun c9 => False.elim (by first | exact absurd c9 c65_74 | exact absurd c65_74 c9 | exact absurd c9 (Int32.not_lt.mpr c65_74) | exact absurd c9 (Int32.not_le.mpr c65_74) | exact c9 ((Int32.not_lt).mp c65_74) | exact c9 ((Int32.not_le).mp c65_74)))
                  refine z_iload_n (pc := 154) hZ 1 dM_divide_154 rfl rfl ?_
                  refine z_if_ne (pc := 155) hZ 167 dM_divide_155 (by decide) (fun c9 => False.elim (by first | exact absurd c9 c61_49 | exact absurd c61_49 c9 | exact absurd c9 (Int32.not_lt.mpr c61_49) | exact absurd c9 (Int32.not_le.mpr c61_49) | exact c9 ((Int32.not_lt).mp c61_49) | exact c9 ((Int32.not_le).mp c61_49))) (fun c155 => ?_)
                  refine z_aload_n (pc := 158) hZ 2 dM_divide_158 rfl rfl ?_
                  refine z_lconst (pc := 159) hZ 0 dM_divide_159 (by decide) ?_
                  refine z_iconst (pc := 160) hZ 0 dM_divide_160 (by decide) ?_
                  refine z_callV (pc := 161) (As := [.long 0, .int 0]) (rest := []) hZ (cM_plain l D cR c1 c2 c3 h0 a1 a2 a3 Y ka na ea kb nb eb k n e bits scale K N E 0 0 (by exact Or.inl rfl)) zyM_plain (z_goodV ml_M_31 im_M_plain se_M_plain in_M co_M_plain) 0 rfl rfl rfl rfl (by decide) rfl rfl (Nat.le_of_ble_eq_true rfl) ⟨Nat.zero_le _, Nat.zero_le _⟩ dM_divide_161 (z_kv (fun w1 tys1 hp => ?_))
                  obtain ⟨k161_79, n161_79, e161_79, rfl, rfl, p161_79⟩ := hp
                  refine z_goto (pc := 164) hZ 218 dM_divide_164 (by decide) ?_
                  exact z_retv (pc := 218) hZ dM_divide_218 rfl ⟨rfl, _, _, _, _, _, rfl, rfl, (by first | exact (((nokey_).1)).1 | exact RK_of ((p161_79).1) | exact RK_of ((nokey_).1) | exact sp_RK (Or.inr (Or.inr rfl)) nokey_ | exact sp_gt p99_77 c102_78 nokey_ | exact sp_RK (Or.inr (Or.inl rfl)) nokey_ | exact sp_RK (Or.inl rfl) nokey_ | exact sp_RK (Or.inr (Or.inl rfl)) nokey_ | exact sp_RK (Or.inl rfl) nokey_)⟩
                · refine z_aload_n (pc := 105) hZ 2 dM_divide_105 rfl rfl ?_
                  refine z_iload_n (pc := 106) hZ 0 dM_divide_106 rfl rfl ?_
                  refine z_if_ne (pc := 107) hZ 117 dM_divide_107 (by decide) (fun c107 => ?_) (fun c9 => False.elim (by first | exact absurd c9 c65_74 | exact absurd c65_74 c9 | exact absurd c9 (Int32.not_lt.mpr c65_74) | exact absurd c9 (Int32.not_le.mpr c65_74) | exact c9 ((Int32.not_lt).mp c65_74) | exact c9 ((Int32.not_le).mp c65_74)))
                  refine z_iload_n (pc := 117) hZ 1 dM_divide_117 rfl rfl ?_
                  refine z_iload_n (pc := 118) hZ 0 dM_divide_118 rfl rfl ?_
                  refine z_imul (pc := 119) hZ dM_divide_119 (fun v119_80 ev119_80 => ?_)
                  refine z_if_ge (pc := 120) hZ 127 dM_divide_120 (by decide) (fun c120_81 => ?_) (fun c120_81 => ?_)
                  · refine z_iconst (pc := 127) hZ 3 dM_divide_127 (by decide) ?_
                    refine z_callV (pc := 128) (As := [.int 3]) (rest := []) hZ (cM_setSpecial l D cR c1 c2 c3 h0 a1 a2 a3 Y ka na ea kb nb eb k n e bits scale K N E 3) zyM_setSpecial (z_goodV ml_M_35 im_M_setSpecial se_M_setSpecial in_M co_M_setSpecial) 0 rfl rfl rfl rfl (by decide) rfl rfl (Nat.le_of_ble_eq_true rfl) ⟨Nat.zero_le _, Nat.zero_le _⟩ dM_divide_128 (z_kv (fun w1 tys1 hp => ?_))
                    obtain ⟨k128_82, n128_82, e128_82, rfl, rfl, p128_82⟩ := hp
                    refine z_goto (pc := 131) hZ 218 dM_divide_131 (by decide) ?_
                    exact z_retv (pc := 218) hZ dM_divide_218 rfl ⟨rfl, _, _, _, _, _, rfl, rfl, (by first | exact (((nokey_).1)).1 | exact RK_of ((nokey_).1) | exact RK_of ((nokey_).1) | exact sp_RK (Or.inr (Or.inr rfl)) nokey_ | exact sp_gt p99_77 c102_78 p128_82 | exact sp_RK (Or.inr (Or.inl rfl)) p128_82 | exact sp_RK (Or.inl rfl) p128_82 | exact sp_RK (Or.inr (Or.inl rfl)) nokey_ | exact sp_RK (Or.inl rfl) nokey_)⟩
                  · refine z_iconst (pc := 123) hZ 4 dM_divide_123 (by decide) ?_
                    refine z_goto (pc := 124) hZ 128 dM_divide_124 (by decide) ?_
                    refine z_callV (pc := 128) (As := [.int 4]) (rest := []) hZ (cM_setSpecial l D cR c1 c2 c3 h0 a1 a2 a3 Y ka na ea kb nb eb k n e bits scale K N E 4) zyM_setSpecial (z_goodV ml_M_35 im_M_setSpecial se_M_setSpecial in_M co_M_setSpecial) 0 rfl rfl rfl rfl (by decide) rfl rfl (Nat.le_of_ble_eq_true rfl) ⟨Nat.zero_le _, Nat.zero_le _⟩ dM_divide_128 (z_kv (fun w1 tys1 hp => ?_))
                    obtain ⟨k128_83, n128_83, e128_83, rfl, rfl, p128_83⟩ := hp
                    refine z_goto (pc := 131) hZ 218 dM_divide_131 (by decide) ?_
                    exact z_retv (pc := 218) hZ dM_divide_218 rfl ⟨rfl, _, _, _, _, _, rfl, rfl, (by first | exact (((nokey_).1)).1 | exact RK_of ((nokey_).1) | exact RK_of ((nokey_).1) | exact sp_RK (Or.inr (Or.inr rfl)) nokey_ | exact sp_gt p99_77 c102_78 p128_83 | exact sp_RK (Or.inr (Or.inl rfl)) p128_83 | exact sp_RK (Or.inl rfl) p128_83 | exact sp_RK (Or.inr (Or.inl rfl)) nokey_ | exact sp_RK (Or.inl rfl) nokey_)⟩
              · refine z_aload_n (pc := 86) hZ 2 dM_divide_86 rfl rfl ?_
                refine z_lconst (pc := 87) hZ 0 dM_divide_87 (by decide) ?_
                refine z_iconst (pc := 88) hZ 0 dM_divide_88 (by decide) ?_
                refine z_callV (pc := 89) (As := [.long 0, .int 0]) (rest := []) hZ (cM_plain l D cR c1 c2 c3 h0 a1 a2 a3 Y ka na ea kb nb eb k n e bits scale K N E 0 0 (by exact Or.inl rfl)) zyM_plain (z_goodV ml_M_31 im_M_plain se_M_plain in_M co_M_plain) 0 rfl rfl rfl rfl (by decide) rfl rfl (Nat.le_of_ble_eq_true rfl) ⟨Nat.zero_le _, Nat.zero_le _⟩ dM_divide_89 (z_kv (fun w1 tys1 hp => ?_))
                obtain ⟨k89_84, n89_84, e89_84, rfl, rfl, p89_84⟩ := hp
                refine z_goto (pc := 92) hZ 218 dM_divide_92 (by decide) ?_
                exact z_retv (pc := 218) hZ dM_divide_218 rfl ⟨rfl, _, _, _, _, _, rfl, rfl, (by first | exact (((nokey_).1)).1 | exact RK_of ((nokey_).1) | exact RK_of ((p89_84).1) | exact sp_RK (Or.inr (Or.inr rfl)) nokey_ | exact sp_gt nokey_ nokey_ nokey_ | exact sp_RK (Or.inr (Or.inl rfl)) nokey_ | exact sp_RK (Or.inl rfl) nokey_ | exact sp_RK (Or.inr (Or.inl rfl)) nokey_ | exact sp_RK (Or.inl rfl) nokey_)⟩
            · refine z_aload_n (pc := 68) hZ 2 dM_divide_68 rfl rfl ?_
              refine z_iconst (pc := 69) hZ 5 dM_divide_69 (by decide) ?_
              refine z_callV (pc := 70) (As := [.int 5]) (rest := []) hZ (cM_setSpecial l D cR c1 c2 c3 h0 a1 a2 a3 Y ka na ea kb nb eb k n e bits scale K N E 5) zyM_setSpecial (z_goodV ml_M_35 im_M_setSpecial se_M_setSpecial in_M co_M_setSpecial) 0 rfl rfl rfl rfl (by decide) rfl rfl (Nat.le_of_ble_eq_true rfl) ⟨Nat.zero_le _, Nat.zero_le _⟩ dM_divide_70 (z_kv (fun w1 tys1 hp => ?_))
              obtain ⟨k70_85, n70_85, e70_85, rfl, rfl, p70_85⟩ := hp
              refine z_goto (pc := 73) hZ 218 dM_divide_73 (by decide) ?_
              exact z_retv (pc := 218) hZ dM_divide_218 rfl ⟨rfl, _, _, _, _, _, rfl, rfl, (by first | exact (((nokey_).1)).1 | exact RK_of ((nokey_).1) | exact RK_of ((nokey_).1) | exact sp_RK (Or.inr (Or.inr rfl)) p70_85 | exact sp_gt nokey_ nokey_ nokey_ | exact sp_RK (Or.inr (Or.inl rfl)) nokey_ | exact sp_RK (Or.inl rfl) nokey_ | exact sp_RK (Or.inr (Or.inl rfl)) nokey_ | exact sp_RK (Or.inl rfl) nokey_)⟩
set_option maxHeartbeats 4000000 in
set_option maxRecDepth 100000 in
theorem cM_roundDown (l : Launch) (D : va_G) (cR c1 c2 c3 : ClassId) (h0 a1 a2 a3 : Nat) (Y : va_W) (ka : Int32) (na : Int64) (ea : Int32) (kb : Int32) (nb : Int64) (eb : Int32) (k : Int32) (n : Int64) (e : Int32) (bits : Int64) (scale : Int32) (K : Nat → Int32) (N : Nat → Int64) (E : Nat → Int32) (vk : VK k n e) : zM l D vwCl zNF zNM yM_roundDown wsM_roundDown { frames := 1, cells := 0, slots := 0, locals := 23 } [.ref h0] (MW h0 a1 a2 a3 c1 c2 c3 (ka, na, ea, kb, nb, eb, k, n, e, bits, scale, K, N, E) ++ Y) (TY cR c1 c2 c3) (qV (fun w' tys' => ∃ k' : Int32, ∃ n' : Int64, ∃ e' : Int32, MW h0 a1 a2 a3 c1 c2 c3 (ka, na, ea, kb, nb, eb, k', n', e', bits, scale, K, N, E) ++ Y = w' ∧ (TY cR c1 c2 c3) = tys' ∧ (VK k' n' e'))) := by
  refine z_met (cc := bM_roundDown) (maxL := 1) (ret := none) (isI := false) (own := RM) (by decide +kernel) rfl rfl (fun h => by cases h) (Nat.le_of_ble_eq_true rfl) (fun Z hZ => ?_)
  show Z 0 0 (TY cR c1 c2 c3) 0 [(0, .ref h0)] [] (MW h0 a1 a2 a3 c1 c2 c3 (ka, na, ea, kb, nb, eb, k, n, e, bits, scale, K, N, E) ++ Y)
  refine z_aload_n (pc := 0) hZ 0 dM_roundDown_0 rfl rfl ?_
  refine z_get (pc := 1) (ci := 2) hZ 0 rfl rfl uc_M 9 (by decide) (zb fl_M_20) rfl dM_roundDown_1 ?_
  refine z_iconst (pc := 4) hZ 2 dM_roundDown_4 (by decide) ?_
  refine z_icmp_ne (pc := 5) hZ 15 dM_roundDown_5 (by decide) (fun c5_1 => ?_) (fun c5_1 => ?_)
  · exact z_retv (pc := 15) hZ dM_roundDown_15 rfl ⟨rfl, _, _, _, rfl, rfl, (by first | exact VK_2 ((nokey_).1) | exact VK_2 ((nokey_).1) | exact vk)⟩
  · refine z_aload_n (pc := 8) hZ 0 dM_roundDown_8 rfl rfl ?_
    refine z_get (pc := 9) (ci := 2) hZ 0 rfl rfl uc_M 11 (by decide) (zb fl_M_28) rfl dM_roundDown_9 ?_
    refine z_if_lt (pc := 12) hZ 16 dM_roundDown_12 (by decide) (fun c12_2 => ?_) (fun c12_2 => ?_)
    · refine z_aload_n (pc := 16) hZ 0 dM_roundDown_16 rfl rfl ?_
      refine z_get (pc := 17) (ci := 2) hZ 0 rfl rfl uc_M 11 (by decide) (zb fl_M_28) rfl dM_roundDown_17 ?_
      refine z_bipush (pc := 20) hZ (-62) dM_roundDown_20 (by decide) ?_
      refine z_icmp_ge (pc := 22) hZ 49 dM_roundDown_22 (by decide) (fun c22_3 => ?_) (fun c22_3 => ?_)
      · refine z_aload_n (pc := 49) hZ 0 dM_roundDown_49 rfl rfl ?_
        refine z_aload_n (pc := 50) hZ 0 dM_roundDown_50 rfl rfl ?_
        refine z_get (pc := 51) (ci := 2) hZ 0 rfl rfl uc_M 10 (by decide) (zb fl_M_24) rfl dM_roundDown_51 ?_
        refine z_aload_n (pc := 54) hZ 0 dM_roundDown_54 rfl rfl ?_
        refine z_get (pc := 55) (ci := 2) hZ 0 rfl rfl uc_M 11 (by decide) (zb fl_M_28) rfl dM_roundDown_55 ?_
        refine z_ineg (pc := 58) hZ dM_roundDown_58 (fun v58_4 ev58_4 => ?_)
        refine z_lshr (pc := 59) hZ dM_roundDown_59 (fun v59_5 ev59_5 => ?_)
        refine z_iconst (pc := 60) hZ 0 dM_roundDown_60 (by decide) ?_
        refine z_callV (pc := 61) (As := [.long v59_5, .int 0]) (rest := []) hZ (cM_plain l D cR c1 c2 c3 h0 a1 a2 a3 Y ka na ea kb nb eb k n e bits scale K N E v59_5 0 (by exact ro_pp (VK_2' vk c5_1) c12_2 c22_3 ev58_4 ev59_5)) zyM_plain (z_goodV ml_M_31 im_M_plain se_M_plain in_M co_M_plain) 0 rfl rfl rfl rfl (by decide) rfl rfl (Nat.le_of_ble_eq_true rfl) ⟨Nat.zero_le _, Nat.zero_le _⟩ dM_roundDown_61 (z_kv (fun w1 tys1 hp => ?_))
        obtain ⟨k61_6, n61_6, e61_6, rfl, rfl, p61_6⟩ := hp
        exact z_retv (pc := 64) hZ dM_roundDown_64 rfl ⟨rfl, _, _, _, rfl, rfl, (by first | exact VK_2 ((p61_6).1) | exact VK_2 ((nokey_).1) | exact vk)⟩
      · refine z_aload_n (pc := 25) hZ 0 dM_roundDown_25 rfl rfl ?_
        refine z_aload_n (pc := 26) hZ 0 dM_roundDown_26 rfl rfl ?_
        refine z_get (pc := 27) (ci := 2) hZ 0 rfl rfl uc_M 10 (by decide) (zb fl_M_24) rfl dM_roundDown_27 ?_
        refine z_lconst (pc := 30) hZ 0 dM_roundDown_30 (by decide) ?_
        refine z_lif_ge (pc := 31) hZ 41 dM_roundDown_31 dM_roundDown_32 (by decide) (fun c32_7 => ?_) (fun c32_7 => ?_)
        · refine z_lconst (pc := 41) hZ 0 dM_roundDown_41 (by decide) ?_
          refine z_iconst (pc := 42) hZ 0 dM_roundDown_42 (by decide) ?_
          refine z_callV (pc := 43) (As := [.long 0, .int 0]) (rest := []) hZ (cM_plain l D cR c1 c2 c3 h0 a1 a2 a3 Y ka na ea kb nb eb k n e bits scale K N E 0 0 (by first | exact Or.inl rfl | exact PP_m1)) zyM_plain (z_goodV ml_M_31 im_M_plain se_M_plain in_M co_M_plain) 0 rfl rfl rfl rfl (by decide) rfl rfl (Nat.le_of_ble_eq_true rfl) ⟨Nat.zero_le _, Nat.zero_le _⟩ dM_roundDown_43 (z_kv (fun w1 tys1 hp => ?_))
          obtain ⟨k43_8, n43_8, e43_8, rfl, rfl, p43_8⟩ := hp
          refine z_goto (pc := 46) hZ 64 dM_roundDown_46 (by decide) ?_
          exact z_retv (pc := 64) hZ dM_roundDown_64 rfl ⟨rfl, _, _, _, rfl, rfl, (by first | exact VK_2 ((nokey_).1) | exact VK_2 ((p43_8).1) | exact vk)⟩
        · refine z_ldc2 (pc := 35) hZ (-1) (zb kc_M_112) dM_roundDown_35 ?_
          refine z_goto (pc := 38) hZ 42 dM_roundDown_38 (by decide) ?_
          refine z_iconst (pc := 42) hZ 0 dM_roundDown_42 (by decide) ?_
          refine z_callV (pc := 43) (As := [.long (-1), .int 0]) (rest := []) hZ (cM_plain l D cR c1 c2 c3 h0 a1 a2 a3 Y ka na ea kb nb eb k n e bits scale K N E (-1) 0 (by first | exact Or.inl rfl | exact PP_m1)) zyM_plain (z_goodV ml_M_31 im_M_plain se_M_plain in_M co_M_plain) 0 rfl rfl rfl rfl (by decide) rfl rfl (Nat.le_of_ble_eq_true rfl) ⟨Nat.zero_le _, Nat.zero_le _⟩ dM_roundDown_43 (z_kv (fun w1 tys1 hp => ?_))
          obtain ⟨k43_9, n43_9, e43_9, rfl, rfl, p43_9⟩ := hp
          refine z_goto (pc := 46) hZ 64 dM_roundDown_46 (by decide) ?_
          exact z_retv (pc := 64) hZ dM_roundDown_64 rfl ⟨rfl, _, _, _, rfl, rfl, (by first | exact VK_2 ((nokey_).1) | exact VK_2 ((p43_9).1) | exact vk)⟩
    · exact z_retv (pc := 15) hZ dM_roundDown_15 rfl ⟨rfl, _, _, _, rfl, rfl, (by first | exact VK_2 ((nokey_).1) | exact VK_2 ((nokey_).1) | exact vk)⟩
set_option maxHeartbeats 4000000 in
set_option maxRecDepth 100000 in
theorem cM_remainder (l : Launch) (D : va_G) (cR c1 c2 c3 : ClassId) (h0 a1 a2 a3 : Nat) (Y : va_W) (ka : Int32) (na : Int64) (ea : Int32) (kb : Int32) (nb : Int64) (eb : Int32) (k : Int32) (n : Int64) (e : Int32) (bits : Int64) (scale : Int32) (K : Nat → Int32) (N : Nat → Int64) (E : Nat → Int32) (ra : RK ka na ea) (rb : RK kb nb eb) : zM l D vwCl zNF zNM yM_remainder wsM_remainder { frames := 4, cells := 0, slots := 0, locals := 115 } [.ref h0] (MW h0 a1 a2 a3 c1 c2 c3 (ka, na, ea, kb, nb, eb, k, n, e, bits, scale, K, N, E) ++ Y) (TY cR c1 c2 c3) (qV (fun w' tys' => ∃ ka' : Int32, ∃ na' : Int64, ∃ ea' : Int32, ∃ k' : Int32, ∃ n' : Int64, ∃ e' : Int32, ∃ bits' : Int64, ∃ scale' : Int32, MW h0 a1 a2 a3 c1 c2 c3 (ka', na', ea', kb, nb, eb, k', n', e', bits', scale', K, N, E) ++ Y = w' ∧ (TY cR c1 c2 c3) = tys' ∧ (RK k' n' e'))) := by
  refine z_met (cc := bM_remainder) (maxL := 3) (ret := none) (isI := false) (own := RM) (by decide +kernel) rfl rfl (fun h => by cases h) (Nat.le_of_ble_eq_true rfl) (fun Z hZ => ?_)
  show Z 0 0 (TY cR c1 c2 c3) 0 [(0, .ref h0)] [] (MW h0 a1 a2 a3 c1 c2 c3 (ka, na, ea, kb, nb, eb, k, n, e, bits, scale, K, N, E) ++ Y)
  refine z_aload_n (pc := 0) hZ 0 dM_remainder_0 rfl rfl ?_
  refine z_get (pc := 1) (ci := 2) hZ 0 rfl rfl uc_M 3 (by decide) (zb fl_M_51) rfl dM_remainder_1 ?_
  refine z_aload_n (pc := 4) hZ 0 dM_remainder_4 rfl rfl ?_
  refine z_get (pc := 5) (ci := 2) hZ 0 rfl rfl uc_M 4 (by decide) (zb fl_M_54) rfl dM_remainder_5 ?_
  refine z_callS (pc := 8) (As := [.int ka, .long na]) (rest := []) hZ (cM_signOf l D (TY cR c1 c2 c3) (MW h0 a1 a2 a3 c1 c2 c3 (ka, na, ea, kb, nb, eb, k, n, e, bits, scale, K, N, E) ++ Y) ka na) zyM_signOf (z_goodS ml_M_101 st_M_signOf in_M co_M_signOf) rfl rfl (by decide) rfl rfl (Nat.le_of_ble_eq_true rfl) ⟨Nat.zero_le _, Nat.zero_le _⟩ dM_remainder_8 (z_ki (fun r8_1 w1 tys1 hp => ?_))
  obtain ⟨rfl, rfl, p8_1⟩ := hp
  refine z_istore_n (pc := 11) hZ [(1, .int r8_1), (0, .ref h0)] dM_remainder_11 rfl (by decide) rfl ?_
  refine z_aload_n (pc := 12) hZ 1 dM_remainder_12 rfl rfl ?_
  refine z_get (pc := 13) (ci := 2) hZ 0 rfl rfl uc_M 6 (by decide) (zb fl_M_60) rfl dM_remainder_13 ?_
  refine z_aload_n (pc := 16) hZ 1 dM_remainder_16 rfl rfl ?_
  refine z_get (pc := 17) (ci := 2) hZ 0 rfl rfl uc_M 7 (by decide) (zb fl_M_63) rfl dM_remainder_17 ?_
  refine z_callS (pc := 20) (As := [.int kb, .long nb]) (rest := []) hZ (cM_signOf l D (TY cR c1 c2 c3) (MW h0 a1 a2 a3 c1 c2 c3 (ka, na, ea, kb, nb, eb, k, n, e, bits, scale, K, N, E) ++ Y) kb nb) zyM_signOf (z_goodS ml_M_101 st_M_signOf in_M co_M_signOf) rfl rfl (by decide) rfl rfl (Nat.le_of_ble_eq_true rfl) ⟨Nat.zero_le _, Nat.zero_le _⟩ dM_remainder_20 (z_ki (fun r20_2 w1 tys1 hp => ?_))
  obtain ⟨rfl, rfl, p20_2⟩ := hp
  refine z_istore_n (pc := 23) hZ [(2, .int r20_2), (1, .int r8_1), (0, .ref h0)] dM_remainder_23 rfl (by decide) rfl ?_
  refine z_aload_n (pc := 24) hZ 2 dM_remainder_24 rfl rfl ?_
  refine z_get (pc := 25) (ci := 2) hZ 0 rfl rfl uc_M 3 (by decide) (zb fl_M_51) rfl dM_remainder_25 ?_
  refine z_iconst (pc := 28) hZ 5 dM_remainder_28 (by decide) ?_
  refine z_icmp_eq (pc := 29) hZ 54 dM_remainder_29 (by decide) (fun c29_3 => ?_) (fun c29_3 => ?_)
  · refine z_aload_n (pc := 54) hZ 2 dM_remainder_54 rfl rfl ?_
    refine z_iconst (pc := 55) hZ 5 dM_remainder_55 (by decide) ?_
    refine z_callV (pc := 56) (As := [.int 5]) (rest := []) hZ (cM_setSpecial l D cR c1 c2 c3 h0 a1 a2 a3 Y ka na ea kb nb eb k n e bits scale K N E 5) zyM_setSpecial (z_goodV ml_M_35 im_M_setSpecial se_M_setSpecial in_M co_M_setSpecial) 0 rfl rfl rfl rfl (by decide) rfl rfl (Nat.le_of_ble_eq_true rfl) ⟨Nat.zero_le _, Nat.zero_le _⟩ dM_remainder_56 (z_kv (fun w1 tys1 hp => ?_))
    obtain ⟨k56_4, n56_4, e56_4, rfl, rfl, p56_4⟩ := hp
    refine z_goto (pc := 59) hZ 196 dM_remainder_59 (by decide) ?_
    exact z_retv (pc := 196) hZ dM_remainder_196 rfl ⟨rfl, _, _, _, _, _, _, _, _, rfl, rfl, (by first | exact nokey_ | exact RK_of ((nokey_).1) | exact RK_of ((nokey_).1) | exact RK_of ((nokey_).1) | exact sp_RK (Or.inr (Or.inr rfl)) p56_4 | exact sp_gt nokey_ nokey_ nokey_)⟩
  · refine z_aload_n (pc := 32) hZ 2 dM_remainder_32 rfl rfl ?_
    refine z_get (pc := 33) (ci := 2) hZ 0 rfl rfl uc_M 6 (by decide) (zb fl_M_60) rfl dM_remainder_33 ?_
    refine z_iconst (pc := 36) hZ 5 dM_remainder_36 (by decide) ?_
    refine z_icmp_eq (pc := 37) hZ 54 dM_remainder_37 (by decide) (fun c37_5 => ?_) (fun c37_5 => ?_)
    · refine z_aload_n (pc := 54) hZ 2 dM_remainder_54 rfl rfl ?_
      refine z_iconst (pc := 55) hZ 5 dM_remainder_55 (by decide) ?_
      refine z_callV (pc := 56) (As := [.int 5]) (rest := []) hZ (cM_setSpecial l D cR c1 c2 c3 h0 a1 a2 a3 Y ka na ea kb nb eb k n e bits scale K N E 5) zyM_setSpecial (z_goodV ml_M_35 im_M_setSpecial se_M_setSpecial in_M co_M_setSpecial) 0 rfl rfl rfl rfl (by decide) rfl rfl (Nat.le_of_ble_eq_true rfl) ⟨Nat.zero_le _, Nat.zero_le _⟩ dM_remainder_56 (z_kv (fun w1 tys1 hp => ?_))
      obtain ⟨k56_6, n56_6, e56_6, rfl, rfl, p56_6⟩ := hp
      refine z_goto (pc := 59) hZ 196 dM_remainder_59 (by decide) ?_
      exact z_retv (pc := 196) hZ dM_remainder_196 rfl ⟨rfl, _, _, _, _, _, _, _, _, rfl, rfl, (by first | exact nokey_ | exact RK_of ((nokey_).1) | exact RK_of ((nokey_).1) | exact RK_of ((nokey_).1) | exact sp_RK (Or.inr (Or.inr rfl)) p56_6 | exact sp_gt nokey_ nokey_ nokey_)⟩
    · refine z_aload_n (pc := 40) hZ 2 dM_remainder_40 rfl rfl ?_
      refine z_get (pc := 41) (ci := 2) hZ 0 rfl rfl uc_M 3 (by decide) (zb fl_M_51) rfl dM_remainder_41 ?_
      refine z_callS (pc := 44) (As := [.int ka]) (rest := []) hZ (cM_isGreat l D (TY cR c1 c2 c3) (MW h0 a1 a2 a3 c1 c2 c3 (ka, na, ea, kb, nb, eb, k, n, e, bits, scale, K, N, E) ++ Y) ka) zyM_isGreat (z_goodS ml_M_86 st_M_isGreat in_M co_M_isGreat) rfl rfl (by decide) rfl rfl (Nat.le_of_ble_eq_true rfl) ⟨Nat.zero_le _, Nat.zero_le _⟩ dM_remainder_44 (z_ki (fun r44_7 w1 tys1 hp => ?_))
      obtain ⟨rfl, rfl, p44_7⟩ := hp
      refine z_if_ne (pc := 47) hZ 54 dM_remainder_47 (by decide) (fun c47_8 => ?_) (fun c47_8 => ?_)
      · refine z_aload_n (pc := 54) hZ 2 dM_remainder_54 rfl rfl ?_
        refine z_iconst (pc := 55) hZ 5 dM_remainder_55 (by decide) ?_
        refine z_callV (pc := 56) (As := [.int 5]) (rest := []) hZ (cM_setSpecial l D cR c1 c2 c3 h0 a1 a2 a3 Y ka na ea kb nb eb k n e bits scale K N E 5) zyM_setSpecial (z_goodV ml_M_35 im_M_setSpecial se_M_setSpecial in_M co_M_setSpecial) 0 rfl rfl rfl rfl (by decide) rfl rfl (Nat.le_of_ble_eq_true rfl) ⟨Nat.zero_le _, Nat.zero_le _⟩ dM_remainder_56 (z_kv (fun w1 tys1 hp => ?_))
        obtain ⟨k56_9, n56_9, e56_9, rfl, rfl, p56_9⟩ := hp
        refine z_goto (pc := 59) hZ 196 dM_remainder_59 (by decide) ?_
        exact z_retv (pc := 196) hZ dM_remainder_196 rfl ⟨rfl, _, _, _, _, _, _, _, _, rfl, rfl, (by first | exact nokey_ | exact RK_of ((nokey_).1) | exact RK_of ((nokey_).1) | exact RK_of ((nokey_).1) | exact sp_RK (Or.inr (Or.inr rfl)) p56_9 | exact sp_gt nokey_ nokey_ nokey_)⟩
      · refine z_iload_n (pc := 50) hZ 0 dM_remainder_50 rfl rfl ?_
        refine z_if_ne (pc := 51) hZ 62 dM_remainder_51 (by decide) (fun c51_10 => ?_) (fun c51_10 => ?_)
        · refine z_aload_n (pc := 62) hZ 2 dM_remainder_62 rfl rfl ?_
          refine z_get (pc := 63) (ci := 2) hZ 0 rfl rfl uc_M 6 (by decide) (zb fl_M_60) rfl dM_remainder_63 ?_
          refine z_callS (pc := 66) (As := [.int kb]) (rest := []) hZ (cM_isGreat l D (TY cR c1 c2 c3) (MW h0 a1 a2 a3 c1 c2 c3 (ka, na, ea, kb, nb, eb, k, n, e, bits, scale, K, N, E) ++ Y) kb) zyM_isGreat (z_goodS ml_M_86 st_M_isGreat in_M co_M_isGreat) rfl rfl (by decide) rfl rfl (Nat.le_of_ble_eq_true rfl) ⟨Nat.zero_le _, Nat.zero_le _⟩ dM_remainder_66 (z_ki (fun r66_11 w1 tys1 hp => ?_))
          obtain ⟨rfl, rfl, p66_11⟩ := hp
          refine z_if_eq (pc := 69) hZ 107 dM_remainder_69 (by decide) (fun c69_12 => ?_) (fun c69_12 => ?_)
          · refine z_iload_n (pc := 107) hZ 1 dM_remainder_107 rfl rfl ?_
            refine z_if_ne (pc := 108) hZ 120 dM_remainder_108 (by decide) (fun c108_13 => ?_) (fun c108_13 => ?_)
            · refine z_aload_n (pc := 120) hZ 2 dM_remainder_120 rfl rfl ?_
              refine z_callV (pc := 121) (As := []) (rest := []) hZ (cM_restOfSizes l D cR c1 c2 c3 h0 a1 a2 a3 Y ka na ea kb nb eb k n e bits scale K N E (by exact (RK_n (r := 0) ra c29_3 (gt_n p44_7 c47_8))) (by exact (RK_n (r := 0) rb c37_5 (gt_n p66_11 c69_12))) (by exact p20_2 c51_10 (gt_n p66_11 c69_12).1 (gt_n p66_11 c69_12).2)) zyM_restOfSizes (z_goodV ml_M_116 im_M_restOfSizes se_M_restOfSizes in_M co_M_restOfSizes) 0 rfl rfl rfl rfl (by decide) rfl rfl (Nat.le_of_ble_eq_true rfl) ⟨Nat.zero_le _, Nat.zero_le _⟩ dM_remainder_121 (z_kv (fun w1 tys1 hp => ?_))
              obtain ⟨bits121_14, scale121_14, rfl, rfl, p121_14⟩ := hp
              refine z_aload_n (pc := 124) hZ 2 dM_remainder_124 rfl rfl ?_
              refine z_iload_n (pc := 125) hZ 1 dM_remainder_125 rfl rfl ?_
              refine z_if_ge (pc := 126) hZ 137 dM_remainder_126 (by decide) (fun c126_15 => ?_) (fun c126_15 => ?_)
              · refine z_aload_n (pc := 137) hZ 2 dM_remainder_137 rfl rfl ?_
                refine z_get (pc := 138) (ci := 2) hZ 0 rfl rfl uc_M 12 (by decide) (zb fl_M_95) rfl dM_remainder_138 ?_
                refine z_aload_n (pc := 141) hZ 2 dM_remainder_141 rfl rfl ?_
                refine z_get (pc := 142) (ci := 2) hZ 0 rfl rfl uc_M 13 (by decide) (zb fl_M_98) rfl dM_remainder_142 ?_
                refine z_callV (pc := 145) (As := [.long bits121_14, .int scale121_14]) (rest := []) hZ (cM_plain l D cR c1 c2 c3 h0 a1 a2 a3 Y ka na ea kb nb eb k n e bits121_14 scale121_14 K N E bits121_14 scale121_14 (by first | exact PP_neg (p121_14).2 nokey_ | exact (p121_14).2)) zyM_plain (z_goodV ml_M_31 im_M_plain se_M_plain in_M co_M_plain) 0 rfl rfl rfl rfl (by decide) rfl rfl (Nat.le_of_ble_eq_true rfl) ⟨Nat.zero_le _, Nat.zero_le _⟩ dM_remainder_145 (z_kv (fun w1 tys1 hp => ?_))
                obtain ⟨k145_16, n145_16, e145_16, rfl, rfl, p145_16⟩ := hp
                refine z_aload_n (pc := 148) hZ 2 dM_remainder_148 rfl rfl ?_
                refine z_get (pc := 149) (ci := 2) hZ 0 rfl rfl uc_M 10 (by decide) (zb fl_M_24) rfl dM_remainder_149 ?_
                refine z_lconst (pc := 152) hZ 0 dM_remainder_152 (by decide) ?_
                refine z_lif_eq (pc := 153) hZ 196 dM_remainder_153 dM_remainder_154 (by decide) (fun c154_17 => ?_) (fun c154_17 => ?_)
                · exact z_retv (pc := 196) hZ dM_remainder_196 rfl ⟨rfl, _, _, _, _, _, _, _, _, rfl, rfl, (by first | exact nokey_ | exact RK_of ((p145_16).1) | exact RK_of ((nokey_).1) | exact RK_of ((nokey_).1) | exact sp_RK (Or.inr (Or.inr rfl)) nokey_ | exact sp_gt p66_11 c69_12 nokey_)⟩
                · refine z_aload_n (pc := 157) hZ 2 dM_remainder_157 rfl rfl ?_
                  refine z_get (pc := 158) (ci := 2) hZ 0 rfl rfl uc_M 10 (by decide) (zb fl_M_24) rfl dM_remainder_158 ?_
                  refine z_lconst (pc := 161) hZ 0 dM_remainder_161 (by decide) ?_
                  refine z_lif_ge (pc := 162) hZ 170 dM_remainder_162 dM_remainder_163 (by decide) (fun c163_18 => ?_) (fun c163_18 => ?_)
                  · refine z_iconst (pc := 170) hZ 0 dM_remainder_170 (by decide) ?_
                    refine z_aload_n (pc := 171) hZ 2 dM_remainder_171 rfl rfl ?_
                    refine z_get (pc := 172) (ci := 2) hZ 0 rfl rfl uc_M 7 (by decide) (zb fl_M_63) rfl dM_remainder_172 ?_
                    refine z_lconst (pc := 175) hZ 0 dM_remainder_175 (by decide) ?_
                    refine z_lif_ge (pc := 176) hZ 184 dM_remainder_176 dM_remainder_177 (by decide) (fun c177_19 => ?_) (fun c177_19 => ?_)
                    · refine z_iconst (pc := 184) hZ 0 dM_remainder_184 (by decide) ?_
                      refine z_icmp_eq (pc := 185) hZ 196 dM_remainder_185 (by decide) (fun c185 => ?_) (fun c9 => False.elim (absurd c9 (by decide)))
                      exact z_retv (pc := 196) hZ dM_remainder_196 rfl ⟨rfl, _, _, _, _, _, _, _, _, rfl, rfl, (by first | exact nokey_ | exact RK_of ((p145_16).1) | exact RK_of ((nokey_).1) | exact RK_of ((nokey_).1) | exact sp_RK (Or.inr (Or.inr rfl)) nokey_ | exact sp_gt p66_11 c69_12 nokey_)⟩
                    · refine z_iconst (pc := 180) hZ 1 dM_remainder_180 (by decide) ?_
                      refine z_goto (pc := 181) hZ 185 dM_remainder_181 (by decide) ?_
                      refine z_icmp_eq (pc := 185) hZ 196 dM_remainder_185 (by decide) (fun c9 => False.elim (absurd c9 (by decide))) (fun c185 => ?_)
                      refine z_aload_n (pc := 188) hZ 2 dM_remainder_188 rfl rfl ?_
                      refine z_callV (pc := 189) (As := []) (rest := []) hZ (cM_resultToA l D cR c1 c2 c3 h0 a1 a2 a3 Y ka na ea kb nb eb k145_16 n145_16 e145_16 bits121_14 scale121_14 K N E ) zyM_resultToA (z_goodV ml_M_72 im_M_resultToA se_M_resultToA in_M co_M_resultToA) 0 rfl rfl rfl rfl (by decide) rfl rfl (Nat.le_of_ble_eq_true rfl) ⟨Nat.zero_le _, Nat.zero_le _⟩ dM_remainder_189 (z_kv (fun w1 tys1 hp => ?_))
                      obtain ⟨ka189_20, na189_20, ea189_20, rfl, rfl, p189_20⟩ := hp
                      refine z_aload_n (pc := 192) hZ 2 dM_remainder_192 rfl rfl ?_
                      refine z_callV (pc := 193) (As := []) (rest := []) hZ (cM_add l D cR c1 c2 c3 h0 a1 a2 a3 Y ka189_20 na189_20 ea189_20 kb nb eb k145_16 n145_16 e145_16 bits121_14 scale121_14 K N E (by exact RK_eq p189_20 (RK_of ((p145_16).1))) (by exact rb)) zyM_add (z_goodV ml_M_119 im_M_add se_M_add in_M co_M_add) 0 rfl rfl rfl rfl (by decide) rfl rfl (Nat.le_of_ble_eq_true rfl) ⟨Nat.zero_le _, Nat.zero_le _⟩ dM_remainder_193 (z_kv (fun w1 tys1 hp => ?_))
                      obtain ⟨k193_21, n193_21, e193_21, rfl, rfl, p193_21⟩ := hp
                      exact z_retv (pc := 196) hZ dM_remainder_196 rfl ⟨rfl, _, _, _, _, _, _, _, _, rfl, rfl, (by first | exact p193_21 | exact RK_of ((p145_16).1) | exact RK_of ((nokey_).1) | exact RK_of ((nokey_).1) | exact sp_RK (Or.inr (Or.inr rfl)) nokey_ | exact sp_gt p66_11 c69_12 nokey_)⟩
                  · refine z_iconst (pc := 166) hZ 1 dM_remainder_166 (by decide) ?_
                    refine z_goto (pc := 167) hZ 171 dM_remainder_167 (by decide) ?_
                    refine z_aload_n (pc := 171) hZ 2 dM_remainder_171 rfl rfl ?_
                    refine z_get (pc := 172) (ci := 2) hZ 0 rfl rfl uc_M 7 (by decide) (zb fl_M_63) rfl dM_remainder_172 ?_
                    refine z_lconst (pc := 175) hZ 0 dM_remainder_175 (by decide) ?_
                    refine z_lif_ge (pc := 176) hZ 184 dM_remainder_176 dM_remainder_177 (by decide) (fun c177_22 => ?_) (fun c177_22 => ?_)
                    · refine z_iconst (pc := 184) hZ 0 dM_remainder_184 (by decide) ?_
                      refine z_icmp_eq (pc := 185) hZ 196 dM_remainder_185 (by decide) (fun c9 => False.elim (absurd c9 (by decide))) (fun c185 => ?_)
                      refine z_aload_n (pc := 188) hZ 2 dM_remainder_188 rfl rfl ?_
                      refine z_callV (pc := 189) (As := []) (rest := []) hZ (cM_resultToA l D cR c1 c2 c3 h0 a1 a2 a3 Y ka na ea kb nb eb k145_16 n145_16 e145_16 bits121_14 scale121_14 K N E ) zyM_resultToA (z_goodV ml_M_72 im_M_resultToA se_M_resultToA in_M co_M_resultToA) 0 rfl rfl rfl rfl (by decide) rfl rfl (Nat.le_of_ble_eq_true rfl) ⟨Nat.zero_le _, Nat.zero_le _⟩ dM_remainder_189 (z_kv (fun w1 tys1 hp => ?_))
                      obtain ⟨ka189_23, na189_23, ea189_23, rfl, rfl, p189_23⟩ := hp
                      refine z_aload_n (pc := 192) hZ 2 dM_remainder_192 rfl rfl ?_
                      refine z_callV (pc := 193) (As := []) (rest := []) hZ (cM_add l D cR c1 c2 c3 h0 a1 a2 a3 Y ka189_23 na189_23 ea189_23 kb nb eb k145_16 n145_16 e145_16 bits121_14 scale121_14 K N E (by exact RK_eq p189_23 (RK_of ((p145_16).1))) (by exact rb)) zyM_add (z_goodV ml_M_119 im_M_add se_M_add in_M co_M_add) 0 rfl rfl rfl rfl (by decide) rfl rfl (Nat.le_of_ble_eq_true rfl) ⟨Nat.zero_le _, Nat.zero_le _⟩ dM_remainder_193 (z_kv (fun w1 tys1 hp => ?_))
                      obtain ⟨k193_24, n193_24, e193_24, rfl, rfl, p193_24⟩ := hp
                      exact z_retv (pc := 196) hZ dM_remainder_196 rfl ⟨rfl, _, _, _, _, _, _, _, _, rfl, rfl, (by first | exact p193_24 | exact RK_of ((p145_16).1) | exact RK_of ((nokey_).1) | exact RK_of ((nokey_).1) | exact sp_RK (Or.inr (Or.inr rfl)) nokey_ | exact sp_gt p66_11 c69_12 nokey_)⟩
                    · refine z_iconst (pc := 180) hZ 1 dM_remainder_180 (by decide) ?_
                      refine z_goto (pc := 181) hZ 185 dM_remainder_181 (by decide) ?_
                      refine z_icmp_eq (pc := 185) hZ 196 dM_remainder_185 (by decide) (fun c185 => ?_) (fun c9 => False.elim (absurd c9 (by decide)))
                      exact z_retv (pc := 196) hZ dM_remainder_196 rfl ⟨rfl, _, _, _, _, _, _, _, _, rfl, rfl, (by first | exact nokey_ | exact RK_of ((p145_16).1) | exact RK_of ((nokey_).1) | exact RK_of ((nokey_).1) | exact sp_RK (Or.inr (Or.inr rfl)) nokey_ | exact sp_gt p66_11 c69_12 nokey_)⟩
              · refine z_aload_n (pc := 129) hZ 2 dM_remainder_129 rfl rfl ?_
                refine z_get (pc := 130) (ci := 2) hZ 0 rfl rfl uc_M 12 (by decide) (zb fl_M_95) rfl dM_remainder_130 ?_
                refine z_lneg (pc := 133) hZ dM_remainder_133 (fun v133_25 ev133_25 => ?_)
                refine z_goto (pc := 134) hZ 141 dM_remainder_134 (by decide) ?_
                refine z_aload_n (pc := 141) hZ 2 dM_remainder_141 rfl rfl ?_
                refine z_get (pc := 142) (ci := 2) hZ 0 rfl rfl uc_M 13 (by decide) (zb fl_M_98) rfl dM_remainder_142 ?_
                refine z_callV (pc := 145) (As := [.long v133_25, .int scale121_14]) (rest := []) hZ (cM_plain l D cR c1 c2 c3 h0 a1 a2 a3 Y ka na ea kb nb eb k n e bits121_14 scale121_14 K N E v133_25 scale121_14 (by first | exact PP_neg (p121_14).2 ev133_25 | exact (p121_14).2)) zyM_plain (z_goodV ml_M_31 im_M_plain se_M_plain in_M co_M_plain) 0 rfl rfl rfl rfl (by decide) rfl rfl (Nat.le_of_ble_eq_true rfl) ⟨Nat.zero_le _, Nat.zero_le _⟩ dM_remainder_145 (z_kv (fun w1 tys1 hp => ?_))
                obtain ⟨k145_26, n145_26, e145_26, rfl, rfl, p145_26⟩ := hp
                refine z_aload_n (pc := 148) hZ 2 dM_remainder_148 rfl rfl ?_
                refine z_get (pc := 149) (ci := 2) hZ 0 rfl rfl uc_M 10 (by decide) (zb fl_M_24) rfl dM_remainder_149 ?_
                refine z_lconst (pc := 152) hZ 0 dM_remainder_152 (by decide) ?_
                refine z_lif_eq (pc := 153) hZ 196 dM_remainder_153 dM_remainder_154 (by decide) (fun c154_27 => ?_) (fun c154_27 => ?_)
                · exact z_retv (pc := 196) hZ dM_remainder_196 rfl ⟨rfl, _, _, _, _, _, _, _, _, rfl, rfl, (by first | exact nokey_ | exact RK_of ((p145_26).1) | exact RK_of ((nokey_).1) | exact RK_of ((nokey_).1) | exact sp_RK (Or.inr (Or.inr rfl)) nokey_ | exact sp_gt p66_11 c69_12 nokey_)⟩
                · refine z_aload_n (pc := 157) hZ 2 dM_remainder_157 rfl rfl ?_
                  refine z_get (pc := 158) (ci := 2) hZ 0 rfl rfl uc_M 10 (by decide) (zb fl_M_24) rfl dM_remainder_158 ?_
                  refine z_lconst (pc := 161) hZ 0 dM_remainder_161 (by decide) ?_
                  refine z_lif_ge (pc := 162) hZ 170 dM_remainder_162 dM_remainder_163 (by decide) (fun c163_28 => ?_) (fun c163_28 => ?_)
                  · refine z_iconst (pc := 170) hZ 0 dM_remainder_170 (by decide) ?_
                    refine z_aload_n (pc := 171) hZ 2 dM_remainder_171 rfl rfl ?_
                    refine z_get (pc := 172) (ci := 2) hZ 0 rfl rfl uc_M 7 (by decide) (zb fl_M_63) rfl dM_remainder_172 ?_
                    refine z_lconst (pc := 175) hZ 0 dM_remainder_175 (by decide) ?_
                    refine z_lif_ge (pc := 176) hZ 184 dM_remainder_176 dM_remainder_177 (by decide) (fun c177_29 => ?_) (fun c177_29 => ?_)
                    · refine z_iconst (pc := 184) hZ 0 dM_remainder_184 (by decide) ?_
                      refine z_icmp_eq (pc := 185) hZ 196 dM_remainder_185 (by decide) (fun c185 => ?_) (fun c9 => False.elim (absurd c9 (by decide)))
                      exact z_retv (pc := 196) hZ dM_remainder_196 rfl ⟨rfl, _, _, _, _, _, _, _, _, rfl, rfl, (by first | exact nokey_ | exact RK_of ((p145_26).1) | exact RK_of ((nokey_).1) | exact RK_of ((nokey_).1) | exact sp_RK (Or.inr (Or.inr rfl)) nokey_ | exact sp_gt p66_11 c69_12 nokey_)⟩
                    · refine z_iconst (pc := 180) hZ 1 dM_remainder_180 (by decide) ?_
                      refine z_goto (pc := 181) hZ 185 dM_remainder_181 (by decide) ?_
                      refine z_icmp_eq (pc := 185) hZ 196 dM_remainder_185 (by decide) (fun c9 => False.elim (absurd c9 (by decide))) (fun c185 => ?_)
                      refine z_aload_n (pc := 188) hZ 2 dM_remainder_188 rfl rfl ?_
                      refine z_callV (pc := 189) (As := []) (rest := []) hZ (cM_resultToA l D cR c1 c2 c3 h0 a1 a2 a3 Y ka na ea kb nb eb k145_26 n145_26 e145_26 bits121_14 scale121_14 K N E ) zyM_resultToA (z_goodV ml_M_72 im_M_resultToA se_M_resultToA in_M co_M_resultToA) 0 rfl rfl rfl rfl (by decide) rfl rfl (Nat.le_of_ble_eq_true rfl) ⟨Nat.zero_le _, Nat.zero_le _⟩ dM_remainder_189 (z_kv (fun w1 tys1 hp => ?_))
                      obtain ⟨ka189_30, na189_30, ea189_30, rfl, rfl, p189_30⟩ := hp
                      refine z_aload_n (pc := 192) hZ 2 dM_remainder_192 rfl rfl ?_
                      refine z_callV (pc := 193) (As := []) (rest := []) hZ (cM_add l D cR c1 c2 c3 h0 a1 a2 a3 Y ka189_30 na189_30 ea189_30 kb nb eb k145_26 n145_26 e145_26 bits121_14 scale121_14 K N E (by exact RK_eq p189_30 (RK_of ((p145_26).1))) (by exact rb)) zyM_add (z_goodV ml_M_119 im_M_add se_M_add in_M co_M_add) 0 rfl rfl rfl rfl (by decide) rfl rfl (Nat.le_of_ble_eq_true rfl) ⟨Nat.zero_le _, Nat.zero_le _⟩ dM_remainder_193 (z_kv (fun w1 tys1 hp => ?_))
                      obtain ⟨k193_31, n193_31, e193_31, rfl, rfl, p193_31⟩ := hp
                      exact z_retv (pc := 196) hZ dM_remainder_196 rfl ⟨rfl, _, _, _, _, _, _, _, _, rfl, rfl, (by first | exact p193_31 | exact RK_of ((p145_26).1) | exact RK_of ((nokey_).1) | exact RK_of ((nokey_).1) | exact sp_RK (Or.inr (Or.inr rfl)) nokey_ | exact sp_gt p66_11 c69_12 nokey_)⟩
                  · refine z_iconst (pc := 166) hZ 1 dM_remainder_166 (by decide) ?_
                    refine z_goto (pc := 167) hZ 171 dM_remainder_167 (by decide) ?_
                    refine z_aload_n (pc := 171) hZ 2 dM_remainder_171 rfl rfl ?_
                    refine z_get (pc := 172) (ci := 2) hZ 0 rfl rfl uc_M 7 (by decide) (zb fl_M_63) rfl dM_remainder_172 ?_
                    refine z_lconst (pc := 175) hZ 0 dM_remainder_175 (by decide) ?_
                    refine z_lif_ge (pc := 176) hZ 184 dM_remainder_176 dM_remainder_177 (by decide) (fun c177_32 => ?_) (fun c177_32 => ?_)
                    · refine z_iconst (pc := 184) hZ 0 dM_remainder_184 (by decide) ?_
                      refine z_icmp_eq (pc := 185) hZ 196 dM_remainder_185 (by decide) (fun c9 => False.elim (absurd c9 (by decide))) (fun c185 => ?_)
                      refine z_aload_n (pc := 188) hZ 2 dM_remainder_188 rfl rfl ?_
                      refine z_callV (pc := 189) (As := []) (rest := []) hZ (cM_resultToA l D cR c1 c2 c3 h0 a1 a2 a3 Y ka na ea kb nb eb k145_26 n145_26 e145_26 bits121_14 scale121_14 K N E ) zyM_resultToA (z_goodV ml_M_72 im_M_resultToA se_M_resultToA in_M co_M_resultToA) 0 rfl rfl rfl rfl (by decide) rfl rfl (Nat.le_of_ble_eq_true rfl) ⟨Nat.zero_le _, Nat.zero_le _⟩ dM_remainder_189 (z_kv (fun w1 tys1 hp => ?_))
                      obtain ⟨ka189_33, na189_33, ea189_33, rfl, rfl, p189_33⟩ := hp
                      refine z_aload_n (pc := 192) hZ 2 dM_remainder_192 rfl rfl ?_
                      refine z_callV (pc := 193) (As := []) (rest := []) hZ (cM_add l D cR c1 c2 c3 h0 a1 a2 a3 Y ka189_33 na189_33 ea189_33 kb nb eb k145_26 n145_26 e145_26 bits121_14 scale121_14 K N E (by exact RK_eq p189_33 (RK_of ((p145_26).1))) (by exact rb)) zyM_add (z_goodV ml_M_119 im_M_add se_M_add in_M co_M_add) 0 rfl rfl rfl rfl (by decide) rfl rfl (Nat.le_of_ble_eq_true rfl) ⟨Nat.zero_le _, Nat.zero_le _⟩ dM_remainder_193 (z_kv (fun w1 tys1 hp => ?_))
                      obtain ⟨k193_34, n193_34, e193_34, rfl, rfl, p193_34⟩ := hp
                      exact z_retv (pc := 196) hZ dM_remainder_196 rfl ⟨rfl, _, _, _, _, _, _, _, _, rfl, rfl, (by first | exact p193_34 | exact RK_of ((p145_26).1) | exact RK_of ((nokey_).1) | exact RK_of ((nokey_).1) | exact sp_RK (Or.inr (Or.inr rfl)) nokey_ | exact sp_gt p66_11 c69_12 nokey_)⟩
                    · refine z_iconst (pc := 180) hZ 1 dM_remainder_180 (by decide) ?_
                      refine z_goto (pc := 181) hZ 185 dM_remainder_181 (by decide) ?_
                      refine z_icmp_eq (pc := 185) hZ 196 dM_remainder_185 (by decide) (fun c185 => ?_) (fun c9 => False.elim (absurd c9 (by decide)))
                      exact z_retv (pc := 196) hZ dM_remainder_196 rfl ⟨rfl, _, _, _, _, _, _, _, _, rfl, rfl, (by first | exact nokey_ | exact RK_of ((p145_26).1) | exact RK_of ((nokey_).1) | exact RK_of ((nokey_).1) | exact sp_RK (Or.inr (Or.inr rfl)) nokey_ | exact sp_gt p66_11 c69_12 nokey_)⟩
            · refine z_aload_n (pc := 111) hZ 2 dM_remainder_111 rfl rfl ?_
              refine z_lconst (pc := 112) hZ 0 dM_remainder_112 (by decide) ?_
              refine z_iconst (pc := 113) hZ 0 dM_remainder_113 (by decide) ?_
              refine z_callV (pc := 114) (As := [.long 0, .int 0]) (rest := []) hZ (cM_plain l D cR c1 c2 c3 h0 a1 a2 a3 Y ka na ea kb nb eb k n e bits scale K N E 0 0 (by exact Or.inl rfl)) zyM_plain (z_goodV ml_M_31 im_M_plain se_M_plain in_M co_M_plain) 0 rfl rfl rfl rfl (by decide) rfl rfl (Nat.le_of_ble_eq_true rfl) ⟨Nat.zero_le _, Nat.zero_le _⟩ dM_remainder_114 (z_kv (fun w1 tys1 hp => ?_))
              obtain ⟨k114_35, n114_35, e114_35, rfl, rfl, p114_35⟩ := hp
              refine z_goto (pc := 117) hZ 196 dM_remainder_117 (by decide) ?_
              exact z_retv (pc := 196) hZ dM_remainder_196 rfl ⟨rfl, _, _, _, _, _, _, _, _, rfl, rfl, (by first | exact nokey_ | exact RK_of ((nokey_).1) | exact RK_of ((p114_35).1) | exact RK_of ((nokey_).1) | exact sp_RK (Or.inr (Or.inr rfl)) nokey_ | exact sp_gt p66_11 c69_12 nokey_)⟩
          · refine z_iload_n (pc := 72) hZ 1 dM_remainder_72 rfl rfl ?_
            refine z_if_eq (pc := 73) hZ 81 dM_remainder_73 (by decide) (fun c73_36 => ?_) (fun c73_36 => ?_)
            · refine z_aload_n (pc := 81) hZ 2 dM_remainder_81 rfl rfl ?_
              refine z_aload_n (pc := 82) hZ 2 dM_remainder_82 rfl rfl ?_
              refine z_get (pc := 83) (ci := 2) hZ 0 rfl rfl uc_M 4 (by decide) (zb fl_M_54) rfl dM_remainder_83 ?_
              refine z_aload_n (pc := 86) hZ 2 dM_remainder_86 rfl rfl ?_
              refine z_get (pc := 87) (ci := 2) hZ 0 rfl rfl uc_M 5 (by decide) (zb fl_M_57) rfl dM_remainder_87 ?_
              refine z_callV (pc := 90) (As := [.long na, .int ea]) (rest := []) hZ (cM_plain l D cR c1 c2 c3 h0 a1 a2 a3 Y ka na ea kb nb eb k n e bits scale K N E na ea (by exact GR_PP (RK_n (r := 0) ra c29_3 (gt_n p44_7 c47_8)))) zyM_plain (z_goodV ml_M_31 im_M_plain se_M_plain in_M co_M_plain) 0 rfl rfl rfl rfl (by decide) rfl rfl (Nat.le_of_ble_eq_true rfl) ⟨Nat.zero_le _, Nat.zero_le _⟩ dM_remainder_90 (z_kv (fun w1 tys1 hp => ?_))
              obtain ⟨k90_37, n90_37, e90_37, rfl, rfl, p90_37⟩ := hp
              refine z_goto (pc := 93) hZ 196 dM_remainder_93 (by decide) ?_
              exact z_retv (pc := 196) hZ dM_remainder_196 rfl ⟨rfl, _, _, _, _, _, _, _, _, rfl, rfl, (by first | exact nokey_ | exact RK_of ((nokey_).1) | exact RK_of ((nokey_).1) | exact RK_of ((p90_37).1) | exact sp_RK (Or.inr (Or.inr rfl)) nokey_ | exact sp_gt p66_11 c69_12 nokey_)⟩
            · refine z_iload_n (pc := 76) hZ 1 dM_remainder_76 rfl rfl ?_
              refine z_iload_n (pc := 77) hZ 0 dM_remainder_77 rfl rfl ?_
              refine z_icmp_ne (pc := 78) hZ 96 dM_remainder_78 (by decide) (fun c78_38 => ?_) (fun c78_38 => ?_)
              · refine z_aload_n (pc := 96) hZ 2 dM_remainder_96 rfl rfl ?_
                refine z_aload_n (pc := 97) hZ 2 dM_remainder_97 rfl rfl ?_
                refine z_get (pc := 98) (ci := 2) hZ 0 rfl rfl uc_M 6 (by decide) (zb fl_M_60) rfl dM_remainder_98 ?_
                refine z_callV (pc := 101) (As := [.int kb]) (rest := []) hZ (cM_setSpecial l D cR c1 c2 c3 h0 a1 a2 a3 Y ka na ea kb nb eb k n e bits scale K N E kb) zyM_setSpecial (z_goodV ml_M_35 im_M_setSpecial se_M_setSpecial in_M co_M_setSpecial) 0 rfl rfl rfl rfl (by decide) rfl rfl (Nat.le_of_ble_eq_true rfl) ⟨Nat.zero_le _, Nat.zero_le _⟩ dM_remainder_101 (z_kv (fun w1 tys1 hp => ?_))
                obtain ⟨k101_39, n101_39, e101_39, rfl, rfl, p101_39⟩ := hp
                refine z_goto (pc := 104) hZ 196 dM_remainder_104 (by decide) ?_
                exact z_retv (pc := 196) hZ dM_remainder_196 rfl ⟨rfl, _, _, _, _, _, _, _, _, rfl, rfl, (by first | exact nokey_ | exact RK_of ((nokey_).1) | exact RK_of ((nokey_).1) | exact RK_of ((nokey_).1) | exact sp_RK (Or.inr (Or.inr rfl)) nokey_ | exact sp_gt p66_11 c69_12 p101_39)⟩
              · refine z_aload_n (pc := 81) hZ 2 dM_remainder_81 rfl rfl ?_
                refine z_aload_n (pc := 82) hZ 2 dM_remainder_82 rfl rfl ?_
                refine z_get (pc := 83) (ci := 2) hZ 0 rfl rfl uc_M 4 (by decide) (zb fl_M_54) rfl dM_remainder_83 ?_
                refine z_aload_n (pc := 86) hZ 2 dM_remainder_86 rfl rfl ?_
                refine z_get (pc := 87) (ci := 2) hZ 0 rfl rfl uc_M 5 (by decide) (zb fl_M_57) rfl dM_remainder_87 ?_
                refine z_callV (pc := 90) (As := [.long na, .int ea]) (rest := []) hZ (cM_plain l D cR c1 c2 c3 h0 a1 a2 a3 Y ka na ea kb nb eb k n e bits scale K N E na ea (by exact GR_PP (RK_n (r := 0) ra c29_3 (gt_n p44_7 c47_8)))) zyM_plain (z_goodV ml_M_31 im_M_plain se_M_plain in_M co_M_plain) 0 rfl rfl rfl rfl (by decide) rfl rfl (Nat.le_of_ble_eq_true rfl) ⟨Nat.zero_le _, Nat.zero_le _⟩ dM_remainder_90 (z_kv (fun w1 tys1 hp => ?_))
                obtain ⟨k90_40, n90_40, e90_40, rfl, rfl, p90_40⟩ := hp
                refine z_goto (pc := 93) hZ 196 dM_remainder_93 (by decide) ?_
                exact z_retv (pc := 196) hZ dM_remainder_196 rfl ⟨rfl, _, _, _, _, _, _, _, _, rfl, rfl, (by first | exact nokey_ | exact RK_of ((nokey_).1) | exact RK_of ((nokey_).1) | exact RK_of ((p90_40).1) | exact sp_RK (Or.inr (Or.inr rfl)) nokey_ | exact sp_gt p66_11 c69_12 nokey_)⟩
        · refine z_aload_n (pc := 54) hZ 2 dM_remainder_54 rfl rfl ?_
          refine z_iconst (pc := 55) hZ 5 dM_remainder_55 (by decide) ?_
          refine z_callV (pc := 56) (As := [.int 5]) (rest := []) hZ (cM_setSpecial l D cR c1 c2 c3 h0 a1 a2 a3 Y ka na ea kb nb eb k n e bits scale K N E 5) zyM_setSpecial (z_goodV ml_M_35 im_M_setSpecial se_M_setSpecial in_M co_M_setSpecial) 0 rfl rfl rfl rfl (by decide) rfl rfl (Nat.le_of_ble_eq_true rfl) ⟨Nat.zero_le _, Nat.zero_le _⟩ dM_remainder_56 (z_kv (fun w1 tys1 hp => ?_))
          obtain ⟨k56_41, n56_41, e56_41, rfl, rfl, p56_41⟩ := hp
          refine z_goto (pc := 59) hZ 196 dM_remainder_59 (by decide) ?_
          exact z_retv (pc := 196) hZ dM_remainder_196 rfl ⟨rfl, _, _, _, _, _, _, _, _, rfl, rfl, (by first | exact nokey_ | exact RK_of ((nokey_).1) | exact RK_of ((nokey_).1) | exact RK_of ((nokey_).1) | exact sp_RK (Or.inr (Or.inr rfl)) p56_41 | exact sp_gt nokey_ nokey_ nokey_)⟩
set_option maxHeartbeats 4000000 in
set_option maxRecDepth 100000 in
theorem cM_turnB (l : Launch) (D : va_G) (cR c1 c2 c3 : ClassId) (h0 a1 a2 a3 : Nat) (Y : va_W) (ka : Int32) (na : Int64) (ea : Int32) (kb : Int32) (nb : Int64) (eb : Int32) (k : Int32) (n : Int64) (e : Int32) (bits : Int64) (scale : Int32) (K : Nat → Int32) (N : Nat → Int64) (E : Nat → Int32) (rb : RK kb nb eb) : zM l D vwCl zNF zNM yM_turnB wsM_turnB { frames := 1, cells := 0, slots := 0, locals := 20 } [.ref h0] (MW h0 a1 a2 a3 c1 c2 c3 (ka, na, ea, kb, nb, eb, k, n, e, bits, scale, K, N, E) ++ Y) (TY cR c1 c2 c3) (qV (fun w' tys' => ∃ kb' : Int32, ∃ nb' : Int64, MW h0 a1 a2 a3 c1 c2 c3 (ka, na, ea, kb', nb', eb, k, n, e, bits, scale, K, N, E) ++ Y = w' ∧ (TY cR c1 c2 c3) = tys' ∧ (RK kb' nb' eb ∧ (kb = 2 → GR nb' eb)))) := by
  refine z_met (cc := bM_turnB) (maxL := 1) (ret := none) (isI := false) (own := RM) (by decide +kernel) rfl rfl (fun h => by cases h) (Nat.le_of_ble_eq_true rfl) (fun Z hZ => ?_)
  show Z 0 0 (TY cR c1 c2 c3) 0 [(0, .ref h0)] [] (MW h0 a1 a2 a3 c1 c2 c3 (ka, na, ea, kb, nb, eb, k, n, e, bits, scale, K, N, E) ++ Y)
  refine z_aload_n (pc := 0) hZ 0 dM_turnB_0 rfl rfl ?_
  refine z_get (pc := 1) (ci := 2) hZ 0 rfl rfl uc_M 6 (by decide) (zb fl_M_60) rfl dM_turnB_1 ?_
  refine z_iconst (pc := 4) hZ 2 dM_turnB_4 (by decide) ?_
  refine z_icmp_ne (pc := 5) hZ 20 dM_turnB_5 (by decide) (fun c5_1 => ?_) (fun c5_1 => ?_)
  · refine z_aload_n (pc := 20) hZ 0 dM_turnB_20 rfl rfl ?_
    refine z_get (pc := 21) (ci := 2) hZ 0 rfl rfl uc_M 6 (by decide) (zb fl_M_60) rfl dM_turnB_21 ?_
    refine z_callS (pc := 24) (As := [.int kb]) (rest := []) hZ (cM_isGreat l D (TY cR c1 c2 c3) (MW h0 a1 a2 a3 c1 c2 c3 (ka, na, ea, kb, nb, eb, k, n, e, bits, scale, K, N, E) ++ Y) kb) zyM_isGreat (z_goodS ml_M_86 st_M_isGreat in_M co_M_isGreat) rfl rfl (by decide) rfl rfl (Nat.le_of_ble_eq_true rfl) ⟨Nat.zero_le _, Nat.zero_le _⟩ dM_turnB_24 (z_ki (fun r24_2 w1 tys1 hp => ?_))
    obtain ⟨rfl, rfl, p24_2⟩ := hp
    refine z_if_eq (pc := 27) hZ 47 dM_turnB_27 (by decide) (fun c27_3 => ?_) (fun c27_3 => ?_)
    · exact z_retv (pc := 47) hZ dM_turnB_47 rfl ⟨rfl, _, _, rfl, rfl, (by first | exact ⟨RK_of ⟨c5_1, GR_neg (RK_2 rb c5_1) nokey_⟩, fun _ => GR_neg (RK_2 rb c5_1) nokey_⟩ | exact tb_g (r := 0) (k' := 0) (Or.inr rfl) c5_1 | exact tb_g (r := 0) (k' := 0) (Or.inl rfl) c5_1 | exact ⟨rb, fun h => absurd h c5_1⟩)⟩
    · refine z_aload_n (pc := 30) hZ 0 dM_turnB_30 rfl rfl ?_
      refine z_aload_n (pc := 31) hZ 0 dM_turnB_31 rfl rfl ?_
      refine z_get (pc := 32) (ci := 2) hZ 0 rfl rfl uc_M 6 (by decide) (zb fl_M_60) rfl dM_turnB_32 ?_
      refine z_iconst (pc := 35) hZ 3 dM_turnB_35 (by decide) ?_
      refine z_icmp_ne (pc := 36) hZ 43 dM_turnB_36 (by decide) (fun c36_4 => ?_) (fun c36_4 => ?_)
      · refine z_iconst (pc := 43) hZ 3 dM_turnB_43 (by decide) ?_
        refine z_put (pc := 44) (ci := 2) hZ 0 rfl rfl uc_M 6 (by decide) (zb fl_M_60) tyM tyM_ok nmM rfl rfl rfl (Nat.le_of_ble_eq_true rfl) dM_turnB_44 ?_
        show Z 0 0 (TY cR c1 c2 c3) (44 + 3) [(0, .ref h0)] [] (MW h0 a1 a2 a3 c1 c2 c3 (ka, na, ea, 3, nb, eb, k, n, e, bits, scale, K, N, E) ++ Y)
        exact z_retv (pc := 47) hZ dM_turnB_47 rfl ⟨rfl, _, _, rfl, rfl, (by first | exact ⟨RK_of ⟨c5_1, GR_neg (RK_2 rb c5_1) nokey_⟩, fun _ => GR_neg (RK_2 rb c5_1) nokey_⟩ | exact tb_g (r := 0) (k' := 0) (Or.inr rfl) c5_1 | exact tb_g (r := 0) (k' := 0) (Or.inl rfl) c5_1 | exact ⟨rb, fun h => absurd h c5_1⟩)⟩
      · refine z_iconst (pc := 39) hZ 4 dM_turnB_39 (by decide) ?_
        refine z_goto (pc := 40) hZ 44 dM_turnB_40 (by decide) ?_
        refine z_put (pc := 44) (ci := 2) hZ 0 rfl rfl uc_M 6 (by decide) (zb fl_M_60) tyM tyM_ok nmM rfl rfl rfl (Nat.le_of_ble_eq_true rfl) dM_turnB_44 ?_
        show Z 0 0 (TY cR c1 c2 c3) (44 + 3) [(0, .ref h0)] [] (MW h0 a1 a2 a3 c1 c2 c3 (ka, na, ea, 4, nb, eb, k, n, e, bits, scale, K, N, E) ++ Y)
        exact z_retv (pc := 47) hZ dM_turnB_47 rfl ⟨rfl, _, _, rfl, rfl, (by first | exact ⟨RK_of ⟨c5_1, GR_neg (RK_2 rb c5_1) nokey_⟩, fun _ => GR_neg (RK_2 rb c5_1) nokey_⟩ | exact tb_g (r := 0) (k' := 0) (Or.inr rfl) c5_1 | exact tb_g (r := 0) (k' := 0) (Or.inl rfl) c5_1 | exact ⟨rb, fun h => absurd h c5_1⟩)⟩
  · refine z_aload_n (pc := 8) hZ 0 dM_turnB_8 rfl rfl ?_
    refine z_aload_n (pc := 9) hZ 0 dM_turnB_9 rfl rfl ?_
    refine z_get (pc := 10) (ci := 2) hZ 0 rfl rfl uc_M 7 (by decide) (zb fl_M_63) rfl dM_turnB_10 ?_
    refine z_lneg (pc := 13) hZ dM_turnB_13 (fun v13_5 ev13_5 => ?_)
    refine z_put (pc := 14) (ci := 2) hZ 0 rfl rfl uc_M 7 (by decide) (zb fl_M_63) tyM tyM_ok nmM rfl rfl rfl (Nat.le_of_ble_eq_true rfl) dM_turnB_14 ?_
    show Z 0 0 (TY cR c1 c2 c3) (14 + 3) [(0, .ref h0)] [] (MW h0 a1 a2 a3 c1 c2 c3 (ka, na, ea, kb, v13_5, eb, k, n, e, bits, scale, K, N, E) ++ Y)
    refine z_goto (pc := 17) hZ 47 dM_turnB_17 (by decide) ?_
    exact z_retv (pc := 47) hZ dM_turnB_47 rfl ⟨rfl, _, _, rfl, rfl, (by first | exact ⟨RK_of ⟨c5_1, GR_neg (RK_2 rb c5_1) ev13_5⟩, fun _ => GR_neg (RK_2 rb c5_1) ev13_5⟩ | exact tb_g (r := 0) (k' := 0) (Or.inr rfl) c5_1 | exact tb_g (r := 0) (k' := 0) (Or.inl rfl) c5_1 | exact ⟨rb, fun h => absurd h c5_1⟩)⟩
set_option maxHeartbeats 4000000 in
set_option maxRecDepth 100000 in
theorem cM_negative (l : Launch) (D : va_G) (cR c1 c2 c3 : ClassId) (h0 a1 a2 a3 : Nat) (Y : va_W) (ka : Int32) (na : Int64) (ea : Int32) (kb : Int32) (nb : Int64) (eb : Int32) (k : Int32) (n : Int64) (e : Int32) (bits : Int64) (scale : Int32) (K : Nat → Int32) (N : Nat → Int64) (E : Nat → Int32) (va : VK ka na ea) : zM l D vwCl zNF zNM yM_negative wsM_negative { frames := 1, cells := 0, slots := 0, locals := 23 } [.ref h0] (MW h0 a1 a2 a3 c1 c2 c3 (ka, na, ea, kb, nb, eb, k, n, e, bits, scale, K, N, E) ++ Y) (TY cR c1 c2 c3) (qV (fun w' tys' => ∃ k' : Int32, ∃ n' : Int64, ∃ e' : Int32, MW h0 a1 a2 a3 c1 c2 c3 (ka, na, ea, kb, nb, eb, k', n', e', bits, scale, K, N, E) ++ Y = w' ∧ (TY cR c1 c2 c3) = tys' ∧ (VK k' n' e'))) := by
  refine z_met (cc := bM_negative) (maxL := 1) (ret := none) (isI := false) (own := RM) (by decide +kernel) rfl rfl (fun h => by cases h) (Nat.le_of_ble_eq_true rfl) (fun Z hZ => ?_)
  show Z 0 0 (TY cR c1 c2 c3) 0 [(0, .ref h0)] [] (MW h0 a1 a2 a3 c1 c2 c3 (ka, na, ea, kb, nb, eb, k, n, e, bits, scale, K, N, E) ++ Y)
  refine z_aload_n (pc := 0) hZ 0 dM_negative_0 rfl rfl ?_
  refine z_get (pc := 1) (ci := 2) hZ 0 rfl rfl uc_M 3 (by decide) (zb fl_M_51) rfl dM_negative_1 ?_
  refine z_iconst (pc := 4) hZ 1 dM_negative_4 (by decide) ?_
  refine z_icmp_ne (pc := 5) hZ 20 dM_negative_5 (by decide) (fun c5_1 => ?_) (fun c5_1 => ?_)
  · refine z_aload_n (pc := 20) hZ 0 dM_negative_20 rfl rfl ?_
    refine z_get (pc := 21) (ci := 2) hZ 0 rfl rfl uc_M 3 (by decide) (zb fl_M_51) rfl dM_negative_21 ?_
    refine z_iconst (pc := 24) hZ 2 dM_negative_24 (by decide) ?_
    refine z_icmp_ne (pc := 25) hZ 44 dM_negative_25 (by decide) (fun c25_2 => ?_) (fun c25_2 => ?_)
    · refine z_aload_n (pc := 44) hZ 0 dM_negative_44 rfl rfl ?_
      refine z_aload_n (pc := 45) hZ 0 dM_negative_45 rfl rfl ?_
      refine z_get (pc := 46) (ci := 2) hZ 0 rfl rfl uc_M 3 (by decide) (zb fl_M_51) rfl dM_negative_46 ?_
      refine z_iconst (pc := 49) hZ 3 dM_negative_49 (by decide) ?_
      refine z_icmp_ne (pc := 50) hZ 57 dM_negative_50 (by decide) (fun c50_3 => ?_) (fun c50_3 => ?_)
      · refine z_aload_n (pc := 57) hZ 0 dM_negative_57 rfl rfl ?_
        refine z_get (pc := 58) (ci := 2) hZ 0 rfl rfl uc_M 3 (by decide) (zb fl_M_51) rfl dM_negative_58 ?_
        refine z_iconst (pc := 61) hZ 4 dM_negative_61 (by decide) ?_
        refine z_icmp_ne (pc := 62) hZ 69 dM_negative_62 (by decide) (fun c62_4 => ?_) (fun c62_4 => ?_)
        · refine z_iconst (pc := 69) hZ 5 dM_negative_69 (by decide) ?_
          refine z_callV (pc := 70) (As := [.int 5]) (rest := []) hZ (cM_setSpecial l D cR c1 c2 c3 h0 a1 a2 a3 Y ka na ea kb nb eb k n e bits scale K N E 5) zyM_setSpecial (z_goodV ml_M_35 im_M_setSpecial se_M_setSpecial in_M co_M_setSpecial) 0 rfl rfl rfl rfl (by decide) rfl rfl (Nat.le_of_ble_eq_true rfl) ⟨Nat.zero_le _, Nat.zero_le _⟩ dM_negative_70 (z_kv (fun w1 tys1 hp => ?_))
          obtain ⟨k70_5, n70_5, e70_5, rfl, rfl, p70_5⟩ := hp
          exact z_retv (pc := 73) hZ dM_negative_73 rfl ⟨rfl, _, _, _, rfl, rfl, (by first | exact VK_2 ((nokey_).1) | exact Or.inl (nokey_).1 | exact VK_of (sp_RK (Or.inr (Or.inl rfl)) p70_5) | exact VK_of (sp_RK (Or.inl rfl) p70_5) | exact VK_of (sp_RK (Or.inr (Or.inr rfl)) p70_5))⟩
        · refine z_iconst (pc := 65) hZ 3 dM_negative_65 (by decide) ?_
          refine z_goto (pc := 66) hZ 70 dM_negative_66 (by decide) ?_
          refine z_callV (pc := 70) (As := [.int 3]) (rest := []) hZ (cM_setSpecial l D cR c1 c2 c3 h0 a1 a2 a3 Y ka na ea kb nb eb k n e bits scale K N E 3) zyM_setSpecial (z_goodV ml_M_35 im_M_setSpecial se_M_setSpecial in_M co_M_setSpecial) 0 rfl rfl rfl rfl (by decide) rfl rfl (Nat.le_of_ble_eq_true rfl) ⟨Nat.zero_le _, Nat.zero_le _⟩ dM_negative_70 (z_kv (fun w1 tys1 hp => ?_))
          obtain ⟨k70_6, n70_6, e70_6, rfl, rfl, p70_6⟩ := hp
          exact z_retv (pc := 73) hZ dM_negative_73 rfl ⟨rfl, _, _, _, rfl, rfl, (by first | exact VK_2 ((nokey_).1) | exact Or.inl (nokey_).1 | exact VK_of (sp_RK (Or.inr (Or.inl rfl)) p70_6) | exact VK_of (sp_RK (Or.inl rfl) p70_6) | exact VK_of (sp_RK (Or.inr (Or.inr rfl)) p70_6))⟩
      · refine z_iconst (pc := 53) hZ 4 dM_negative_53 (by decide) ?_
        refine z_goto (pc := 54) hZ 70 dM_negative_54 (by decide) ?_
        refine z_callV (pc := 70) (As := [.int 4]) (rest := []) hZ (cM_setSpecial l D cR c1 c2 c3 h0 a1 a2 a3 Y ka na ea kb nb eb k n e bits scale K N E 4) zyM_setSpecial (z_goodV ml_M_35 im_M_setSpecial se_M_setSpecial in_M co_M_setSpecial) 0 rfl rfl rfl rfl (by decide) rfl rfl (Nat.le_of_ble_eq_true rfl) ⟨Nat.zero_le _, Nat.zero_le _⟩ dM_negative_70 (z_kv (fun w1 tys1 hp => ?_))
        obtain ⟨k70_7, n70_7, e70_7, rfl, rfl, p70_7⟩ := hp
        exact z_retv (pc := 73) hZ dM_negative_73 rfl ⟨rfl, _, _, _, rfl, rfl, (by first | exact VK_2 ((nokey_).1) | exact Or.inl (nokey_).1 | exact VK_of (sp_RK (Or.inr (Or.inl rfl)) p70_7) | exact VK_of (sp_RK (Or.inl rfl) p70_7) | exact VK_of (sp_RK (Or.inr (Or.inr rfl)) p70_7))⟩
    · refine z_aload_n (pc := 28) hZ 0 dM_negative_28 rfl rfl ?_
      refine z_aload_n (pc := 29) hZ 0 dM_negative_29 rfl rfl ?_
      refine z_get (pc := 30) (ci := 2) hZ 0 rfl rfl uc_M 4 (by decide) (zb fl_M_54) rfl dM_negative_30 ?_
      refine z_lneg (pc := 33) hZ dM_negative_33 (fun v33_8 ev33_8 => ?_)
      refine z_aload_n (pc := 34) hZ 0 dM_negative_34 rfl rfl ?_
      refine z_get (pc := 35) (ci := 2) hZ 0 rfl rfl uc_M 5 (by decide) (zb fl_M_57) rfl dM_negative_35 ?_
      refine z_callV (pc := 38) (As := [.long v33_8, .int ea]) (rest := []) hZ (cM_plain l D cR c1 c2 c3 h0 a1 a2 a3 Y ka na ea kb nb eb k n e bits scale K N E v33_8 ea (by exact PP_neg (GR_PP (VK_2' va c25_2)) ev33_8)) zyM_plain (z_goodV ml_M_31 im_M_plain se_M_plain in_M co_M_plain) 0 rfl rfl rfl rfl (by decide) rfl rfl (Nat.le_of_ble_eq_true rfl) ⟨Nat.zero_le _, Nat.zero_le _⟩ dM_negative_38 (z_kv (fun w1 tys1 hp => ?_))
      obtain ⟨k38_9, n38_9, e38_9, rfl, rfl, p38_9⟩ := hp
      refine z_goto (pc := 41) hZ 73 dM_negative_41 (by decide) ?_
      exact z_retv (pc := 73) hZ dM_negative_73 rfl ⟨rfl, _, _, _, rfl, rfl, (by first | exact VK_2 ((p38_9).1) | exact Or.inl (nokey_).1 | exact VK_of (sp_RK (Or.inr (Or.inl rfl)) nokey_) | exact VK_of (sp_RK (Or.inl rfl) nokey_) | exact VK_of (sp_RK (Or.inr (Or.inr rfl)) nokey_))⟩
  · refine z_aload_n (pc := 8) hZ 0 dM_negative_8 rfl rfl ?_
    refine z_aload_n (pc := 9) hZ 0 dM_negative_9 rfl rfl ?_
    refine z_get (pc := 10) (ci := 2) hZ 0 rfl rfl uc_M 4 (by decide) (zb fl_M_54) rfl dM_negative_10 ?_
    refine z_lneg (pc := 13) hZ dM_negative_13 (fun v13_10 ev13_10 => ?_)
    refine z_callV (pc := 14) (As := [.long v13_10]) (rest := []) hZ (cM_setWhole l D cR c1 c2 c3 h0 a1 a2 a3 Y ka na ea kb nb eb k n e bits scale K N E v13_10) zyM_setWhole (z_goodV ml_M_134 im_M_setWhole se_M_setWhole in_M co_M_setWhole) 0 rfl rfl rfl rfl (by decide) rfl rfl (Nat.le_of_ble_eq_true rfl) ⟨Nat.zero_le _, Nat.zero_le _⟩ dM_negative_14 (z_kv (fun w1 tys1 hp => ?_))
    obtain ⟨k14_11, n14_11, e14_11, rfl, rfl, p14_11⟩ := hp
    refine z_goto (pc := 17) hZ 73 dM_negative_17 (by decide) ?_
    exact z_retv (pc := 73) hZ dM_negative_73 rfl ⟨rfl, _, _, _, rfl, rfl, (by first | exact VK_2 ((nokey_).1) | exact Or.inl (p14_11).1 | exact VK_of (sp_RK (Or.inr (Or.inl rfl)) nokey_) | exact VK_of (sp_RK (Or.inl rfl) nokey_) | exact VK_of (sp_RK (Or.inr (Or.inr rfl)) nokey_))⟩
set_option maxHeartbeats 4000000 in
set_option maxRecDepth 100000 in
theorem cM_floorOfA (l : Launch) (D : va_G) (cR c1 c2 c3 : ClassId) (h0 a1 a2 a3 : Nat) (Y : va_W) (ka : Int32) (na : Int64) (ea : Int32) (kb : Int32) (nb : Int64) (eb : Int32) (k : Int32) (n : Int64) (e : Int32) (bits : Int64) (scale : Int32) (K : Nat → Int32) (N : Nat → Int64) (E : Nat → Int32) (va : VK ka na ea) : zM l D vwCl zNF zNM yM_floorOfA wsM_floorOfA { frames := 2, cells := 0, slots := 0, locals := 43 } [.ref h0] (MW h0 a1 a2 a3 c1 c2 c3 (ka, na, ea, kb, nb, eb, k, n, e, bits, scale, K, N, E) ++ Y) (TY cR c1 c2 c3) (qV (fun w' tys' => ∃ k' : Int32, ∃ n' : Int64, ∃ e' : Int32, MW h0 a1 a2 a3 c1 c2 c3 (ka, na, ea, kb, nb, eb, k', n', e', bits, scale, K, N, E) ++ Y = w' ∧ (TY cR c1 c2 c3) = tys' ∧ (VK k' n' e'))) := by
  refine z_met (cc := bM_floorOfA) (maxL := 1) (ret := none) (isI := false) (own := RM) (by decide +kernel) rfl rfl (fun h => by cases h) (Nat.le_of_ble_eq_true rfl) (fun Z hZ => ?_)
  show Z 0 0 (TY cR c1 c2 c3) 0 [(0, .ref h0)] [] (MW h0 a1 a2 a3 c1 c2 c3 (ka, na, ea, kb, nb, eb, k, n, e, bits, scale, K, N, E) ++ Y)
  refine z_aload_n (pc := 0) hZ 0 dM_floorOfA_0 rfl rfl ?_
  refine z_callV (pc := 1) (As := []) (rest := []) hZ (cM_copyA l D cR c1 c2 c3 h0 a1 a2 a3 Y ka na ea kb nb eb k n e bits scale K N E ) zyM_copyA (z_goodV ml_M_174 im_M_copyA se_M_copyA in_M co_M_copyA) 0 rfl rfl rfl rfl (by decide) rfl rfl (Nat.le_of_ble_eq_true rfl) ⟨Nat.zero_le _, Nat.zero_le _⟩ dM_floorOfA_1 (z_kv (fun w1 tys1 hp => ?_))
  obtain ⟨k1_1, n1_1, e1_1, rfl, rfl, p1_1⟩ := hp
  refine z_aload_n (pc := 4) hZ 0 dM_floorOfA_4 rfl rfl ?_
  refine z_callV (pc := 5) (As := []) (rest := []) hZ (cM_roundDown l D cR c1 c2 c3 h0 a1 a2 a3 Y ka na ea kb nb eb k1_1 n1_1 e1_1 bits scale K N E (by exact VK_eq p1_1 va)) zyM_roundDown (z_goodV ml_M_160 im_M_roundDown se_M_roundDown in_M co_M_roundDown) 0 rfl rfl rfl rfl (by decide) rfl rfl (Nat.le_of_ble_eq_true rfl) ⟨Nat.zero_le _, Nat.zero_le _⟩ dM_floorOfA_5 (z_kv (fun w1 tys1 hp => ?_))
  obtain ⟨k5_2, n5_2, e5_2, rfl, rfl, p5_2⟩ := hp
  refine z_aload_n (pc := 8) hZ 0 dM_floorOfA_8 rfl rfl ?_
  refine z_get (pc := 9) (ci := 2) hZ 0 rfl rfl uc_M 9 (by decide) (zb fl_M_20) rfl dM_floorOfA_9 ?_
  refine z_iconst (pc := 12) hZ 2 dM_floorOfA_12 (by decide) ?_
  refine z_icmp_ne (pc := 13) hZ 55 dM_floorOfA_13 (by decide) (fun c13_3 => ?_) (fun c13_3 => ?_)
  · exact z_retv (pc := 55) hZ dM_floorOfA_55 rfl ⟨rfl, _, _, _, rfl, rfl, (by first | exact Or.inl (nokey_).1 | exact p5_2)⟩
  · refine z_aload_n (pc := 16) hZ 0 dM_floorOfA_16 rfl rfl ?_
    refine z_aload_n (pc := 17) hZ 0 dM_floorOfA_17 rfl rfl ?_
    refine z_get (pc := 18) (ci := 2) hZ 0 rfl rfl uc_M 9 (by decide) (zb fl_M_20) rfl dM_floorOfA_18 ?_
    refine z_aload_n (pc := 21) hZ 0 dM_floorOfA_21 rfl rfl ?_
    refine z_get (pc := 22) (ci := 2) hZ 0 rfl rfl uc_M 10 (by decide) (zb fl_M_24) rfl dM_floorOfA_22 ?_
    refine z_aload_n (pc := 25) hZ 0 dM_floorOfA_25 rfl rfl ?_
    refine z_get (pc := 26) (ci := 2) hZ 0 rfl rfl uc_M 11 (by decide) (zb fl_M_28) rfl dM_floorOfA_26 ?_
    refine z_callV (pc := 29) (As := [.int k5_2, .long n5_2, .int e5_2]) (rest := []) hZ (cM_isWhole l D cR c1 c2 c3 h0 a1 a2 a3 Y ka na ea kb nb eb k5_2 n5_2 e5_2 bits scale K N E k5_2 n5_2 e5_2) zyM_isWhole (z_goodV ml_M_126 im_M_isWhole se_M_isWhole in_M co_M_isWhole) 0 rfl rfl rfl rfl (by decide) rfl rfl (Nat.le_of_ble_eq_true rfl) ⟨Nat.zero_le _, Nat.zero_le _⟩ dM_floorOfA_29 (z_ki (fun r29_4 w1 tys1 hp => ?_))
    obtain ⟨rfl, rfl, p29_4⟩ := hp
    refine z_if_eq (pc := 32) hZ 55 dM_floorOfA_32 (by decide) (fun c32_5 => ?_) (fun c32_5 => ?_)
    · exact z_retv (pc := 55) hZ dM_floorOfA_55 rfl ⟨rfl, _, _, _, rfl, rfl, (by first | exact Or.inl (nokey_).1 | exact p5_2)⟩
    · refine z_aload_n (pc := 35) hZ 0 dM_floorOfA_35 rfl rfl ?_
      refine z_aload_n (pc := 36) hZ 0 dM_floorOfA_36 rfl rfl ?_
      refine z_aload_n (pc := 37) hZ 0 dM_floorOfA_37 rfl rfl ?_
      refine z_get (pc := 38) (ci := 2) hZ 0 rfl rfl uc_M 9 (by decide) (zb fl_M_20) rfl dM_floorOfA_38 ?_
      refine z_aload_n (pc := 41) hZ 0 dM_floorOfA_41 rfl rfl ?_
      refine z_get (pc := 42) (ci := 2) hZ 0 rfl rfl uc_M 10 (by decide) (zb fl_M_24) rfl dM_floorOfA_42 ?_
      refine z_aload_n (pc := 45) hZ 0 dM_floorOfA_45 rfl rfl ?_
      refine z_get (pc := 46) (ci := 2) hZ 0 rfl rfl uc_M 11 (by decide) (zb fl_M_28) rfl dM_floorOfA_46 ?_
      refine z_callV (pc := 49) (As := [.int k5_2, .long n5_2, .int e5_2]) (rest := [.ref h0]) hZ (cM_wholeOf l D cR c1 c2 c3 h0 a1 a2 a3 Y ka na ea kb nb eb k5_2 n5_2 e5_2 bits scale K N E k5_2 n5_2 e5_2) zyM_wholeOf (z_goodV ml_M_130 im_M_wholeOf se_M_wholeOf in_M co_M_wholeOf) 0 rfl rfl rfl rfl (by decide) rfl rfl (Nat.le_of_ble_eq_true rfl) ⟨Nat.zero_le _, Nat.zero_le _⟩ dM_floorOfA_49 (z_kl (fun r49_6 w1 tys1 hp => ?_))
      obtain ⟨rfl, rfl, p49_6⟩ := hp
      refine z_callV (pc := 52) (As := [.long r49_6]) (rest := []) hZ (cM_setWhole l D cR c1 c2 c3 h0 a1 a2 a3 Y ka na ea kb nb eb k5_2 n5_2 e5_2 bits scale K N E r49_6) zyM_setWhole (z_goodV ml_M_134 im_M_setWhole se_M_setWhole in_M co_M_setWhole) 0 rfl rfl rfl rfl (by decide) rfl rfl (Nat.le_of_ble_eq_true rfl) ⟨Nat.zero_le _, Nat.zero_le _⟩ dM_floorOfA_52 (z_kv (fun w1 tys1 hp => ?_))
      obtain ⟨k52_7, n52_7, e52_7, rfl, rfl, p52_7⟩ := hp
      exact z_retv (pc := 55) hZ dM_floorOfA_55 rfl ⟨rfl, _, _, _, rfl, rfl, (by first | exact Or.inl (p52_7).1 | exact p5_2)⟩
set_option maxHeartbeats 4000000 in
set_option maxRecDepth 100000 in
theorem cM_realA (l : Launch) (D : va_G) (cR c1 c2 c3 : ClassId) (h0 a1 a2 a3 : Nat) (Y : va_W) (ka : Int32) (na : Int64) (ea : Int32) (kb : Int32) (nb : Int64) (eb : Int32) (k : Int32) (n : Int64) (e : Int32) (bits : Int64) (scale : Int32) (K : Nat → Int32) (N : Nat → Int64) (E : Nat → Int32) (va : VK ka na ea) : zM l D vwCl zNF zNM yM_realA wsM_realA { frames := 3, cells := 0, slots := 0, locals := 82 } [.ref h0] (MW h0 a1 a2 a3 c1 c2 c3 (ka, na, ea, kb, nb, eb, k, n, e, bits, scale, K, N, E) ++ Y) (TY cR c1 c2 c3) (qV (fun w' tys' => ∃ ka' : Int32, ∃ na' : Int64, ∃ ea' : Int32, ∃ k' : Int32, ∃ n' : Int64, ∃ e' : Int32, MW h0 a1 a2 a3 c1 c2 c3 (ka', na', ea', kb, nb, eb, k', n', e', bits, scale, K, N, E) ++ Y = w' ∧ (TY cR c1 c2 c3) = tys' ∧ ((RK ka' na' ea' ∧ (VK k n e → VK k' n' e')) ∧ (ka = 1 → na = 0 → ka' = 2 ∧ na' = 0 ∧ ea' = 0)))) := by
  refine z_met (cc := bM_realA) (maxL := 1) (ret := none) (isI := false) (own := RM) (by decide +kernel) rfl rfl (fun h => by cases h) (Nat.le_of_ble_eq_true rfl) (fun Z hZ => ?_)
  show Z 0 0 (TY cR c1 c2 c3) 0 [(0, .ref h0)] [] (MW h0 a1 a2 a3 c1 c2 c3 (ka, na, ea, kb, nb, eb, k, n, e, bits, scale, K, N, E) ++ Y)
  refine z_aload_n (pc := 0) hZ 0 dM_realA_0 rfl rfl ?_
  refine z_get (pc := 1) (ci := 2) hZ 0 rfl rfl uc_M 3 (by decide) (zb fl_M_51) rfl dM_realA_1 ?_
  refine z_iconst (pc := 4) hZ 1 dM_realA_4 (by decide) ?_
  refine z_icmp_ne (pc := 5) hZ 21 dM_realA_5 (by decide) (fun c5_1 => ?_) (fun c5_1 => ?_)
  · exact z_retv (pc := 21) hZ dM_realA_21 rfl ⟨rfl, _, _, _, _, _, _, rfl, rfl, (by first | exact ⟨⟨RK_eq nokey_ (nokey_).1.1, fun _ => VK_of (nokey_).1.1⟩, fun _ h => eq3 nokey_ ((nokey_).2 h)⟩ | exact ⟨⟨RK_no1 va c5_1, fun h => h⟩, fun h => absurd h c5_1⟩)⟩
  · refine z_aload_n (pc := 8) hZ 0 dM_realA_8 rfl rfl ?_
    refine z_aload_n (pc := 9) hZ 0 dM_realA_9 rfl rfl ?_
    refine z_get (pc := 10) (ci := 2) hZ 0 rfl rfl uc_M 4 (by decide) (zb fl_M_54) rfl dM_realA_10 ?_
    refine z_iconst (pc := 13) hZ 0 dM_realA_13 (by decide) ?_
    refine z_callV (pc := 14) (As := [.long na, .int 0]) (rest := []) hZ (cM_nearestOf l D cR c1 c2 c3 h0 a1 a2 a3 Y ka na ea kb nb eb k n e bits scale K N E na 0 (by decide)) zyM_nearestOf (z_goodV ml_M_69 im_M_nearestOf se_M_nearestOf in_M co_M_nearestOf) 0 rfl rfl rfl rfl (by decide) rfl rfl (Nat.le_of_ble_eq_true rfl) ⟨Nat.zero_le _, Nat.zero_le _⟩ dM_realA_14 (z_kv (fun w1 tys1 hp => ?_))
    obtain ⟨k14_2, n14_2, e14_2, rfl, rfl, p14_2⟩ := hp
    refine z_aload_n (pc := 17) hZ 0 dM_realA_17 rfl rfl ?_
    refine z_callV (pc := 18) (As := []) (rest := []) hZ (cM_resultToA l D cR c1 c2 c3 h0 a1 a2 a3 Y ka na ea kb nb eb k14_2 n14_2 e14_2 bits scale K N E ) zyM_resultToA (z_goodV ml_M_72 im_M_resultToA se_M_resultToA in_M co_M_resultToA) 0 rfl rfl rfl rfl (by decide) rfl rfl (Nat.le_of_ble_eq_true rfl) ⟨Nat.zero_le _, Nat.zero_le _⟩ dM_realA_18 (z_kv (fun w1 tys1 hp => ?_))
    obtain ⟨ka18_3, na18_3, ea18_3, rfl, rfl, p18_3⟩ := hp
    exact z_retv (pc := 21) hZ dM_realA_21 rfl ⟨rfl, _, _, _, _, _, _, rfl, rfl, (by first | exact ⟨⟨RK_eq p18_3 (p14_2).1.1, fun _ => VK_of (p14_2).1.1⟩, fun _ h => eq3 p18_3 ((p14_2).2 h)⟩ | exact ⟨⟨RK_no1 va c5_1, fun h => h⟩, fun h => absurd h c5_1⟩)⟩
set_option maxHeartbeats 4000000 in
set_option maxRecDepth 100000 in
theorem cM_realB (l : Launch) (D : va_G) (cR c1 c2 c3 : ClassId) (h0 a1 a2 a3 : Nat) (Y : va_W) (ka : Int32) (na : Int64) (ea : Int32) (kb : Int32) (nb : Int64) (eb : Int32) (k : Int32) (n : Int64) (e : Int32) (bits : Int64) (scale : Int32) (K : Nat → Int32) (N : Nat → Int64) (E : Nat → Int32) (vb : VK kb nb eb) : zM l D vwCl zNF zNM yM_realB wsM_realB { frames := 3, cells := 0, slots := 0, locals := 82 } [.ref h0] (MW h0 a1 a2 a3 c1 c2 c3 (ka, na, ea, kb, nb, eb, k, n, e, bits, scale, K, N, E) ++ Y) (TY cR c1 c2 c3) (qV (fun w' tys' => ∃ kb' : Int32, ∃ nb' : Int64, ∃ eb' : Int32, ∃ k' : Int32, ∃ n' : Int64, ∃ e' : Int32, MW h0 a1 a2 a3 c1 c2 c3 (ka, na, ea, kb', nb', eb', k', n', e', bits, scale, K, N, E) ++ Y = w' ∧ (TY cR c1 c2 c3) = tys' ∧ ((RK kb' nb' eb' ∧ (VK k n e → VK k' n' e')) ∧ (kb = 1 → nb = 0 → kb' = 2 ∧ nb' = 0 ∧ eb' = 0)))) := by
  refine z_met (cc := bM_realB) (maxL := 1) (ret := none) (isI := false) (own := RM) (by decide +kernel) rfl rfl (fun h => by cases h) (Nat.le_of_ble_eq_true rfl) (fun Z hZ => ?_)
  show Z 0 0 (TY cR c1 c2 c3) 0 [(0, .ref h0)] [] (MW h0 a1 a2 a3 c1 c2 c3 (ka, na, ea, kb, nb, eb, k, n, e, bits, scale, K, N, E) ++ Y)
  refine z_aload_n (pc := 0) hZ 0 dM_realB_0 rfl rfl ?_
  refine z_get (pc := 1) (ci := 2) hZ 0 rfl rfl uc_M 6 (by decide) (zb fl_M_60) rfl dM_realB_1 ?_
  refine z_iconst (pc := 4) hZ 1 dM_realB_4 (by decide) ?_
  refine z_icmp_ne (pc := 5) hZ 21 dM_realB_5 (by decide) (fun c5_1 => ?_) (fun c5_1 => ?_)
  · exact z_retv (pc := 21) hZ dM_realB_21 rfl ⟨rfl, _, _, _, _, _, _, rfl, rfl, (by first | exact ⟨⟨RK_eq nokey_ (nokey_).1.1, fun _ => VK_of (nokey_).1.1⟩, fun _ h => eq3 nokey_ ((nokey_).2 h)⟩ | exact ⟨⟨RK_no1 vb c5_1, fun h => h⟩, fun h => absurd h c5_1⟩)⟩
  · refine z_aload_n (pc := 8) hZ 0 dM_realB_8 rfl rfl ?_
    refine z_aload_n (pc := 9) hZ 0 dM_realB_9 rfl rfl ?_
    refine z_get (pc := 10) (ci := 2) hZ 0 rfl rfl uc_M 7 (by decide) (zb fl_M_63) rfl dM_realB_10 ?_
    refine z_iconst (pc := 13) hZ 0 dM_realB_13 (by decide) ?_
    refine z_callV (pc := 14) (As := [.long nb, .int 0]) (rest := []) hZ (cM_nearestOf l D cR c1 c2 c3 h0 a1 a2 a3 Y ka na ea kb nb eb k n e bits scale K N E nb 0 (by decide)) zyM_nearestOf (z_goodV ml_M_69 im_M_nearestOf se_M_nearestOf in_M co_M_nearestOf) 0 rfl rfl rfl rfl (by decide) rfl rfl (Nat.le_of_ble_eq_true rfl) ⟨Nat.zero_le _, Nat.zero_le _⟩ dM_realB_14 (z_kv (fun w1 tys1 hp => ?_))
    obtain ⟨k14_2, n14_2, e14_2, rfl, rfl, p14_2⟩ := hp
    refine z_aload_n (pc := 17) hZ 0 dM_realB_17 rfl rfl ?_
    refine z_callV (pc := 18) (As := []) (rest := []) hZ (cM_resultToB l D cR c1 c2 c3 h0 a1 a2 a3 Y ka na ea kb nb eb k14_2 n14_2 e14_2 bits scale K N E ) zyM_resultToB (z_goodV ml_M_75 im_M_resultToB se_M_resultToB in_M co_M_resultToB) 0 rfl rfl rfl rfl (by decide) rfl rfl (Nat.le_of_ble_eq_true rfl) ⟨Nat.zero_le _, Nat.zero_le _⟩ dM_realB_18 (z_kv (fun w1 tys1 hp => ?_))
    obtain ⟨kb18_3, nb18_3, eb18_3, rfl, rfl, p18_3⟩ := hp
    exact z_retv (pc := 21) hZ dM_realB_21 rfl ⟨rfl, _, _, _, _, _, _, rfl, rfl, (by first | exact ⟨⟨RK_eq p18_3 (p14_2).1.1, fun _ => VK_of (p14_2).1.1⟩, fun _ h => eq3 p18_3 ((p14_2).2 h)⟩ | exact ⟨⟨RK_no1 vb c5_1, fun h => h⟩, fun h => absurd h c5_1⟩)⟩
set_option maxHeartbeats 4000000 in
set_option maxRecDepth 100000 in
theorem cM_single (l : Launch) (D : va_G) (cR c1 c2 c3 : ClassId) (h0 a1 a2 a3 : Nat) (Y : va_W) (ka : Int32) (na : Int64) (ea : Int32) (kb : Int32) (nb : Int64) (eb : Int32) (k : Int32) (n : Int64) (e : Int32) (bits : Int64) (scale : Int32) (K : Nat → Int32) (N : Nat → Int64) (E : Nat → Int32) (p1 : Int32) (va : VK ka na ea) : zM l D vwCl zNF zNM yM_single wsM_single { frames := 4, cells := 0, slots := 0, locals := 102 } [.ref h0, .int p1] (MW h0 a1 a2 a3 c1 c2 c3 (ka, na, ea, kb, nb, eb, k, n, e, bits, scale, K, N, E) ++ Y) (TY cR c1 c2 c3) (qI (fun r w' tys' => ∃ ka' : Int32, ∃ na' : Int64, ∃ ea' : Int32, ∃ k' : Int32, ∃ n' : Int64, ∃ e' : Int32, MW h0 a1 a2 a3 c1 c2 c3 (ka', na', ea', kb, nb, eb, k', n', e', bits, scale, K, N, E) ++ Y = w' ∧ (TY cR c1 c2 c3) = tys' ∧ (VK k' n' e' ∧ r = 0))) := by
  refine z_met (cc := bM_single) (maxL := 2) (ret := (some .int)) (isI := false) (own := RM) (by decide +kernel) rfl rfl (fun h => by cases h) (Nat.le_of_ble_eq_true rfl) (fun Z hZ => ?_)
  show Z 0 0 (TY cR c1 c2 c3) 0 [(0, .ref h0), (1, .int p1)] [] (MW h0 a1 a2 a3 c1 c2 c3 (ka, na, ea, kb, nb, eb, k, n, e, bits, scale, K, N, E) ++ Y)
  refine z_iload_n (pc := 0) hZ 1 dM_single_0 rfl rfl ?_
  refine z_bipush (pc := 1) hZ 12 dM_single_1 (by decide) ?_
  refine z_icmp_ne (pc := 3) hZ 13 dM_single_3 (by decide) (fun c3_1 => ?_) (fun c3_1 => ?_)
  · refine z_iload_n (pc := 13) hZ 1 dM_single_13 rfl rfl ?_
    refine z_bipush (pc := 14) hZ 14 dM_single_14 (by decide) ?_
    refine z_icmp_ne (pc := 16) hZ 26 dM_single_16 (by decide) (fun c16_2 => ?_) (fun c16_2 => ?_)
    · refine z_iload_n (pc := 26) hZ 1 dM_single_26 rfl rfl ?_
      refine z_bipush (pc := 27) hZ 15 dM_single_27 (by decide) ?_
      refine z_icmp_ne (pc := 29) hZ 43 dM_single_29 (by decide) (fun c29_3 => ?_) (fun c29_3 => ?_)
      · refine z_aload_n (pc := 43) hZ 0 dM_single_43 rfl rfl ?_
        refine z_get (pc := 44) (ci := 2) hZ 0 rfl rfl uc_M 3 (by decide) (zb fl_M_51) rfl dM_single_44 ?_
        refine z_aload_n (pc := 47) hZ 0 dM_single_47 rfl rfl ?_
        refine z_get (pc := 48) (ci := 2) hZ 0 rfl rfl uc_M 4 (by decide) (zb fl_M_54) rfl dM_single_48 ?_
        refine z_callS (pc := 51) (As := [.int ka, .long na]) (rest := []) hZ (cM_signOf l D (TY cR c1 c2 c3) (MW h0 a1 a2 a3 c1 c2 c3 (ka, na, ea, kb, nb, eb, k, n, e, bits, scale, K, N, E) ++ Y) ka na) zyM_signOf (z_goodS ml_M_101 st_M_signOf in_M co_M_signOf) rfl rfl (by decide) rfl rfl (Nat.le_of_ble_eq_true rfl) ⟨Nat.zero_le _, Nat.zero_le _⟩ dM_single_51 (z_ki (fun r51_4 w1 tys1 hp => ?_))
        obtain ⟨rfl, rfl, p51_4⟩ := hp
        refine z_if_ge (pc := 54) hZ 64 dM_single_54 (by decide) (fun c54_5 => ?_) (fun c54_5 => ?_)
        · refine z_aload_n (pc := 64) hZ 0 dM_single_64 rfl rfl ?_
          refine z_callV (pc := 65) (As := []) (rest := []) hZ (cM_copyA l D cR c1 c2 c3 h0 a1 a2 a3 Y ka na ea kb nb eb k n e bits scale K N E ) zyM_copyA (z_goodV ml_M_174 im_M_copyA se_M_copyA in_M co_M_copyA) 0 rfl rfl rfl rfl (by decide) rfl rfl (Nat.le_of_ble_eq_true rfl) ⟨Nat.zero_le _, Nat.zero_le _⟩ dM_single_65 (z_kv (fun w1 tys1 hp => ?_))
          obtain ⟨k65_6, n65_6, e65_6, rfl, rfl, p65_6⟩ := hp
          refine z_iconst (pc := 68) hZ 0 dM_single_68 (by decide) ?_
          exact z_reti (pc := 69) hZ dM_single_69 .int rfl rfl ⟨_, rfl, _, _, _, _, _, _, rfl, rfl, (by exact ⟨by first | exact nokey_ | exact nokey_ | exact VK_eq nokey_ (VK_of (((nokey_).1)).1) | exact nokey_ | exact VK_eq p65_6 va, rfl⟩)⟩
        · refine z_aload_n (pc := 57) hZ 0 dM_single_57 rfl rfl ?_
          refine z_callV (pc := 58) (As := []) (rest := []) hZ (cM_negative l D cR c1 c2 c3 h0 a1 a2 a3 Y ka na ea kb nb eb k n e bits scale K N E (by exact va)) zyM_negative (z_goodV ml_M_177 im_M_negative se_M_negative in_M co_M_negative) 0 rfl rfl rfl rfl (by decide) rfl rfl (Nat.le_of_ble_eq_true rfl) ⟨Nat.zero_le _, Nat.zero_le _⟩ dM_single_58 (z_kv (fun w1 tys1 hp => ?_))
          obtain ⟨k58_7, n58_7, e58_7, rfl, rfl, p58_7⟩ := hp
          refine z_goto (pc := 61) hZ 68 dM_single_61 (by decide) ?_
          refine z_iconst (pc := 68) hZ 0 dM_single_68 (by decide) ?_
          exact z_reti (pc := 69) hZ dM_single_69 .int rfl rfl ⟨_, rfl, _, _, _, _, _, _, rfl, rfl, (by exact ⟨by first | exact nokey_ | exact nokey_ | exact VK_eq nokey_ (VK_of (((nokey_).1)).1) | exact p58_7 | exact VK_eq nokey_ va, rfl⟩)⟩
      · refine z_aload_n (pc := 32) hZ 0 dM_single_32 rfl rfl ?_
        refine z_callV (pc := 33) (As := []) (rest := []) hZ (cM_realA l D cR c1 c2 c3 h0 a1 a2 a3 Y ka na ea kb nb eb k n e bits scale K N E (by exact va)) zyM_realA (z_goodV ml_M_145 im_M_realA se_M_realA in_M co_M_realA) 0 rfl rfl rfl rfl (by decide) rfl rfl (Nat.le_of_ble_eq_true rfl) ⟨Nat.zero_le _, Nat.zero_le _⟩ dM_single_33 (z_kv (fun w1 tys1 hp => ?_))
        obtain ⟨ka33_8, na33_8, ea33_8, k33_8, n33_8, e33_8, rfl, rfl, p33_8⟩ := hp
        refine z_aload_n (pc := 36) hZ 0 dM_single_36 rfl rfl ?_
        refine z_callV (pc := 37) (As := []) (rest := []) hZ (cM_copyA l D cR c1 c2 c3 h0 a1 a2 a3 Y ka33_8 na33_8 ea33_8 kb nb eb k33_8 n33_8 e33_8 bits scale K N E ) zyM_copyA (z_goodV ml_M_174 im_M_copyA se_M_copyA in_M co_M_copyA) 0 rfl rfl rfl rfl (by decide) rfl rfl (Nat.le_of_ble_eq_true rfl) ⟨Nat.zero_le _, Nat.zero_le _⟩ dM_single_37 (z_kv (fun w1 tys1 hp => ?_))
        obtain ⟨k37_9, n37_9, e37_9, rfl, rfl, p37_9⟩ := hp
        refine z_goto (pc := 40) hZ 68 dM_single_40 (by decide) ?_
        refine z_iconst (pc := 68) hZ 0 dM_single_68 (by decide) ?_
        exact z_reti (pc := 69) hZ dM_single_69 .int rfl rfl ⟨_, rfl, _, _, _, _, _, _, rfl, rfl, (by exact ⟨by first | exact nokey_ | exact nokey_ | exact VK_eq p37_9 (VK_of (((p33_8).1)).1) | exact nokey_ | exact VK_eq nokey_ va, rfl⟩)⟩
    · refine z_aload_n (pc := 19) hZ 0 dM_single_19 rfl rfl ?_
      refine z_callV (pc := 20) (As := []) (rest := []) hZ (cM_floorOfA l D cR c1 c2 c3 h0 a1 a2 a3 Y ka na ea kb nb eb k n e bits scale K N E (by exact va)) zyM_floorOfA (z_goodV ml_M_180 im_M_floorOfA se_M_floorOfA in_M co_M_floorOfA) 0 rfl rfl rfl rfl (by decide) rfl rfl (Nat.le_of_ble_eq_true rfl) ⟨Nat.zero_le _, Nat.zero_le _⟩ dM_single_20 (z_kv (fun w1 tys1 hp => ?_))
      obtain ⟨k20_10, n20_10, e20_10, rfl, rfl, p20_10⟩ := hp
      refine z_goto (pc := 23) hZ 68 dM_single_23 (by decide) ?_
      refine z_iconst (pc := 68) hZ 0 dM_single_68 (by decide) ?_
      exact z_reti (pc := 69) hZ dM_single_69 .int rfl rfl ⟨_, rfl, _, _, _, _, _, _, rfl, rfl, (by exact ⟨by first | exact nokey_ | exact p20_10 | exact VK_eq nokey_ (VK_of (((nokey_).1)).1) | exact nokey_ | exact VK_eq nokey_ va, rfl⟩)⟩
  · refine z_aload_n (pc := 6) hZ 0 dM_single_6 rfl rfl ?_
    refine z_callV (pc := 7) (As := []) (rest := []) hZ (cM_negative l D cR c1 c2 c3 h0 a1 a2 a3 Y ka na ea kb nb eb k n e bits scale K N E (by exact va)) zyM_negative (z_goodV ml_M_177 im_M_negative se_M_negative in_M co_M_negative) 0 rfl rfl rfl rfl (by decide) rfl rfl (Nat.le_of_ble_eq_true rfl) ⟨Nat.zero_le _, Nat.zero_le _⟩ dM_single_7 (z_kv (fun w1 tys1 hp => ?_))
    obtain ⟨k7_11, n7_11, e7_11, rfl, rfl, p7_11⟩ := hp
    refine z_goto (pc := 10) hZ 68 dM_single_10 (by decide) ?_
    refine z_iconst (pc := 68) hZ 0 dM_single_68 (by decide) ?_
    exact z_reti (pc := 69) hZ dM_single_69 .int rfl rfl ⟨_, rfl, _, _, _, _, _, _, rfl, rfl, (by exact ⟨by first | exact p7_11 | exact nokey_ | exact VK_eq nokey_ (VK_of (((nokey_).1)).1) | exact nokey_ | exact VK_eq nokey_ va, rfl⟩)⟩
set_option maxHeartbeats 4000000 in
set_option maxRecDepth 100000 in
theorem cM_power (l : Launch) (D : va_G) (cR c1 c2 c3 : ClassId) (h0 a1 a2 a3 : Nat) (Y : va_W) (ka : Int32) (na : Int64) (ea : Int32) (kb : Int32) (nb : Int64) (eb : Int32) (k : Int32) (n : Int64) (e : Int32) (bits : Int64) (scale : Int32) (K : Nat → Int32) (N : Nat → Int64) (E : Nat → Int32) (ra : RK ka na ea) (rb : RK kb nb eb) : zM l D vwCl zNF zNM yM_power wsM_power { frames := 3, cells := 0, slots := 0, locals := 79 } [.ref h0] (MW h0 a1 a2 a3 c1 c2 c3 (ka, na, ea, kb, nb, eb, k, n, e, bits, scale, K, N, E) ++ Y) (TY cR c1 c2 c3) (qI (fun r w' tys' => ∃ ka' : Int32, ∃ na' : Int64, ∃ ea' : Int32, ∃ kb' : Int32, ∃ nb' : Int64, ∃ eb' : Int32, ∃ k' : Int32, ∃ n' : Int64, ∃ e' : Int32, ∃ bits' : Int64, ∃ scale' : Int32, MW h0 a1 a2 a3 c1 c2 c3 (ka', na', ea', kb', nb', eb', k', n', e', bits', scale', K, N, E) ++ Y = w' ∧ (TY cR c1 c2 c3) = tys' ∧ (((r = 0 → VK k' n' e') ∧ (VK k n e → VK k' n' e')) ∧ (kb = 2 → nb = 0 → eb = 0 → r = 0)))) := by
  refine z_met (cc := bM_power) (maxL := 13) (ret := (some .int)) (isI := false) (own := RM) (by decide +kernel) rfl rfl (fun h => by cases h) (Nat.le_of_ble_eq_true rfl) (fun Z hZ => ?_)
  show Z 0 0 (TY cR c1 c2 c3) 0 [(0, .ref h0)] [] (MW h0 a1 a2 a3 c1 c2 c3 (ka, na, ea, kb, nb, eb, k, n, e, bits, scale, K, N, E) ++ Y)
  refine z_aload_n (pc := 0) hZ 0 dM_power_0 rfl rfl ?_
  refine z_get (pc := 1) (ci := 2) hZ 0 rfl rfl uc_M 6 (by decide) (zb fl_M_60) rfl dM_power_1 ?_
  refine z_iconst (pc := 4) hZ 2 dM_power_4 (by decide) ?_
  refine z_icmp_ne (pc := 5) hZ 77 dM_power_5 (by decide) (fun c5_1 => ?_) (fun c5_1 => ?_)
  · refine z_iconst (pc := 77) hZ 0 dM_power_77 (by decide) ?_
    refine z_istore_n (pc := 78) hZ [(1, .int 0), (0, .ref h0)] dM_power_78 rfl (by decide) rfl ?_
    refine z_iload_n (pc := 79) hZ 0 dM_power_79 rfl rfl ?_
    refine z_if_ne (pc := 80) hZ 85 dM_power_80 (by decide) (fun c9 => False.elim (absurd c9 (by decide))) (fun c80 => ?_)
    refine z_iconst (pc := 83) hZ 3 dM_power_83 (by decide) ?_
    exact z_reti (pc := 84) hZ dM_power_84 .int rfl rfl ⟨_, rfl, _, _, _, _, _, _, _, _, _, _, _, rfl, rfl, (by first | exact ⟨⟨fun q => absurd q (by decide), fun h => h⟩, fun h => absurd h c5_1⟩ | exact ⟨⟨fun q => absurd q (by decide), fun h => h⟩, fun h1 h2 h3 => (pw_n (nokey_).2 h1 h2 h3 nokey_).elim⟩ | exact ⟨⟨fun q => absurd q (by decide), fun h => h⟩, fun _ h2 h3 => (pw_1 (nokey_ h2 h3) nokey_).elim⟩ | exact ⟨⟨fun q => absurd q (by decide), fun h => h⟩, fun _ h2 h3 => (pw_3 (nokey_ h2 h3) nokey_).elim⟩)⟩
  · refine z_aload_n (pc := 8) hZ 0 dM_power_8 rfl rfl ?_
    refine z_aload_n (pc := 9) hZ 0 dM_power_9 rfl rfl ?_
    refine z_get (pc := 10) (ci := 2) hZ 0 rfl rfl uc_M 6 (by decide) (zb fl_M_60) rfl dM_power_10 ?_
    refine z_aload_n (pc := 13) hZ 0 dM_power_13 rfl rfl ?_
    refine z_get (pc := 14) (ci := 2) hZ 0 rfl rfl uc_M 7 (by decide) (zb fl_M_63) rfl dM_power_14 ?_
    refine z_aload_n (pc := 17) hZ 0 dM_power_17 rfl rfl ?_
    refine z_get (pc := 18) (ci := 2) hZ 0 rfl rfl uc_M 8 (by decide) (zb fl_M_66) rfl dM_power_18 ?_
    refine z_callV (pc := 21) (As := [.int kb, .long nb, .int eb]) (rest := []) hZ (cM_isWhole l D cR c1 c2 c3 h0 a1 a2 a3 Y ka na ea kb nb eb k n e bits scale K N E kb nb eb) zyM_isWhole (z_goodV ml_M_126 im_M_isWhole se_M_isWhole in_M co_M_isWhole) 0 rfl rfl rfl rfl (by decide) rfl rfl (Nat.le_of_ble_eq_true rfl) ⟨Nat.zero_le _, Nat.zero_le _⟩ dM_power_21 (z_ki (fun r21_2 w1 tys1 hp => ?_))
    obtain ⟨rfl, rfl, p21_2⟩ := hp
    refine z_if_eq (pc := 24) hZ 77 dM_power_24 (by decide) (fun c24_3 => ?_) (fun c24_3 => ?_)
    · refine z_iconst (pc := 77) hZ 0 dM_power_77 (by decide) ?_
      refine z_istore_n (pc := 78) hZ [(1, .int 0), (0, .ref h0)] dM_power_78 rfl (by decide) rfl ?_
      refine z_iload_n (pc := 79) hZ 0 dM_power_79 rfl rfl ?_
      refine z_if_ne (pc := 80) hZ 85 dM_power_80 (by decide) (fun c9 => False.elim (absurd c9 (by decide))) (fun c80 => ?_)
      refine z_iconst (pc := 83) hZ 3 dM_power_83 (by decide) ?_
      exact z_reti (pc := 84) hZ dM_power_84 .int rfl rfl ⟨_, rfl, _, _, _, _, _, _, _, _, _, _, _, rfl, rfl, (by first | exact ⟨⟨fun q => absurd q (by decide), fun h => h⟩, fun h => absurd h c5_1⟩ | exact ⟨⟨fun q => absurd q (by decide), fun h => h⟩, fun h1 h2 h3 => (pw_n (p21_2).2 h1 h2 h3 c24_3).elim⟩ | exact ⟨⟨fun q => absurd q (by decide), fun h => h⟩, fun _ h2 h3 => (pw_1 (nokey_ h2 h3) nokey_).elim⟩ | exact ⟨⟨fun q => absurd q (by decide), fun h => h⟩, fun _ h2 h3 => (pw_3 (nokey_ h2 h3) nokey_).elim⟩)⟩
    · refine z_aload_n (pc := 27) hZ 0 dM_power_27 rfl rfl ?_
      refine z_aload_n (pc := 28) hZ 0 dM_power_28 rfl rfl ?_
      refine z_get (pc := 29) (ci := 2) hZ 0 rfl rfl uc_M 6 (by decide) (zb fl_M_60) rfl dM_power_29 ?_
      refine z_aload_n (pc := 32) hZ 0 dM_power_32 rfl rfl ?_
      refine z_get (pc := 33) (ci := 2) hZ 0 rfl rfl uc_M 7 (by decide) (zb fl_M_63) rfl dM_power_33 ?_
      refine z_aload_n (pc := 36) hZ 0 dM_power_36 rfl rfl ?_
      refine z_get (pc := 37) (ci := 2) hZ 0 rfl rfl uc_M 8 (by decide) (zb fl_M_66) rfl dM_power_37 ?_
      refine z_callV (pc := 40) (As := [.int kb, .long nb, .int eb]) (rest := []) hZ (cM_wholeOf l D cR c1 c2 c3 h0 a1 a2 a3 Y ka na ea kb nb eb k n e bits scale K N E kb nb eb) zyM_wholeOf (z_goodV ml_M_130 im_M_wholeOf se_M_wholeOf in_M co_M_wholeOf) 0 rfl rfl rfl rfl (by decide) rfl rfl (Nat.le_of_ble_eq_true rfl) ⟨Nat.zero_le _, Nat.zero_le _⟩ dM_power_40 (z_kl (fun r40_4 w1 tys1 hp => ?_))
      obtain ⟨rfl, rfl, p40_4⟩ := hp
      refine z_ldc2 (pc := 43) hZ (-65536) (zb kc_M_170) dM_power_43 ?_
      refine z_lif_lt (pc := 46) hZ 77 dM_power_46 dM_power_47 (by decide) (fun c47_5 => ?_) (fun c47_5 => ?_)
      · refine z_iconst (pc := 77) hZ 0 dM_power_77 (by decide) ?_
        refine z_istore_n (pc := 78) hZ [(1, .int 0), (0, .ref h0)] dM_power_78 rfl (by decide) rfl ?_
        refine z_iload_n (pc := 79) hZ 0 dM_power_79 rfl rfl ?_
        refine z_if_ne (pc := 80) hZ 85 dM_power_80 (by decide) (fun c9 => False.elim (absurd c9 (by decide))) (fun c80 => ?_)
        refine z_iconst (pc := 83) hZ 3 dM_power_83 (by decide) ?_
        exact z_reti (pc := 84) hZ dM_power_84 .int rfl rfl ⟨_, rfl, _, _, _, _, _, _, _, _, _, _, _, rfl, rfl, (by first | exact ⟨⟨fun q => absurd q (by decide), fun h => h⟩, fun h => absurd h c5_1⟩ | exact ⟨⟨fun q => absurd q (by decide), fun h => h⟩, fun h1 h2 h3 => (pw_n (p21_2).2 h1 h2 h3 c24_3).elim⟩ | exact ⟨⟨fun q => absurd q (by decide), fun h => h⟩, fun _ h2 h3 => (pw_1 (p40_4 h2 h3) c47_5).elim⟩ | exact ⟨⟨fun q => absurd q (by decide), fun h => h⟩, fun _ h2 h3 => (pw_3 (nokey_ h2 h3) nokey_).elim⟩)⟩
      · refine z_aload_n (pc := 50) hZ 0 dM_power_50 rfl rfl ?_
        refine z_aload_n (pc := 51) hZ 0 dM_power_51 rfl rfl ?_
        refine z_get (pc := 52) (ci := 2) hZ 0 rfl rfl uc_M 6 (by decide) (zb fl_M_60) rfl dM_power_52 ?_
        refine z_aload_n (pc := 55) hZ 0 dM_power_55 rfl rfl ?_
        refine z_get (pc := 56) (ci := 2) hZ 0 rfl rfl uc_M 7 (by decide) (zb fl_M_63) rfl dM_power_56 ?_
        refine z_aload_n (pc := 59) hZ 0 dM_power_59 rfl rfl ?_
        refine z_get (pc := 60) (ci := 2) hZ 0 rfl rfl uc_M 8 (by decide) (zb fl_M_66) rfl dM_power_60 ?_
        refine z_callV (pc := 63) (As := [.int kb, .long nb, .int eb]) (rest := []) hZ (cM_wholeOf l D cR c1 c2 c3 h0 a1 a2 a3 Y ka na ea kb nb eb k n e bits scale K N E kb nb eb) zyM_wholeOf (z_goodV ml_M_130 im_M_wholeOf se_M_wholeOf in_M co_M_wholeOf) 0 rfl rfl rfl rfl (by decide) rfl rfl (Nat.le_of_ble_eq_true rfl) ⟨Nat.zero_le _, Nat.zero_le _⟩ dM_power_63 (z_kl (fun r63_6 w1 tys1 hp => ?_))
        obtain ⟨rfl, rfl, p63_6⟩ := hp
        refine z_ldc2 (pc := 66) hZ 65536 (zb kc_M_172) dM_power_66 ?_
        refine z_lif_gt (pc := 69) hZ 77 dM_power_69 dM_power_70 (by decide) (fun c70_7 => ?_) (fun c70_7 => ?_)
        · refine z_iconst (pc := 77) hZ 0 dM_power_77 (by decide) ?_
          refine z_istore_n (pc := 78) hZ [(1, .int 0), (0, .ref h0)] dM_power_78 rfl (by decide) rfl ?_
          refine z_iload_n (pc := 79) hZ 0 dM_power_79 rfl rfl ?_
          refine z_if_ne (pc := 80) hZ 85 dM_power_80 (by decide) (fun c9 => False.elim (absurd c9 (by decide))) (fun c80 => ?_)
          refine z_iconst (pc := 83) hZ 3 dM_power_83 (by decide) ?_
          exact z_reti (pc := 84) hZ dM_power_84 .int rfl rfl ⟨_, rfl, _, _, _, _, _, _, _, _, _, _, _, rfl, rfl, (by first | exact ⟨⟨fun q => absurd q (by decide), fun h => h⟩, fun h => absurd h c5_1⟩ | exact ⟨⟨fun q => absurd q (by decide), fun h => h⟩, fun h1 h2 h3 => (pw_n (p21_2).2 h1 h2 h3 c24_3).elim⟩ | exact ⟨⟨fun q => absurd q (by decide), fun h => h⟩, fun _ h2 h3 => (pw_1 (p40_4 h2 h3) c47_5).elim⟩ | exact ⟨⟨fun q => absurd q (by decide), fun h => h⟩, fun _ h2 h3 => (pw_3 (p63_6 h2 h3) c70_7).elim⟩)⟩
        · refine z_iconst (pc := 73) hZ 1 dM_power_73 (by decide) ?_
          refine z_goto (pc := 74) hZ 78 dM_power_74 (by decide) ?_
          refine z_istore_n (pc := 78) hZ [(1, .int 1), (0, .ref h0)] dM_power_78 rfl (by decide) rfl ?_
          refine z_iload_n (pc := 79) hZ 0 dM_power_79 rfl rfl ?_
          refine z_if_ne (pc := 80) hZ 85 dM_power_80 (by decide) (fun c80 => ?_) (fun c9 => False.elim (absurd c9 (by decide)))
          refine z_aload_n (pc := 85) hZ 1 dM_power_85 rfl rfl ?_
          refine z_aload_n (pc := 86) hZ 1 dM_power_86 rfl rfl ?_
          refine z_get (pc := 87) (ci := 2) hZ 0 rfl rfl uc_M 6 (by decide) (zb fl_M_60) rfl dM_power_87 ?_
          refine z_aload_n (pc := 90) hZ 1 dM_power_90 rfl rfl ?_
          refine z_get (pc := 91) (ci := 2) hZ 0 rfl rfl uc_M 7 (by decide) (zb fl_M_63) rfl dM_power_91 ?_
          refine z_aload_n (pc := 94) hZ 1 dM_power_94 rfl rfl ?_
          refine z_get (pc := 95) (ci := 2) hZ 0 rfl rfl uc_M 8 (by decide) (zb fl_M_66) rfl dM_power_95 ?_
          refine z_callV (pc := 98) (As := [.int kb, .long nb, .int eb]) (rest := []) hZ (cM_wholeOf l D cR c1 c2 c3 h0 a1 a2 a3 Y ka na ea kb nb eb k n e bits scale K N E kb nb eb) zyM_wholeOf (z_goodV ml_M_130 im_M_wholeOf se_M_wholeOf in_M co_M_wholeOf) 0 rfl rfl rfl rfl (by decide) rfl rfl (Nat.le_of_ble_eq_true rfl) ⟨Nat.zero_le _, Nat.zero_le _⟩ dM_power_98 (z_kl (fun r98_8 w1 tys1 hp => ?_))
          obtain ⟨rfl, rfl, p98_8⟩ := hp
          refine z_lstore_n (pc := 101) hZ [(2, .long r98_8), (1, .int 1), (0, .ref h0)] dM_power_101 rfl (by decide) rfl ?_
          refine z_lload_n (pc := 102) hZ 0 dM_power_102 rfl rfl ?_
          refine z_callS (pc := 103) (As := [.long r98_8]) (rest := []) hZ (cM_size l D (TY cR c1 c2 c3) (MW h0 a1 a2 a3 c1 c2 c3 (ka, na, ea, kb, nb, eb, k, n, e, bits, scale, K, N, E) ++ Y) r98_8) zyM_size (z_goodS ml_M_47 st_M_size in_M co_M_size) rfl rfl (by decide) rfl rfl (Nat.le_of_ble_eq_true rfl) ⟨Nat.zero_le _, Nat.zero_le _⟩ dM_power_103 (z_kl (fun r103_9 w1 tys1 hp => ?_))
          obtain ⟨rfl, rfl, p103_9⟩ := hp
          refine z_l2i (pc := 106) hZ dM_power_106 (fun v106_10 ev106_10 => ?_)
          refine z_istore (pc := 107) hZ [(4, .int v106_10), (2, .long r98_8), (1, .int 1), (0, .ref h0)] dM_power_107 (by decide) rfl ?_
          refine z_iconst (pc := 109) hZ 2 dM_power_109 (by decide) ?_
          refine z_istore (pc := 110) hZ [(5, .int 2), (4, .int v106_10), (2, .long r98_8), (1, .int 1), (0, .ref h0)] dM_power_110 (by decide) rfl ?_
          refine z_lconst (pc := 112) hZ 1 dM_power_112 (by decide) ?_
          refine z_lstore (pc := 113) hZ [(6, .long 1), (5, .int 2), (4, .int v106_10), (2, .long r98_8), (1, .int 1), (0, .ref h0)] dM_power_113 (by decide) rfl ?_
          refine z_iconst (pc := 115) hZ 0 dM_power_115 (by decide) ?_
          refine z_istore (pc := 116) hZ [(8, .int 0), (6, .long 1), (5, .int 2), (4, .int v106_10), (2, .long r98_8), (1, .int 1), (0, .ref h0)] dM_power_116 (by decide) rfl ?_
          have L118 : ∀ (N118 : Nat) (x8_118 : Int32) (x6_118 : Int64) (x5_118 : Int32) (x4_118 : Int32) (bits_118 : Int64) (e_118 : Int32) (ea_118 : Int32) (eb_118 : Int32) (k_118 : Int32) (ka_118 : Int32) (kb_118 : Int32) (n_118 : Int64) (na_118 : Int64) (nb_118 : Int64) (scale_118 : Int32), x4_118.toInt.toNat < N118 → (RK ka_118 na_118 ea_118) → (RK x5_118 x6_118 x8_118) → Z 0 0 (TY cR c1 c2 c3) 118 [(8, .int x8_118), (6, .long x6_118), (5, .int x5_118), (4, .int x4_118), (2, .long r98_8), (0, .ref h0)] [] (MW h0 a1 a2 a3 c1 c2 c3 (ka_118, na_118, ea_118, kb_118, nb_118, eb_118, k_118, n_118, e_118, bits_118, scale_118, K, N, E) ++ Y) := by
            intro N118
            induction N118 with
            | zero => intro x8_118 x6_118 x5_118 x4_118 bits_118 e_118 ea_118 eb_118 k_118 ka_118 kb_118 n_118 na_118 nb_118 scale_118 m118; exact absurd m118 (Nat.not_lt_zero _)
            | succ N118 ih118 =>
              intro x8_118 x6_118 x5_118 x4_118 bits_118 e_118 ea_118 eb_118 k_118 ka_118 kb_118 n_118 na_118 nb_118 scale_118 m118 i118 j118
              refine z_iload (pc := 118) hZ 3 dM_power_118 rfl ?_
              refine z_if_le (pc := 120) hZ 229 dM_power_120 (by decide) (fun c120_11 => ?_) (fun c120_11 => ?_)
              · refine z_aload_n (pc := 229) hZ 5 dM_power_229 rfl rfl ?_
                refine z_iload (pc := 230) hZ 2 dM_power_230 rfl ?_
                refine z_put (pc := 232) (ci := 2) hZ 0 rfl rfl uc_M 9 (by decide) (zb fl_M_20) tyM tyM_ok nmM rfl rfl rfl (Nat.le_of_ble_eq_true rfl) dM_power_232 ?_
                show Z 0 0 (TY cR c1 c2 c3) (232 + 3) [(8, .int x8_118), (6, .long x6_118), (5, .int x5_118), (4, .int x4_118), (2, .long r98_8), (0, .ref h0)] [] (MW h0 a1 a2 a3 c1 c2 c3 (ka_118, na_118, ea_118, kb_118, nb_118, eb_118, x5_118, n_118, e_118, bits_118, scale_118, K, N, E) ++ Y)
                refine z_aload_n (pc := 235) hZ 5 dM_power_235 rfl rfl ?_
                refine z_lload (pc := 236) hZ 1 dM_power_236 rfl ?_
                refine z_put (pc := 238) (ci := 2) hZ 0 rfl rfl uc_M 10 (by decide) (zb fl_M_24) tyM tyM_ok nmM rfl rfl rfl (Nat.le_of_ble_eq_true rfl) dM_power_238 ?_
                show Z 0 0 (TY cR c1 c2 c3) (238 + 3) [(8, .int x8_118), (6, .long x6_118), (5, .int x5_118), (4, .int x4_118), (2, .long r98_8), (0, .ref h0)] [] (MW h0 a1 a2 a3 c1 c2 c3 (ka_118, na_118, ea_118, kb_118, nb_118, eb_118, x5_118, x6_118, e_118, bits_118, scale_118, K, N, E) ++ Y)
                refine z_aload_n (pc := 241) hZ 5 dM_power_241 rfl rfl ?_
                refine z_iload (pc := 242) hZ 0 dM_power_242 rfl ?_
                refine z_put (pc := 244) (ci := 2) hZ 0 rfl rfl uc_M 11 (by decide) (zb fl_M_28) tyM tyM_ok nmM rfl rfl rfl (Nat.le_of_ble_eq_true rfl) dM_power_244 ?_
                show Z 0 0 (TY cR c1 c2 c3) (244 + 3) [(8, .int x8_118), (6, .long x6_118), (5, .int x5_118), (4, .int x4_118), (2, .long r98_8), (0, .ref h0)] [] (MW h0 a1 a2 a3 c1 c2 c3 (ka_118, na_118, ea_118, kb_118, nb_118, eb_118, x5_118, x6_118, x8_118, bits_118, scale_118, K, N, E) ++ Y)
                refine z_lload_n (pc := 247) hZ 4 dM_power_247 rfl rfl ?_
                refine z_lconst (pc := 248) hZ 0 dM_power_248 (by decide) ?_
                refine z_lif_ge (pc := 249) hZ 276 dM_power_249 dM_power_250 (by decide) (fun c250_12 => ?_) (fun c250_12 => ?_)
                · refine z_iconst (pc := 276) hZ 0 dM_power_276 (by decide) ?_
                  exact z_reti (pc := 277) hZ dM_power_277 .int rfl rfl ⟨_, rfl, _, _, _, _, _, _, _, _, _, _, _, rfl, rfl, (by first | exact ⟨⟨fun _ => VK_of nokey_, fun _ => VK_of nokey_⟩, fun _ _ _ => rfl⟩ | exact ⟨⟨fun _ => VK_of j118, fun _ => VK_of j118⟩, fun _ _ _ => rfl⟩)⟩
                · refine z_aload_n (pc := 253) hZ 5 dM_power_253 rfl rfl ?_
                  refine z_callV (pc := 254) (As := []) (rest := []) hZ (cM_resultToB l D cR c1 c2 c3 h0 a1 a2 a3 Y ka_118 na_118 ea_118 kb_118 nb_118 eb_118 x5_118 x6_118 x8_118 bits_118 scale_118 K N E ) zyM_resultToB (z_goodV ml_M_75 im_M_resultToB se_M_resultToB in_M co_M_resultToB) 0 rfl rfl rfl rfl (by decide) rfl rfl (Nat.le_of_ble_eq_true rfl) ⟨Nat.zero_le _, Nat.zero_le _⟩ dM_power_254 (z_kv (fun w1 tys1 hp => ?_))
                  obtain ⟨kb254_13, nb254_13, eb254_13, rfl, rfl, p254_13⟩ := hp
                  refine z_aload_n (pc := 257) hZ 5 dM_power_257 rfl rfl ?_
                  refine z_iconst (pc := 258) hZ 2 dM_power_258 (by decide) ?_
                  refine z_put (pc := 259) (ci := 2) hZ 0 rfl rfl uc_M 3 (by decide) (zb fl_M_51) tyM tyM_ok nmM rfl rfl rfl (Nat.le_of_ble_eq_true rfl) dM_power_259 ?_
                  show Z 0 0 (TY cR c1 c2 c3) (259 + 3) [(8, .int x8_118), (6, .long x6_118), (5, .int x5_118), (4, .int x4_118), (2, .long r98_8), (0, .ref h0)] [] (MW h0 a1 a2 a3 c1 c2 c3 (2, na_118, ea_118, kb254_13, nb254_13, eb254_13, x5_118, x6_118, x8_118, bits_118, scale_118, K, N, E) ++ Y)
                  refine z_aload_n (pc := 262) hZ 5 dM_power_262 rfl rfl ?_
                  refine z_lconst (pc := 263) hZ 1 dM_power_263 (by decide) ?_
                  refine z_put (pc := 264) (ci := 2) hZ 0 rfl rfl uc_M 4 (by decide) (zb fl_M_54) tyM tyM_ok nmM rfl rfl rfl (Nat.le_of_ble_eq_true rfl) dM_power_264 ?_
                  show Z 0 0 (TY cR c1 c2 c3) (264 + 3) [(8, .int x8_118), (6, .long x6_118), (5, .int x5_118), (4, .int x4_118), (2, .long r98_8), (0, .ref h0)] [] (MW h0 a1 a2 a3 c1 c2 c3 (2, 1, ea_118, kb254_13, nb254_13, eb254_13, x5_118, x6_118, x8_118, bits_118, scale_118, K, N, E) ++ Y)
                  refine z_aload_n (pc := 267) hZ 5 dM_power_267 rfl rfl ?_
                  refine z_iconst (pc := 268) hZ 0 dM_power_268 (by decide) ?_
                  refine z_put (pc := 269) (ci := 2) hZ 0 rfl rfl uc_M 5 (by decide) (zb fl_M_57) tyM tyM_ok nmM rfl rfl rfl (Nat.le_of_ble_eq_true rfl) dM_power_269 ?_
                  show Z 0 0 (TY cR c1 c2 c3) (269 + 3) [(8, .int x8_118), (6, .long x6_118), (5, .int x5_118), (4, .int x4_118), (2, .long r98_8), (0, .ref h0)] [] (MW h0 a1 a2 a3 c1 c2 c3 (2, 1, 0, kb254_13, nb254_13, eb254_13, x5_118, x6_118, x8_118, bits_118, scale_118, K, N, E) ++ Y)
                  refine z_aload_n (pc := 272) hZ 5 dM_power_272 rfl rfl ?_
                  refine z_callV (pc := 273) (As := []) (rest := []) hZ (cM_divide l D cR c1 c2 c3 h0 a1 a2 a3 Y 2 1 0 kb254_13 nb254_13 eb254_13 x5_118 x6_118 x8_118 bits_118 scale_118 K N E (by exact RK_1) (by exact RK_eq p254_13 j118)) zyM_divide (z_goodV ml_M_157 im_M_divide se_M_divide in_M co_M_divide) 0 rfl rfl rfl rfl (by decide) rfl rfl (Nat.le_of_ble_eq_true rfl) ⟨Nat.zero_le _, Nat.zero_le _⟩ dM_power_273 (z_kv (fun w1 tys1 hp => ?_))
                  obtain ⟨k273_14, n273_14, e273_14, bits273_14, scale273_14, rfl, rfl, p273_14⟩ := hp
                  refine z_iconst (pc := 276) hZ 0 dM_power_276 (by decide) ?_
                  exact z_reti (pc := 277) hZ dM_power_277 .int rfl rfl ⟨_, rfl, _, _, _, _, _, _, _, _, _, _, _, rfl, rfl, (by first | exact ⟨⟨fun _ => VK_of p273_14, fun _ => VK_of p273_14⟩, fun _ _ _ => rfl⟩ | exact ⟨⟨fun _ => VK_of j118, fun _ => VK_of j118⟩, fun _ _ _ => rfl⟩)⟩
              · refine z_aload_n (pc := 123) hZ 5 dM_power_123 rfl rfl ?_
                refine z_get (pc := 124) (ci := 2) hZ 0 rfl rfl uc_M 3 (by decide) (zb fl_M_51) rfl dM_power_124 ?_
                refine z_istore (pc := 127) hZ [(9, .int ka_118), (8, .int x8_118), (6, .long x6_118), (5, .int x5_118), (4, .int x4_118), (2, .long r98_8), (0, .ref h0)] dM_power_127 (by decide) rfl ?_
                refine z_aload_n (pc := 129) hZ 6 dM_power_129 rfl rfl ?_
                refine z_get (pc := 130) (ci := 2) hZ 0 rfl rfl uc_M 4 (by decide) (zb fl_M_54) rfl dM_power_130 ?_
                refine z_lstore (pc := 133) hZ [(10, .long na_118), (9, .int ka_118), (8, .int x8_118), (6, .long x6_118), (5, .int x5_118), (4, .int x4_118), (2, .long r98_8), (0, .ref h0)] dM_power_133 (by decide) rfl ?_
                refine z_aload_n (pc := 135) hZ 7 dM_power_135 rfl rfl ?_
                refine z_get (pc := 136) (ci := 2) hZ 0 rfl rfl uc_M 5 (by decide) (zb fl_M_57) rfl dM_power_136 ?_
                refine z_istore (pc := 139) hZ [(12, .int ea_118), (10, .long na_118), (9, .int ka_118), (8, .int x8_118), (6, .long x6_118), (5, .int x5_118), (4, .int x4_118), (2, .long r98_8), (0, .ref h0)] dM_power_139 (by decide) rfl ?_
                refine z_iload (pc := 141) hZ 6 dM_power_141 rfl ?_
                refine z_iconst (pc := 143) hZ 1 dM_power_143 (by decide) ?_
                refine z_iand (pc := 144) hZ dM_power_144 (fun v144_15 ev144_15 => ?_)
                refine z_iconst (pc := 145) hZ 1 dM_power_145 (by decide) ?_
                refine z_icmp_ne (pc := 146) hZ 189 dM_power_146 (by decide) (fun c146_16 => ?_) (fun c146_16 => ?_)
                · refine z_iload (pc := 189) hZ 6 dM_power_189 rfl ?_
                  refine z_iconst (pc := 191) hZ 1 dM_power_191 (by decide) ?_
                  refine z_ishr (pc := 192) hZ dM_power_192 (fun v192_17 ev192_17 => ?_)
                  refine z_istore (pc := 193) hZ [(4, .int v192_17), (12, .int ea_118), (10, .long na_118), (9, .int ka_118), (8, .int x8_118), (6, .long x6_118), (5, .int x5_118), (2, .long r98_8), (0, .ref h0)] dM_power_193 (by decide) rfl ?_
                  refine z_iload (pc := 195) hZ 0 dM_power_195 rfl ?_
                  refine z_if_le (pc := 197) hZ 226 dM_power_197 (by decide) (fun c197_18 => ?_) (fun c197_18 => ?_)
                  · refine z_goto (pc := 226) hZ 118 dM_power_226 (by decide) ?_
                    exact z_sub (pc := 118) hZ [4, 5, 6, 0, 7, 8] rfl (ih118 x8_118 x6_118 x5_118 v192_17 bits_118 e_118 ea_118 eb_118 k_118 ka_118 kb_118 n_118 na_118 nb_118 scale_118 (by exact Nat.lt_of_lt_of_le (po_s c120_11 ev192_17) (Nat.le_of_lt_succ m118)) (by first | exact RK_eq nokey_ nokey_ | exact i118) (by first | exact nokey_ | exact j118))
                  · refine z_aload_n (pc := 200) hZ 8 dM_power_200 rfl rfl ?_
                    refine z_iload (pc := 201) hZ 3 dM_power_201 rfl ?_
                    refine z_put (pc := 203) (ci := 2) hZ 0 rfl rfl uc_M 6 (by decide) (zb fl_M_60) tyM tyM_ok nmM rfl rfl rfl (Nat.le_of_ble_eq_true rfl) dM_power_203 ?_
                    show Z 0 0 (TY cR c1 c2 c3) (203 + 3) [(4, .int v192_17), (12, .int ea_118), (10, .long na_118), (9, .int ka_118), (8, .int x8_118), (6, .long x6_118), (5, .int x5_118), (2, .long r98_8), (0, .ref h0)] [] (MW h0 a1 a2 a3 c1 c2 c3 (ka_118, na_118, ea_118, ka_118, nb_118, eb_118, k_118, n_118, e_118, bits_118, scale_118, K, N, E) ++ Y)
                    refine z_aload_n (pc := 206) hZ 8 dM_power_206 rfl rfl ?_
                    refine z_lload (pc := 207) hZ 2 dM_power_207 rfl ?_
                    refine z_put (pc := 209) (ci := 2) hZ 0 rfl rfl uc_M 7 (by decide) (zb fl_M_63) tyM tyM_ok nmM rfl rfl rfl (Nat.le_of_ble_eq_true rfl) dM_power_209 ?_
                    show Z 0 0 (TY cR c1 c2 c3) (209 + 3) [(4, .int v192_17), (12, .int ea_118), (10, .long na_118), (9, .int ka_118), (8, .int x8_118), (6, .long x6_118), (5, .int x5_118), (2, .long r98_8), (0, .ref h0)] [] (MW h0 a1 a2 a3 c1 c2 c3 (ka_118, na_118, ea_118, ka_118, na_118, eb_118, k_118, n_118, e_118, bits_118, scale_118, K, N, E) ++ Y)
                    refine z_aload_n (pc := 212) hZ 8 dM_power_212 rfl rfl ?_
                    refine z_iload (pc := 213) hZ 1 dM_power_213 rfl ?_
                    refine z_put (pc := 215) (ci := 2) hZ 0 rfl rfl uc_M 8 (by decide) (zb fl_M_66) tyM tyM_ok nmM rfl rfl rfl (Nat.le_of_ble_eq_true rfl) dM_power_215 ?_
                    show Z 0 0 (TY cR c1 c2 c3) (215 + 3) [(4, .int v192_17), (12, .int ea_118), (10, .long na_118), (9, .int ka_118), (8, .int x8_118), (6, .long x6_118), (5, .int x5_118), (2, .long r98_8), (0, .ref h0)] [] (MW h0 a1 a2 a3 c1 c2 c3 (ka_118, na_118, ea_118, ka_118, na_118, ea_118, k_118, n_118, e_118, bits_118, scale_118, K, N, E) ++ Y)
                    refine z_aload_n (pc := 218) hZ 8 dM_power_218 rfl rfl ?_
                    refine z_callV (pc := 219) (As := []) (rest := []) hZ (cM_multiply l D cR c1 c2 c3 h0 a1 a2 a3 Y ka_118 na_118 ea_118 ka_118 na_118 ea_118 k_118 n_118 e_118 bits_118 scale_118 K N E (by exact i118) (by exact i118)) zyM_multiply (z_goodV ml_M_154 im_M_multiply se_M_multiply in_M co_M_multiply) 0 rfl rfl rfl rfl (by decide) rfl rfl (Nat.le_of_ble_eq_true rfl) ⟨Nat.zero_le _, Nat.zero_le _⟩ dM_power_219 (z_kv (fun w1 tys1 hp => ?_))
                    obtain ⟨k219_19, n219_19, e219_19, bits219_19, scale219_19, rfl, rfl, p219_19⟩ := hp
                    refine z_aload_n (pc := 222) hZ 8 dM_power_222 rfl rfl ?_
                    refine z_callV (pc := 223) (As := []) (rest := []) hZ (cM_resultToA l D cR c1 c2 c3 h0 a1 a2 a3 Y ka_118 na_118 ea_118 ka_118 na_118 ea_118 k219_19 n219_19 e219_19 bits219_19 scale219_19 K N E ) zyM_resultToA (z_goodV ml_M_72 im_M_resultToA se_M_resultToA in_M co_M_resultToA) 0 rfl rfl rfl rfl (by decide) rfl rfl (Nat.le_of_ble_eq_true rfl) ⟨Nat.zero_le _, Nat.zero_le _⟩ dM_power_223 (z_kv (fun w1 tys1 hp => ?_))
                    obtain ⟨ka223_20, na223_20, ea223_20, rfl, rfl, p223_20⟩ := hp
                    refine z_goto (pc := 226) hZ 118 dM_power_226 (by decide) ?_
                    exact z_sub (pc := 118) hZ [4, 5, 6, 0, 7, 8] rfl (ih118 x8_118 x6_118 x5_118 v192_17 bits219_19 e219_19 ea223_20 ea_118 k219_19 ka223_20 ka_118 n219_19 na223_20 na_118 scale219_19 (by exact Nat.lt_of_lt_of_le (po_s c120_11 ev192_17) (Nat.le_of_lt_succ m118)) (by first | exact RK_eq p223_20 p219_19 | exact i118) (by first | exact nokey_ | exact j118))
                · refine z_aload_n (pc := 149) hZ 8 dM_power_149 rfl rfl ?_
                  refine z_iload (pc := 150) hZ 5 dM_power_150 rfl ?_
                  refine z_put (pc := 152) (ci := 2) hZ 0 rfl rfl uc_M 6 (by decide) (zb fl_M_60) tyM tyM_ok nmM rfl rfl rfl (Nat.le_of_ble_eq_true rfl) dM_power_152 ?_
                  show Z 0 0 (TY cR c1 c2 c3) (152 + 3) [(12, .int ea_118), (10, .long na_118), (9, .int ka_118), (8, .int x8_118), (6, .long x6_118), (5, .int x5_118), (4, .int x4_118), (2, .long r98_8), (0, .ref h0)] [] (MW h0 a1 a2 a3 c1 c2 c3 (ka_118, na_118, ea_118, x5_118, nb_118, eb_118, k_118, n_118, e_118, bits_118, scale_118, K, N, E) ++ Y)
                  refine z_aload_n (pc := 155) hZ 8 dM_power_155 rfl rfl ?_
                  refine z_lload (pc := 156) hZ 4 dM_power_156 rfl ?_
                  refine z_put (pc := 158) (ci := 2) hZ 0 rfl rfl uc_M 7 (by decide) (zb fl_M_63) tyM tyM_ok nmM rfl rfl rfl (Nat.le_of_ble_eq_true rfl) dM_power_158 ?_
                  show Z 0 0 (TY cR c1 c2 c3) (158 + 3) [(12, .int ea_118), (10, .long na_118), (9, .int ka_118), (8, .int x8_118), (6, .long x6_118), (5, .int x5_118), (4, .int x4_118), (2, .long r98_8), (0, .ref h0)] [] (MW h0 a1 a2 a3 c1 c2 c3 (ka_118, na_118, ea_118, x5_118, x6_118, eb_118, k_118, n_118, e_118, bits_118, scale_118, K, N, E) ++ Y)
                  refine z_aload_n (pc := 161) hZ 8 dM_power_161 rfl rfl ?_
                  refine z_iload (pc := 162) hZ 3 dM_power_162 rfl ?_
                  refine z_put (pc := 164) (ci := 2) hZ 0 rfl rfl uc_M 8 (by decide) (zb fl_M_66) tyM tyM_ok nmM rfl rfl rfl (Nat.le_of_ble_eq_true rfl) dM_power_164 ?_
                  show Z 0 0 (TY cR c1 c2 c3) (164 + 3) [(12, .int ea_118), (10, .long na_118), (9, .int ka_118), (8, .int x8_118), (6, .long x6_118), (5, .int x5_118), (4, .int x4_118), (2, .long r98_8), (0, .ref h0)] [] (MW h0 a1 a2 a3 c1 c2 c3 (ka_118, na_118, ea_118, x5_118, x6_118, x8_118, k_118, n_118, e_118, bits_118, scale_118, K, N, E) ++ Y)
                  refine z_aload_n (pc := 167) hZ 8 dM_power_167 rfl rfl ?_
                  refine z_callV (pc := 168) (As := []) (rest := []) hZ (cM_multiply l D cR c1 c2 c3 h0 a1 a2 a3 Y ka_118 na_118 ea_118 x5_118 x6_118 x8_118 k_118 n_118 e_118 bits_118 scale_118 K N E (by exact i118) (by exact j118)) zyM_multiply (z_goodV ml_M_154 im_M_multiply se_M_multiply in_M co_M_multiply) 0 rfl rfl rfl rfl (by decide) rfl rfl (Nat.le_of_ble_eq_true rfl) ⟨Nat.zero_le _, Nat.zero_le _⟩ dM_power_168 (z_kv (fun w1 tys1 hp => ?_))
                  obtain ⟨k168_21, n168_21, e168_21, bits168_21, scale168_21, rfl, rfl, p168_21⟩ := hp
                  refine z_aload_n (pc := 171) hZ 8 dM_power_171 rfl rfl ?_
                  refine z_get (pc := 172) (ci := 2) hZ 0 rfl rfl uc_M 9 (by decide) (zb fl_M_20) rfl dM_power_172 ?_
                  refine z_istore (pc := 175) hZ [(5, .int k168_21), (12, .int ea_118), (10, .long na_118), (9, .int ka_118), (8, .int x8_118), (6, .long x6_118), (4, .int x4_118), (2, .long r98_8), (0, .ref h0)] dM_power_175 (by decide) rfl ?_
                  refine z_aload_n (pc := 177) hZ 8 dM_power_177 rfl rfl ?_
                  refine z_get (pc := 178) (ci := 2) hZ 0 rfl rfl uc_M 10 (by decide) (zb fl_M_24) rfl dM_power_178 ?_
                  refine z_lstore (pc := 181) hZ [(6, .long n168_21), (5, .int k168_21), (12, .int ea_118), (10, .long na_118), (9, .int ka_118), (8, .int x8_118), (4, .int x4_118), (2, .long r98_8), (0, .ref h0)] dM_power_181 (by decide) rfl ?_
                  refine z_aload_n (pc := 183) hZ 8 dM_power_183 rfl rfl ?_
                  refine z_get (pc := 184) (ci := 2) hZ 0 rfl rfl uc_M 11 (by decide) (zb fl_M_28) rfl dM_power_184 ?_
                  refine z_istore (pc := 187) hZ [(8, .int e168_21), (6, .long n168_21), (5, .int k168_21), (12, .int ea_118), (10, .long na_118), (9, .int ka_118), (4, .int x4_118), (2, .long r98_8), (0, .ref h0)] dM_power_187 (by decide) rfl ?_
                  refine z_iload (pc := 189) hZ 6 dM_power_189 rfl ?_
                  refine z_iconst (pc := 191) hZ 1 dM_power_191 (by decide) ?_
                  refine z_ishr (pc := 192) hZ dM_power_192 (fun v192_22 ev192_22 => ?_)
                  refine z_istore (pc := 193) hZ [(4, .int v192_22), (8, .int e168_21), (6, .long n168_21), (5, .int k168_21), (12, .int ea_118), (10, .long na_118), (9, .int ka_118), (2, .long r98_8), (0, .ref h0)] dM_power_193 (by decide) rfl ?_
                  refine z_iload (pc := 195) hZ 0 dM_power_195 rfl ?_
                  refine z_if_le (pc := 197) hZ 226 dM_power_197 (by decide) (fun c197_23 => ?_) (fun c197_23 => ?_)
                  · refine z_goto (pc := 226) hZ 118 dM_power_226 (by decide) ?_
                    exact z_sub (pc := 118) hZ [1, 2, 3, 0, 7, 8] rfl (ih118 e168_21 n168_21 k168_21 v192_22 bits168_21 e168_21 ea_118 x8_118 k168_21 ka_118 x5_118 n168_21 na_118 x6_118 scale168_21 (by exact Nat.lt_of_lt_of_le (po_s c120_11 ev192_22) (Nat.le_of_lt_succ m118)) (by first | exact RK_eq nokey_ nokey_ | exact i118) (by first | exact p168_21 | exact j118))
                  · refine z_aload_n (pc := 200) hZ 8 dM_power_200 rfl rfl ?_
                    refine z_iload (pc := 201) hZ 6 dM_power_201 rfl ?_
                    refine z_put (pc := 203) (ci := 2) hZ 0 rfl rfl uc_M 6 (by decide) (zb fl_M_60) tyM tyM_ok nmM rfl rfl rfl (Nat.le_of_ble_eq_true rfl) dM_power_203 ?_
                    show Z 0 0 (TY cR c1 c2 c3) (203 + 3) [(4, .int v192_22), (8, .int e168_21), (6, .long n168_21), (5, .int k168_21), (12, .int ea_118), (10, .long na_118), (9, .int ka_118), (2, .long r98_8), (0, .ref h0)] [] (MW h0 a1 a2 a3 c1 c2 c3 (ka_118, na_118, ea_118, ka_118, x6_118, x8_118, k168_21, n168_21, e168_21, bits168_21, scale168_21, K, N, E) ++ Y)
                    refine z_aload_n (pc := 206) hZ 8 dM_power_206 rfl rfl ?_
                    refine z_lload (pc := 207) hZ 5 dM_power_207 rfl ?_
                    refine z_put (pc := 209) (ci := 2) hZ 0 rfl rfl uc_M 7 (by decide) (zb fl_M_63) tyM tyM_ok nmM rfl rfl rfl (Nat.le_of_ble_eq_true rfl) dM_power_209 ?_
                    show Z 0 0 (TY cR c1 c2 c3) (209 + 3) [(4, .int v192_22), (8, .int e168_21), (6, .long n168_21), (5, .int k168_21), (12, .int ea_118), (10, .long na_118), (9, .int ka_118), (2, .long r98_8), (0, .ref h0)] [] (MW h0 a1 a2 a3 c1 c2 c3 (ka_118, na_118, ea_118, ka_118, na_118, x8_118, k168_21, n168_21, e168_21, bits168_21, scale168_21, K, N, E) ++ Y)
                    refine z_aload_n (pc := 212) hZ 8 dM_power_212 rfl rfl ?_
                    refine z_iload (pc := 213) hZ 4 dM_power_213 rfl ?_
                    refine z_put (pc := 215) (ci := 2) hZ 0 rfl rfl uc_M 8 (by decide) (zb fl_M_66) tyM tyM_ok nmM rfl rfl rfl (Nat.le_of_ble_eq_true rfl) dM_power_215 ?_
                    show Z 0 0 (TY cR c1 c2 c3) (215 + 3) [(4, .int v192_22), (8, .int e168_21), (6, .long n168_21), (5, .int k168_21), (12, .int ea_118), (10, .long na_118), (9, .int ka_118), (2, .long r98_8), (0, .ref h0)] [] (MW h0 a1 a2 a3 c1 c2 c3 (ka_118, na_118, ea_118, ka_118, na_118, ea_118, k168_21, n168_21, e168_21, bits168_21, scale168_21, K, N, E) ++ Y)
                    refine z_aload_n (pc := 218) hZ 8 dM_power_218 rfl rfl ?_
                    refine z_callV (pc := 219) (As := []) (rest := []) hZ (cM_multiply l D cR c1 c2 c3 h0 a1 a2 a3 Y ka_118 na_118 ea_118 ka_118 na_118 ea_118 k168_21 n168_21 e168_21 bits168_21 scale168_21 K N E (by exact i118) (by exact i118)) zyM_multiply (z_goodV ml_M_154 im_M_multiply se_M_multiply in_M co_M_multiply) 0 rfl rfl rfl rfl (by decide) rfl rfl (Nat.le_of_ble_eq_true rfl) ⟨Nat.zero_le _, Nat.zero_le _⟩ dM_power_219 (z_kv (fun w1 tys1 hp => ?_))
                    obtain ⟨k219_24, n219_24, e219_24, bits219_24, scale219_24, rfl, rfl, p219_24⟩ := hp
                    refine z_aload_n (pc := 222) hZ 8 dM_power_222 rfl rfl ?_
                    refine z_callV (pc := 223) (As := []) (rest := []) hZ (cM_resultToA l D cR c1 c2 c3 h0 a1 a2 a3 Y ka_118 na_118 ea_118 ka_118 na_118 ea_118 k219_24 n219_24 e219_24 bits219_24 scale219_24 K N E ) zyM_resultToA (z_goodV ml_M_72 im_M_resultToA se_M_resultToA in_M co_M_resultToA) 0 rfl rfl rfl rfl (by decide) rfl rfl (Nat.le_of_ble_eq_true rfl) ⟨Nat.zero_le _, Nat.zero_le _⟩ dM_power_223 (z_kv (fun w1 tys1 hp => ?_))
                    obtain ⟨ka223_25, na223_25, ea223_25, rfl, rfl, p223_25⟩ := hp
                    refine z_goto (pc := 226) hZ 118 dM_power_226 (by decide) ?_
                    exact z_sub (pc := 118) hZ [1, 2, 3, 0, 7, 8] rfl (ih118 e168_21 n168_21 k168_21 v192_22 bits219_24 e219_24 ea223_25 ea_118 k219_24 ka223_25 ka_118 n219_24 na223_25 na_118 scale219_24 (by exact Nat.lt_of_lt_of_le (po_s c120_11 ev192_22) (Nat.le_of_lt_succ m118)) (by first | exact RK_eq p223_25 p219_24 | exact i118) (by first | exact p168_21 | exact j118))
          exact z_sub (pc := 118) hZ [0, 1, 2, 3, 4, 6] rfl (L118 _ 0 1 2 v106_10 bits e ea eb k ka kb n na nb scale (Nat.lt_succ_self _) (by exact ra) (by exact RK_1))
set_option maxHeartbeats 4000000 in
set_option maxRecDepth 100000 in
theorem cM_reals (l : Launch) (D : va_G) (cR c1 c2 c3 : ClassId) (h0 a1 a2 a3 : Nat) (Y : va_W) (ka : Int32) (na : Int64) (ea : Int32) (kb : Int32) (nb : Int64) (eb : Int32) (k : Int32) (n : Int64) (e : Int32) (bits : Int64) (scale : Int32) (K : Nat → Int32) (N : Nat → Int64) (E : Nat → Int32) (p1 : Int32) (va : VK ka na ea) (vb : VK kb nb eb) : zM l D vwCl zNF zNM yM_reals wsM_reals { frames := 5, cells := 0, slots := 0, locals := 137 } [.ref h0, .int p1] (MW h0 a1 a2 a3 c1 c2 c3 (ka, na, ea, kb, nb, eb, k, n, e, bits, scale, K, N, E) ++ Y) (TY cR c1 c2 c3) (qI (fun r w' tys' => ∃ ka' : Int32, ∃ na' : Int64, ∃ ea' : Int32, ∃ kb' : Int32, ∃ nb' : Int64, ∃ eb' : Int32, ∃ k' : Int32, ∃ n' : Int64, ∃ e' : Int32, ∃ bits' : Int64, ∃ scale' : Int32, MW h0 a1 a2 a3 c1 c2 c3 (ka', na', ea', kb', nb', eb', k', n', e', bits', scale', K, N, E) ++ Y = w' ∧ (TY cR c1 c2 c3) = tys' ∧ (((r = 0 → VK k' n' e') ∧ (VK k n e → VK k' n' e')) ∧ (kb = 1 → nb = 0 → r = 0)))) := by
  refine z_met (cc := bM_reals) (maxL := 2) (ret := (some .int)) (isI := false) (own := RM) (by decide +kernel) rfl rfl (fun h => by cases h) (Nat.le_of_ble_eq_true rfl) (fun Z hZ => ?_)
  show Z 0 0 (TY cR c1 c2 c3) 0 [(0, .ref h0), (1, .int p1)] [] (MW h0 a1 a2 a3 c1 c2 c3 (ka, na, ea, kb, nb, eb, k, n, e, bits, scale, K, N, E) ++ Y)
  refine z_aload_n (pc := 0) hZ 0 dM_reals_0 rfl rfl ?_
  refine z_callV (pc := 1) (As := []) (rest := []) hZ (cM_realA l D cR c1 c2 c3 h0 a1 a2 a3 Y ka na ea kb nb eb k n e bits scale K N E (by exact va)) zyM_realA (z_goodV ml_M_145 im_M_realA se_M_realA in_M co_M_realA) 0 rfl rfl rfl rfl (by decide) rfl rfl (Nat.le_of_ble_eq_true rfl) ⟨Nat.zero_le _, Nat.zero_le _⟩ dM_reals_1 (z_kv (fun w1 tys1 hp => ?_))
  obtain ⟨ka1_1, na1_1, ea1_1, k1_1, n1_1, e1_1, rfl, rfl, p1_1⟩ := hp
  refine z_aload_n (pc := 4) hZ 0 dM_reals_4 rfl rfl ?_
  refine z_callV (pc := 5) (As := []) (rest := []) hZ (cM_realB l D cR c1 c2 c3 h0 a1 a2 a3 Y ka1_1 na1_1 ea1_1 kb nb eb k1_1 n1_1 e1_1 bits scale K N E (by exact vb)) zyM_realB (z_goodV ml_M_148 im_M_realB se_M_realB in_M co_M_realB) 0 rfl rfl rfl rfl (by decide) rfl rfl (Nat.le_of_ble_eq_true rfl) ⟨Nat.zero_le _, Nat.zero_le _⟩ dM_reals_5 (z_kv (fun w1 tys1 hp => ?_))
  obtain ⟨kb5_2, nb5_2, eb5_2, k5_2, n5_2, e5_2, rfl, rfl, p5_2⟩ := hp
  refine z_iload_n (pc := 8) hZ 1 dM_reals_8 rfl rfl ?_
  by_cases w9_0 : p1 = 0
  · refine z_tabAt (pc := 9) hZ 0 48 w9_0 dM_reals_9 (by decide) (by decide) rfl (by decide) ?_
    refine z_aload_n (pc := 48) hZ 0 dM_reals_48 rfl rfl ?_
    refine z_callV (pc := 49) (As := []) (rest := []) hZ (cM_add l D cR c1 c2 c3 h0 a1 a2 a3 Y ka1_1 na1_1 ea1_1 kb5_2 nb5_2 eb5_2 k5_2 n5_2 e5_2 bits scale K N E (by exact (((p1_1).1)).1) (by exact (((p5_2).1)).1)) zyM_add (z_goodV ml_M_119 im_M_add se_M_add in_M co_M_add) 0 rfl rfl rfl rfl (by decide) rfl rfl (Nat.le_of_ble_eq_true rfl) ⟨Nat.zero_le _, Nat.zero_le _⟩ dM_reals_49 (z_kv (fun w1 tys1 hp => ?_))
    obtain ⟨k49_3, n49_3, e49_3, rfl, rfl, p49_3⟩ := hp
    refine z_iconst (pc := 52) hZ 0 dM_reals_52 (by decide) ?_
    exact z_reti (pc := 53) hZ dM_reals_53 .int rfl rfl ⟨_, rfl, _, _, _, _, _, _, _, _, _, _, _, rfl, rfl, (by exact ⟨by exact ⟨fun _ => VK_of p49_3, fun _ => VK_of p49_3⟩, fun _ _ => rfl⟩)⟩
  by_cases w9_1 : p1 = 1
  · refine z_tabAt (pc := 9) hZ 1 54 w9_1 dM_reals_9 (by decide) (by decide) rfl (by decide) ?_
    refine z_aload_n (pc := 54) hZ 0 dM_reals_54 rfl rfl ?_
    refine z_callV (pc := 55) (As := []) (rest := []) hZ (cM_turnB l D cR c1 c2 c3 h0 a1 a2 a3 Y ka1_1 na1_1 ea1_1 kb5_2 nb5_2 eb5_2 k5_2 n5_2 e5_2 bits scale K N E (by exact (((p5_2).1)).1)) zyM_turnB (z_goodV ml_M_151 im_M_turnB se_M_turnB in_M co_M_turnB) 0 rfl rfl rfl rfl (by decide) rfl rfl (Nat.le_of_ble_eq_true rfl) ⟨Nat.zero_le _, Nat.zero_le _⟩ dM_reals_55 (z_kv (fun w1 tys1 hp => ?_))
    obtain ⟨kb55_4, nb55_4, rfl, rfl, p55_4⟩ := hp
    refine z_aload_n (pc := 58) hZ 0 dM_reals_58 rfl rfl ?_
    refine z_callV (pc := 59) (As := []) (rest := []) hZ (cM_add l D cR c1 c2 c3 h0 a1 a2 a3 Y ka1_1 na1_1 ea1_1 kb55_4 nb55_4 eb5_2 k5_2 n5_2 e5_2 bits scale K N E (by exact (((p1_1).1)).1) (by exact (p55_4).1)) zyM_add (z_goodV ml_M_119 im_M_add se_M_add in_M co_M_add) 0 rfl rfl rfl rfl (by decide) rfl rfl (Nat.le_of_ble_eq_true rfl) ⟨Nat.zero_le _, Nat.zero_le _⟩ dM_reals_59 (z_kv (fun w1 tys1 hp => ?_))
    obtain ⟨k59_5, n59_5, e59_5, rfl, rfl, p59_5⟩ := hp
    refine z_iconst (pc := 62) hZ 0 dM_reals_62 (by decide) ?_
    exact z_reti (pc := 63) hZ dM_reals_63 .int rfl rfl ⟨_, rfl, _, _, _, _, _, _, _, _, _, _, _, rfl, rfl, (by exact ⟨by exact ⟨fun _ => VK_of p59_5, fun _ => VK_of p59_5⟩, fun _ _ => rfl⟩)⟩
  by_cases w9_2 : p1 = 2
  · refine z_tabAt (pc := 9) hZ 2 64 w9_2 dM_reals_9 (by decide) (by decide) rfl (by decide) ?_
    refine z_aload_n (pc := 64) hZ 0 dM_reals_64 rfl rfl ?_
    refine z_callV (pc := 65) (As := []) (rest := []) hZ (cM_multiply l D cR c1 c2 c3 h0 a1 a2 a3 Y ka1_1 na1_1 ea1_1 kb5_2 nb5_2 eb5_2 k5_2 n5_2 e5_2 bits scale K N E (by exact (((p1_1).1)).1) (by exact (((p5_2).1)).1)) zyM_multiply (z_goodV ml_M_154 im_M_multiply se_M_multiply in_M co_M_multiply) 0 rfl rfl rfl rfl (by decide) rfl rfl (Nat.le_of_ble_eq_true rfl) ⟨Nat.zero_le _, Nat.zero_le _⟩ dM_reals_65 (z_kv (fun w1 tys1 hp => ?_))
    obtain ⟨k65_6, n65_6, e65_6, bits65_6, scale65_6, rfl, rfl, p65_6⟩ := hp
    refine z_iconst (pc := 68) hZ 0 dM_reals_68 (by decide) ?_
    exact z_reti (pc := 69) hZ dM_reals_69 .int rfl rfl ⟨_, rfl, _, _, _, _, _, _, _, _, _, _, _, rfl, rfl, (by exact ⟨by exact ⟨fun _ => VK_of p65_6, fun _ => VK_of p65_6⟩, fun _ _ => rfl⟩)⟩
  by_cases w9_3 : p1 = 3
  · refine z_tabAt (pc := 9) hZ 3 70 w9_3 dM_reals_9 (by decide) (by decide) rfl (by decide) ?_
    refine z_aload_n (pc := 70) hZ 0 dM_reals_70 rfl rfl ?_
    refine z_callV (pc := 71) (As := []) (rest := []) hZ (cM_divide l D cR c1 c2 c3 h0 a1 a2 a3 Y ka1_1 na1_1 ea1_1 kb5_2 nb5_2 eb5_2 k5_2 n5_2 e5_2 bits scale K N E (by exact (((p1_1).1)).1) (by exact (((p5_2).1)).1)) zyM_divide (z_goodV ml_M_157 im_M_divide se_M_divide in_M co_M_divide) 0 rfl rfl rfl rfl (by decide) rfl rfl (Nat.le_of_ble_eq_true rfl) ⟨Nat.zero_le _, Nat.zero_le _⟩ dM_reals_71 (z_kv (fun w1 tys1 hp => ?_))
    obtain ⟨k71_7, n71_7, e71_7, bits71_7, scale71_7, rfl, rfl, p71_7⟩ := hp
    refine z_iconst (pc := 74) hZ 0 dM_reals_74 (by decide) ?_
    exact z_reti (pc := 75) hZ dM_reals_75 .int rfl rfl ⟨_, rfl, _, _, _, _, _, _, _, _, _, _, _, rfl, rfl, (by exact ⟨by exact ⟨fun _ => VK_of p71_7, fun _ => VK_of p71_7⟩, fun _ _ => rfl⟩)⟩
  by_cases w9_4 : p1 = 4
  · refine z_tabAt (pc := 9) hZ 4 76 w9_4 dM_reals_9 (by decide) (by decide) rfl (by decide) ?_
    refine z_aload_n (pc := 76) hZ 0 dM_reals_76 rfl rfl ?_
    refine z_callV (pc := 77) (As := []) (rest := []) hZ (cM_divide l D cR c1 c2 c3 h0 a1 a2 a3 Y ka1_1 na1_1 ea1_1 kb5_2 nb5_2 eb5_2 k5_2 n5_2 e5_2 bits scale K N E (by exact (((p1_1).1)).1) (by exact (((p5_2).1)).1)) zyM_divide (z_goodV ml_M_157 im_M_divide se_M_divide in_M co_M_divide) 0 rfl rfl rfl rfl (by decide) rfl rfl (Nat.le_of_ble_eq_true rfl) ⟨Nat.zero_le _, Nat.zero_le _⟩ dM_reals_77 (z_kv (fun w1 tys1 hp => ?_))
    obtain ⟨k77_8, n77_8, e77_8, bits77_8, scale77_8, rfl, rfl, p77_8⟩ := hp
    refine z_aload_n (pc := 80) hZ 0 dM_reals_80 rfl rfl ?_
    refine z_callV (pc := 81) (As := []) (rest := []) hZ (cM_roundDown l D cR c1 c2 c3 h0 a1 a2 a3 Y ka1_1 na1_1 ea1_1 kb5_2 nb5_2 eb5_2 k77_8 n77_8 e77_8 bits77_8 scale77_8 K N E (by exact VK_of p77_8)) zyM_roundDown (z_goodV ml_M_160 im_M_roundDown se_M_roundDown in_M co_M_roundDown) 0 rfl rfl rfl rfl (by decide) rfl rfl (Nat.le_of_ble_eq_true rfl) ⟨Nat.zero_le _, Nat.zero_le _⟩ dM_reals_81 (z_kv (fun w1 tys1 hp => ?_))
    obtain ⟨k81_9, n81_9, e81_9, rfl, rfl, p81_9⟩ := hp
    refine z_iconst (pc := 84) hZ 0 dM_reals_84 (by decide) ?_
    exact z_reti (pc := 85) hZ dM_reals_85 .int rfl rfl ⟨_, rfl, _, _, _, _, _, _, _, _, _, _, _, rfl, rfl, (by exact ⟨by exact ⟨fun _ => p81_9, fun _ => p81_9⟩, fun _ _ => rfl⟩)⟩
  by_cases w9_5 : p1 = 5
  · refine z_tabAt (pc := 9) hZ 5 86 w9_5 dM_reals_9 (by decide) (by decide) rfl (by decide) ?_
    refine z_aload_n (pc := 86) hZ 0 dM_reals_86 rfl rfl ?_
    refine z_callV (pc := 87) (As := []) (rest := []) hZ (cM_remainder l D cR c1 c2 c3 h0 a1 a2 a3 Y ka1_1 na1_1 ea1_1 kb5_2 nb5_2 eb5_2 k5_2 n5_2 e5_2 bits scale K N E (by exact (((p1_1).1)).1) (by exact (((p5_2).1)).1)) zyM_remainder (z_goodV ml_M_163 im_M_remainder se_M_remainder in_M co_M_remainder) 0 rfl rfl rfl rfl (by decide) rfl rfl (Nat.le_of_ble_eq_true rfl) ⟨Nat.zero_le _, Nat.zero_le _⟩ dM_reals_87 (z_kv (fun w1 tys1 hp => ?_))
    obtain ⟨ka87_10, na87_10, ea87_10, k87_10, n87_10, e87_10, bits87_10, scale87_10, rfl, rfl, p87_10⟩ := hp
    refine z_iconst (pc := 90) hZ 0 dM_reals_90 (by decide) ?_
    exact z_reti (pc := 91) hZ dM_reals_91 .int rfl rfl ⟨_, rfl, _, _, _, _, _, _, _, _, _, _, _, rfl, rfl, (by exact ⟨by exact ⟨fun _ => VK_of p87_10, fun _ => VK_of p87_10⟩, fun _ _ => rfl⟩)⟩
  refine z_tabOut (pc := 9) hZ 92 dM_reals_9 (by have n0 := lv_neT w9_0 (a := 0) (by decide); have n1 := lv_neT w9_1 (a := 1) (by decide); have n2 := lv_neT w9_2 (a := 2) (by decide); have n3 := lv_neT w9_3 (a := 3) (by decide); have n4 := lv_neT w9_4 (a := 4) (by decide); have n5 := lv_neT w9_5 (a := 5) (by decide); omega) (by decide) ?_
  refine z_aload_n (pc := 92) hZ 0 dM_reals_92 rfl rfl ?_
  refine z_callV (pc := 93) (As := []) (rest := []) hZ (cM_power l D cR c1 c2 c3 h0 a1 a2 a3 Y ka1_1 na1_1 ea1_1 kb5_2 nb5_2 eb5_2 k5_2 n5_2 e5_2 bits scale K N E (by exact (((p1_1).1)).1) (by exact (((p5_2).1)).1)) zyM_power (z_goodV ml_M_166 im_M_power se_M_power in_M co_M_power) 0 rfl rfl rfl rfl (by decide) rfl rfl (Nat.le_of_ble_eq_true rfl) ⟨Nat.zero_le _, Nat.zero_le _⟩ dM_reals_93 (z_ki (fun r93_11 w1 tys1 hp => ?_))
  obtain ⟨ka93_11, na93_11, ea93_11, kb93_11, nb93_11, eb93_11, k93_11, n93_11, e93_11, bits93_11, scale93_11, rfl, rfl, p93_11⟩ := hp
  exact z_reti (pc := 96) hZ dM_reals_96 .int rfl rfl ⟨_, rfl, _, _, _, _, _, _, _, _, _, _, _, rfl, rfl, (by exact ⟨by exact ⟨(((p93_11).1)).1, fun h => (((p93_11).1)).2 ((((p5_2).1)).2 ((((p1_1).1)).2 h))⟩, fun h1 h2 => (p93_11).2 ((p5_2).2 h1 h2).1 ((p5_2).2 h1 h2).2.1 ((p5_2).2 h1 h2).2.2⟩)⟩
set_option maxHeartbeats 4000000 in
set_option maxRecDepth 100000 in
theorem cM_operation (l : Launch) (D : va_G) (cR c1 c2 c3 : ClassId) (h0 a1 a2 a3 : Nat) (Y : va_W) (ka : Int32) (na : Int64) (ea : Int32) (kb : Int32) (nb : Int64) (eb : Int32) (k : Int32) (n : Int64) (e : Int32) (bits : Int64) (scale : Int32) (K : Nat → Int32) (N : Nat → Int64) (E : Nat → Int32) (p1 : Int32) (va : VK ka na ea) (vb : VK kb nb eb) (h0o : ¬ p1 < 0) : zM l D vwCl zNF zNM yM_operation wsM_operation { frames := 6, cells := 0, slots := 0, locals := 158 } [.ref h0, .int p1] (MW h0 a1 a2 a3 c1 c2 c3 (ka, na, ea, kb, nb, eb, k, n, e, bits, scale, K, N, E) ++ Y) (TY cR c1 c2 c3) (qI (fun r w' tys' => ∃ ka' : Int32, ∃ na' : Int64, ∃ ea' : Int32, ∃ kb' : Int32, ∃ nb' : Int64, ∃ eb' : Int32, ∃ k' : Int32, ∃ n' : Int64, ∃ e' : Int32, ∃ bits' : Int64, ∃ scale' : Int32, MW h0 a1 a2 a3 c1 c2 c3 (ka', na', ea', kb', nb', eb', k', n', e', bits', scale', K, N, E) ++ Y = w' ∧ (TY cR c1 c2 c3) = tys' ∧ (((r = 0 → VK k' n' e') ∧ (VK k n e → VK k' n' e')) ∧ (ka = 1 → kb = 1 → nb = 0 → r = OPZ p1)))) := by
  refine z_met (cc := bM_operation) (maxL := 3) (ret := (some .int)) (isI := false) (own := RM) (by decide +kernel) rfl rfl (fun h => by cases h) (Nat.le_of_ble_eq_true rfl) (fun Z hZ => ?_)
  show Z 0 0 (TY cR c1 c2 c3) 0 [(0, .ref h0), (1, .int p1)] [] (MW h0 a1 a2 a3 c1 c2 c3 (ka, na, ea, kb, nb, eb, k, n, e, bits, scale, K, N, E) ++ Y)
  refine z_iload_n (pc := 0) hZ 1 dM_operation_0 rfl rfl ?_
  refine z_bipush (pc := 1) hZ 7 dM_operation_1 (by decide) ?_
  refine z_icmp_lt (pc := 3) hZ 12 dM_operation_3 (by decide) (fun c3_1 => ?_) (fun c3_1 => ?_)
  · refine z_iload_n (pc := 12) hZ 1 dM_operation_12 rfl rfl ?_
    refine z_bipush (pc := 13) hZ 13 dM_operation_13 (by decide) ?_
    refine z_icmp_eq (pc := 15) hZ 24 dM_operation_15 (by decide) (fun c15_2 => ?_) (fun c15_2 => ?_)
    · refine z_aload_n (pc := 24) hZ 0 dM_operation_24 rfl rfl ?_
      refine z_iload_n (pc := 25) hZ 1 dM_operation_25 rfl rfl ?_
      refine z_callV (pc := 26) (As := [.int p1]) (rest := []) hZ (cM_bitwise l D cR c1 c2 c3 h0 a1 a2 a3 Y ka na ea kb nb eb k n e bits scale K N E p1) zyM_bitwise (z_goodV ml_M_183 im_M_bitwise se_M_bitwise in_M co_M_bitwise) 0 rfl rfl rfl rfl (by decide) rfl rfl (Nat.le_of_ble_eq_true rfl) ⟨Nat.zero_le _, Nat.zero_le _⟩ dM_operation_26 (z_ki (fun r26_3 w1 tys1 hp => ?_))
      obtain ⟨k26_3, n26_3, e26_3, rfl, rfl, p26_3⟩ := hp
      exact z_reti (pc := 29) hZ dM_operation_29 .int rfl rfl ⟨_, rfl, _, _, _, _, _, _, _, _, _, _, _, rfl, rfl, (by first | exact ⟨(p26_3).1, fun h1 h2 _ => ((p26_3).2 h1 h2).trans (opz_n (by decide) c3_1).symm⟩ | exact ⟨(p26_3).1, fun h1 h2 _ => ((p26_3).2 h1 h2).trans (by rw [c15_2]; decide)⟩ | exact ⟨(p26_3).1, fun h1 h2 _ => ((p26_3).2 h1 h2).trans (by rw [nokey_]; decide)⟩)⟩
    · refine z_iload_n (pc := 18) hZ 1 dM_operation_18 rfl rfl ?_
      refine z_bipush (pc := 19) hZ 16 dM_operation_19 (by decide) ?_
      refine z_icmp_ne (pc := 21) hZ 30 dM_operation_21 (by decide) (fun c21_4 => ?_) (fun c21_4 => ?_)
      · refine z_iload_n (pc := 30) hZ 1 dM_operation_30 rfl rfl ?_
        refine z_bipush (pc := 31) hZ 12 dM_operation_31 (by decide) ?_
        refine z_icmp_lt (pc := 33) hZ 42 dM_operation_33 (by decide) (fun c33_5 => ?_) (fun c33_5 => ?_)
        · refine z_aload_n (pc := 42) hZ 0 dM_operation_42 rfl rfl ?_
          refine z_get (pc := 43) (ci := 2) hZ 0 rfl rfl uc_M 3 (by decide) (zb fl_M_51) rfl dM_operation_43 ?_
          refine z_iconst (pc := 46) hZ 1 dM_operation_46 (by decide) ?_
          refine z_icmp_ne (pc := 47) hZ 62 dM_operation_47 (by decide) (fun c47_6 => ?_) (fun c47_6 => ?_)
          · refine z_iconst (pc := 62) hZ 0 dM_operation_62 (by decide) ?_
            refine z_istore_n (pc := 63) hZ [(2, .int 0), (0, .ref h0), (1, .int p1)] dM_operation_63 rfl (by decide) rfl ?_
            refine z_iload_n (pc := 64) hZ 0 dM_operation_64 rfl rfl ?_
            refine z_if_eq (pc := 65) hZ 87 dM_operation_65 (by decide) (fun c65 => ?_) (fun c9 => False.elim (absurd c9 (by decide)))
            refine z_aload_n (pc := 87) hZ 1 dM_operation_87 rfl rfl ?_
            refine z_iload_n (pc := 88) hZ 2 dM_operation_88 rfl rfl ?_
            refine z_callV (pc := 89) (As := [.int p1]) (rest := []) hZ (cM_reals l D cR c1 c2 c3 h0 a1 a2 a3 Y ka na ea kb nb eb k n e bits scale K N E p1 (by exact va) (by exact vb)) zyM_reals (z_goodV ml_M_193 im_M_reals se_M_reals in_M co_M_reals) 0 rfl rfl rfl rfl (by decide) rfl rfl (Nat.le_of_ble_eq_true rfl) ⟨Nat.zero_le _, Nat.zero_le _⟩ dM_operation_89 (z_ki (fun r89_7 w1 tys1 hp => ?_))
            obtain ⟨ka89_7, na89_7, ea89_7, kb89_7, nb89_7, eb89_7, k89_7, n89_7, e89_7, bits89_7, scale89_7, rfl, rfl, p89_7⟩ := hp
            exact z_reti (pc := 92) hZ dM_operation_92 .int rfl rfl ⟨_, rfl, _, _, _, _, _, _, _, _, _, _, _, rfl, rfl, (by first | exact ⟨(nokey_).1, fun _ _ h => op_w c3_1 nokey_ nokey_ (nokey_).2 h⟩ | exact ⟨(nokey_).1, fun _ _ h => op_w (i_7 nokey_ c33_5) nokey_ nokey_ (nokey_).2 h⟩ | exact ⟨(p89_7).1, fun h1 _ _ => absurd h1 c47_6⟩ | exact ⟨(p89_7).1, fun _ h2 _ => absurd h2 nokey_⟩ | exact ⟨(p89_7).1, fun _ h2 h3 => ((p89_7).2 h2 h3).trans (by rw [nokey_]; decide)⟩ | exact ⟨(p89_7).1, fun _ h2 h3 => ((p89_7).2 h2 h3).trans (by rw [nokey_]; decide)⟩)⟩
          · refine z_aload_n (pc := 50) hZ 0 dM_operation_50 rfl rfl ?_
            refine z_get (pc := 51) (ci := 2) hZ 0 rfl rfl uc_M 6 (by decide) (zb fl_M_60) rfl dM_operation_51 ?_
            refine z_iconst (pc := 54) hZ 1 dM_operation_54 (by decide) ?_
            refine z_icmp_ne (pc := 55) hZ 62 dM_operation_55 (by decide) (fun c55_8 => ?_) (fun c55_8 => ?_)
            · refine z_iconst (pc := 62) hZ 0 dM_operation_62 (by decide) ?_
              refine z_istore_n (pc := 63) hZ [(2, .int 0), (0, .ref h0), (1, .int p1)] dM_operation_63 rfl (by decide) rfl ?_
              refine z_iload_n (pc := 64) hZ 0 dM_operation_64 rfl rfl ?_
              refine z_if_eq (pc := 65) hZ 87 dM_operation_65 (by decide) (fun c65 => ?_) (fun c9 => False.elim (absurd c9 (by decide)))
              refine z_aload_n (pc := 87) hZ 1 dM_operation_87 rfl rfl ?_
              refine z_iload_n (pc := 88) hZ 2 dM_operation_88 rfl rfl ?_
              refine z_callV (pc := 89) (As := [.int p1]) (rest := []) hZ (cM_reals l D cR c1 c2 c3 h0 a1 a2 a3 Y ka na ea kb nb eb k n e bits scale K N E p1 (by exact va) (by exact vb)) zyM_reals (z_goodV ml_M_193 im_M_reals se_M_reals in_M co_M_reals) 0 rfl rfl rfl rfl (by decide) rfl rfl (Nat.le_of_ble_eq_true rfl) ⟨Nat.zero_le _, Nat.zero_le _⟩ dM_operation_89 (z_ki (fun r89_9 w1 tys1 hp => ?_))
              obtain ⟨ka89_9, na89_9, ea89_9, kb89_9, nb89_9, eb89_9, k89_9, n89_9, e89_9, bits89_9, scale89_9, rfl, rfl, p89_9⟩ := hp
              exact z_reti (pc := 92) hZ dM_operation_92 .int rfl rfl ⟨_, rfl, _, _, _, _, _, _, _, _, _, _, _, rfl, rfl, (by first | exact ⟨(nokey_).1, fun _ _ h => op_w c3_1 nokey_ nokey_ (nokey_).2 h⟩ | exact ⟨(nokey_).1, fun _ _ h => op_w (i_7 nokey_ c33_5) nokey_ nokey_ (nokey_).2 h⟩ | exact ⟨(p89_9).1, fun h1 _ _ => absurd h1 c47_6⟩ | exact ⟨(p89_9).1, fun _ h2 _ => absurd h2 c55_8⟩ | exact ⟨(p89_9).1, fun _ h2 h3 => ((p89_9).2 h2 h3).trans (by rw [nokey_]; decide)⟩ | exact ⟨(p89_9).1, fun _ h2 h3 => ((p89_9).2 h2 h3).trans (by rw [nokey_]; decide)⟩)⟩
            · refine z_iconst (pc := 58) hZ 1 dM_operation_58 (by decide) ?_
              refine z_goto (pc := 59) hZ 63 dM_operation_59 (by decide) ?_
              refine z_istore_n (pc := 63) hZ [(2, .int 1), (0, .ref h0), (1, .int p1)] dM_operation_63 rfl (by decide) rfl ?_
              refine z_iload_n (pc := 64) hZ 0 dM_operation_64 rfl rfl ?_
              refine z_if_eq (pc := 65) hZ 87 dM_operation_65 (by decide) (fun c9 => False.elim (absurd c9 (by decide))) (fun c65 => ?_)
              refine z_iload_n (pc := 68) hZ 2 dM_operation_68 rfl rfl ?_
              refine z_iconst (pc := 69) hZ 3 dM_operation_69 (by decide) ?_
              refine z_icmp_eq (pc := 70) hZ 87 dM_operation_70 (by decide) (fun c70_10 => ?_) (fun c70_10 => ?_)
              · refine z_aload_n (pc := 87) hZ 1 dM_operation_87 rfl rfl ?_
                refine z_iload_n (pc := 88) hZ 2 dM_operation_88 rfl rfl ?_
                refine z_callV (pc := 89) (As := [.int p1]) (rest := []) hZ (cM_reals l D cR c1 c2 c3 h0 a1 a2 a3 Y ka na ea kb nb eb k n e bits scale K N E p1 (by exact va) (by exact vb)) zyM_reals (z_goodV ml_M_193 im_M_reals se_M_reals in_M co_M_reals) 0 rfl rfl rfl rfl (by decide) rfl rfl (Nat.le_of_ble_eq_true rfl) ⟨Nat.zero_le _, Nat.zero_le _⟩ dM_operation_89 (z_ki (fun r89_11 w1 tys1 hp => ?_))
                obtain ⟨ka89_11, na89_11, ea89_11, kb89_11, nb89_11, eb89_11, k89_11, n89_11, e89_11, bits89_11, scale89_11, rfl, rfl, p89_11⟩ := hp
                exact z_reti (pc := 92) hZ dM_operation_92 .int rfl rfl ⟨_, rfl, _, _, _, _, _, _, _, _, _, _, _, rfl, rfl, (by first | exact ⟨(nokey_).1, fun _ _ h => op_w c3_1 c70_10 nokey_ (nokey_).2 h⟩ | exact ⟨(nokey_).1, fun _ _ h => op_w (i_7 nokey_ c33_5) c70_10 nokey_ (nokey_).2 h⟩ | exact ⟨(p89_11).1, fun h1 _ _ => absurd h1 c47_6⟩ | exact ⟨(p89_11).1, fun _ h2 _ => absurd h2 c55_8⟩ | exact ⟨(p89_11).1, fun _ h2 h3 => ((p89_11).2 h2 h3).trans (by rw [c70_10]; decide)⟩ | exact ⟨(p89_11).1, fun _ h2 h3 => ((p89_11).2 h2 h3).trans (by rw [nokey_]; decide)⟩)⟩
              · refine z_iload_n (pc := 73) hZ 2 dM_operation_73 rfl rfl ?_
                refine z_bipush (pc := 74) hZ 6 dM_operation_74 (by decide) ?_
                refine z_icmp_eq (pc := 76) hZ 87 dM_operation_76 (by decide) (fun c76_12 => ?_) (fun c76_12 => ?_)
                · refine z_aload_n (pc := 87) hZ 1 dM_operation_87 rfl rfl ?_
                  refine z_iload_n (pc := 88) hZ 2 dM_operation_88 rfl rfl ?_
                  refine z_callV (pc := 89) (As := [.int p1]) (rest := []) hZ (cM_reals l D cR c1 c2 c3 h0 a1 a2 a3 Y ka na ea kb nb eb k n e bits scale K N E p1 (by exact va) (by exact vb)) zyM_reals (z_goodV ml_M_193 im_M_reals se_M_reals in_M co_M_reals) 0 rfl rfl rfl rfl (by decide) rfl rfl (Nat.le_of_ble_eq_true rfl) ⟨Nat.zero_le _, Nat.zero_le _⟩ dM_operation_89 (z_ki (fun r89_13 w1 tys1 hp => ?_))
                  obtain ⟨ka89_13, na89_13, ea89_13, kb89_13, nb89_13, eb89_13, k89_13, n89_13, e89_13, bits89_13, scale89_13, rfl, rfl, p89_13⟩ := hp
                  exact z_reti (pc := 92) hZ dM_operation_92 .int rfl rfl ⟨_, rfl, _, _, _, _, _, _, _, _, _, _, _, rfl, rfl, (by first | exact ⟨(nokey_).1, fun _ _ h => op_w c3_1 c70_10 c76_12 (nokey_).2 h⟩ | exact ⟨(nokey_).1, fun _ _ h => op_w (i_7 nokey_ c33_5) c70_10 c76_12 (nokey_).2 h⟩ | exact ⟨(p89_13).1, fun h1 _ _ => absurd h1 c47_6⟩ | exact ⟨(p89_13).1, fun _ h2 _ => absurd h2 c55_8⟩ | exact ⟨(p89_13).1, fun _ h2 h3 => ((p89_13).2 h2 h3).trans (by rw [c70_10]; decide)⟩ | exact ⟨(p89_13).1, fun _ h2 h3 => ((p89_13).2 h2 h3).trans (by rw [c76_12]; decide)⟩)⟩
                · refine z_aload_n (pc := 79) hZ 1 dM_operation_79 rfl rfl ?_
                  refine z_iload_n (pc := 80) hZ 2 dM_operation_80 rfl rfl ?_
                  refine z_callV (pc := 81) (As := [.int p1]) (rest := []) hZ (cM_wholes l D cR c1 c2 c3 h0 a1 a2 a3 Y ka na ea kb nb eb k n e bits scale K N E p1 (by exact h0o) (by exact c70_10)) zyM_wholes (z_goodV ml_M_190 im_M_wholes se_M_wholes in_M co_M_wholes) 0 rfl rfl rfl rfl (by decide) rfl rfl (Nat.le_of_ble_eq_true rfl) ⟨Nat.zero_le _, Nat.zero_le _⟩ dM_operation_81 (z_ki (fun r81_14 w1 tys1 hp => ?_))
                  obtain ⟨k81_14, n81_14, e81_14, rfl, rfl, p81_14⟩ := hp
                  refine z_goto (pc := 84) hZ 92 dM_operation_84 (by decide) ?_
                  exact z_reti (pc := 92) hZ dM_operation_92 .int rfl rfl ⟨_, rfl, _, _, _, _, _, _, _, _, _, _, _, rfl, rfl, (by first | exact ⟨(p81_14).1, fun _ _ h => op_w c3_1 c70_10 c76_12 (p81_14).2 h⟩ | exact ⟨(p81_14).1, fun _ _ h => op_w (i_7 nokey_ c33_5) c70_10 c76_12 (p81_14).2 h⟩ | exact ⟨(nokey_).1, fun h1 _ _ => absurd h1 c47_6⟩ | exact ⟨(nokey_).1, fun _ h2 _ => absurd h2 c55_8⟩ | exact ⟨(nokey_).1, fun _ h2 h3 => ((nokey_).2 h2 h3).trans (by rw [c70_10]; decide)⟩ | exact ⟨(nokey_).1, fun _ h2 h3 => ((nokey_).2 h2 h3).trans (by rw [c76_12]; decide)⟩)⟩
        · refine z_aload_n (pc := 36) hZ 0 dM_operation_36 rfl rfl ?_
          refine z_iload_n (pc := 37) hZ 1 dM_operation_37 rfl rfl ?_
          refine z_callV (pc := 38) (As := [.int p1]) (rest := []) hZ (cM_single l D cR c1 c2 c3 h0 a1 a2 a3 Y ka na ea kb nb eb k n e bits scale K N E p1 (by exact va)) zyM_single (z_goodV ml_M_187 im_M_single se_M_single in_M co_M_single) 0 rfl rfl rfl rfl (by decide) rfl rfl (Nat.le_of_ble_eq_true rfl) ⟨Nat.zero_le _, Nat.zero_le _⟩ dM_operation_38 (z_ki (fun r38_15 w1 tys1 hp => ?_))
          obtain ⟨ka38_15, na38_15, ea38_15, k38_15, n38_15, e38_15, rfl, rfl, p38_15⟩ := hp
          exact z_reti (pc := 41) hZ dM_operation_41 .int rfl rfl ⟨_, rfl, _, _, _, _, _, _, _, _, _, _, _, rfl, rfl, (by exact ⟨⟨fun _ => (p38_15).1, fun _ => (p38_15).1⟩, fun _ _ _ => (p38_15).2.trans (opz_n (by decide) c33_5).symm⟩)⟩
      · refine z_aload_n (pc := 24) hZ 0 dM_operation_24 rfl rfl ?_
        refine z_iload_n (pc := 25) hZ 1 dM_operation_25 rfl rfl ?_
        refine z_callV (pc := 26) (As := [.int p1]) (rest := []) hZ (cM_bitwise l D cR c1 c2 c3 h0 a1 a2 a3 Y ka na ea kb nb eb k n e bits scale K N E p1) zyM_bitwise (z_goodV ml_M_183 im_M_bitwise se_M_bitwise in_M co_M_bitwise) 0 rfl rfl rfl rfl (by decide) rfl rfl (Nat.le_of_ble_eq_true rfl) ⟨Nat.zero_le _, Nat.zero_le _⟩ dM_operation_26 (z_ki (fun r26_16 w1 tys1 hp => ?_))
        obtain ⟨k26_16, n26_16, e26_16, rfl, rfl, p26_16⟩ := hp
        exact z_reti (pc := 29) hZ dM_operation_29 .int rfl rfl ⟨_, rfl, _, _, _, _, _, _, _, _, _, _, _, rfl, rfl, (by first | exact ⟨(p26_16).1, fun h1 h2 _ => ((p26_16).2 h1 h2).trans (opz_n (by decide) c3_1).symm⟩ | exact ⟨(p26_16).1, fun h1 h2 _ => ((p26_16).2 h1 h2).trans (by rw [c15_2]; decide)⟩ | exact ⟨(p26_16).1, fun h1 h2 _ => ((p26_16).2 h1 h2).trans (by rw [c21_4]; decide)⟩)⟩
  · refine z_iload_n (pc := 6) hZ 1 dM_operation_6 rfl rfl ?_
    refine z_bipush (pc := 7) hZ 11 dM_operation_7 (by decide) ?_
    refine z_icmp_le (pc := 9) hZ 24 dM_operation_9 (by decide) (fun c9_17 => ?_) (fun c9_17 => ?_)
    · refine z_aload_n (pc := 24) hZ 0 dM_operation_24 rfl rfl ?_
      refine z_iload_n (pc := 25) hZ 1 dM_operation_25 rfl rfl ?_
      refine z_callV (pc := 26) (As := [.int p1]) (rest := []) hZ (cM_bitwise l D cR c1 c2 c3 h0 a1 a2 a3 Y ka na ea kb nb eb k n e bits scale K N E p1) zyM_bitwise (z_goodV ml_M_183 im_M_bitwise se_M_bitwise in_M co_M_bitwise) 0 rfl rfl rfl rfl (by decide) rfl rfl (Nat.le_of_ble_eq_true rfl) ⟨Nat.zero_le _, Nat.zero_le _⟩ dM_operation_26 (z_ki (fun r26_18 w1 tys1 hp => ?_))
      obtain ⟨k26_18, n26_18, e26_18, rfl, rfl, p26_18⟩ := hp
      exact z_reti (pc := 29) hZ dM_operation_29 .int rfl rfl ⟨_, rfl, _, _, _, _, _, _, _, _, _, _, _, rfl, rfl, (by first | exact ⟨(p26_18).1, fun h1 h2 _ => ((p26_18).2 h1 h2).trans (opz_n (by decide) c3_1).symm⟩ | exact ⟨(p26_18).1, fun h1 h2 _ => ((p26_18).2 h1 h2).trans (by rw [nokey_]; decide)⟩ | exact ⟨(p26_18).1, fun h1 h2 _ => ((p26_18).2 h1 h2).trans (by rw [nokey_]; decide)⟩)⟩
    · refine z_iload_n (pc := 12) hZ 1 dM_operation_12 rfl rfl ?_
      refine z_bipush (pc := 13) hZ 13 dM_operation_13 (by decide) ?_
      refine z_icmp_eq (pc := 15) hZ 24 dM_operation_15 (by decide) (fun c15_19 => ?_) (fun c15_19 => ?_)
      · refine z_aload_n (pc := 24) hZ 0 dM_operation_24 rfl rfl ?_
        refine z_iload_n (pc := 25) hZ 1 dM_operation_25 rfl rfl ?_
        refine z_callV (pc := 26) (As := [.int p1]) (rest := []) hZ (cM_bitwise l D cR c1 c2 c3 h0 a1 a2 a3 Y ka na ea kb nb eb k n e bits scale K N E p1) zyM_bitwise (z_goodV ml_M_183 im_M_bitwise se_M_bitwise in_M co_M_bitwise) 0 rfl rfl rfl rfl (by decide) rfl rfl (Nat.le_of_ble_eq_true rfl) ⟨Nat.zero_le _, Nat.zero_le _⟩ dM_operation_26 (z_ki (fun r26_20 w1 tys1 hp => ?_))
        obtain ⟨k26_20, n26_20, e26_20, rfl, rfl, p26_20⟩ := hp
        exact z_reti (pc := 29) hZ dM_operation_29 .int rfl rfl ⟨_, rfl, _, _, _, _, _, _, _, _, _, _, _, rfl, rfl, (by first | exact ⟨(p26_20).1, fun h1 h2 _ => ((p26_20).2 h1 h2).trans (opz_n (by decide) c3_1).symm⟩ | exact ⟨(p26_20).1, fun h1 h2 _ => ((p26_20).2 h1 h2).trans (by rw [c15_19]; decide)⟩ | exact ⟨(p26_20).1, fun h1 h2 _ => ((p26_20).2 h1 h2).trans (by rw [nokey_]; decide)⟩)⟩
      · refine z_iload_n (pc := 18) hZ 1 dM_operation_18 rfl rfl ?_
        refine z_bipush (pc := 19) hZ 16 dM_operation_19 (by decide) ?_
        refine z_icmp_ne (pc := 21) hZ 30 dM_operation_21 (by decide) (fun c21_21 => ?_) (fun c21_21 => ?_)
        · refine z_iload_n (pc := 30) hZ 1 dM_operation_30 rfl rfl ?_
          refine z_bipush (pc := 31) hZ 12 dM_operation_31 (by decide) ?_
          refine z_icmp_lt (pc := 33) hZ 42 dM_operation_33 (by decide) (fun c33_22 => ?_) (fun c33_22 => ?_)
          · refine z_aload_n (pc := 42) hZ 0 dM_operation_42 rfl rfl ?_
            refine z_get (pc := 43) (ci := 2) hZ 0 rfl rfl uc_M 3 (by decide) (zb fl_M_51) rfl dM_operation_43 ?_
            refine z_iconst (pc := 46) hZ 1 dM_operation_46 (by decide) ?_
            refine z_icmp_ne (pc := 47) hZ 62 dM_operation_47 (by decide) (fun c47_23 => ?_) (fun c47_23 => ?_)
            · refine z_iconst (pc := 62) hZ 0 dM_operation_62 (by decide) ?_
              refine z_istore_n (pc := 63) hZ [(2, .int 0), (0, .ref h0), (1, .int p1)] dM_operation_63 rfl (by decide) rfl ?_
              refine z_iload_n (pc := 64) hZ 0 dM_operation_64 rfl rfl ?_
              refine z_if_eq (pc := 65) hZ 87 dM_operation_65 (by decide) (fun c65 => ?_) (fun c9 => False.elim (absurd c9 (by decide)))
              refine z_aload_n (pc := 87) hZ 1 dM_operation_87 rfl rfl ?_
              refine z_iload_n (pc := 88) hZ 2 dM_operation_88 rfl rfl ?_
              refine z_callV (pc := 89) (As := [.int p1]) (rest := []) hZ (cM_reals l D cR c1 c2 c3 h0 a1 a2 a3 Y ka na ea kb nb eb k n e bits scale K N E p1 (by exact va) (by exact vb)) zyM_reals (z_goodV ml_M_193 im_M_reals se_M_reals in_M co_M_reals) 0 rfl rfl rfl rfl (by decide) rfl rfl (Nat.le_of_ble_eq_true rfl) ⟨Nat.zero_le _, Nat.zero_le _⟩ dM_operation_89 (z_ki (fun r89_24 w1 tys1 hp => ?_))
              obtain ⟨ka89_24, na89_24, ea89_24, kb89_24, nb89_24, eb89_24, k89_24, n89_24, e89_24, bits89_24, scale89_24, rfl, rfl, p89_24⟩ := hp
              exact z_reti (pc := 92) hZ dM_operation_92 .int rfl rfl ⟨_, rfl, _, _, _, _, _, _, _, _, _, _, _, rfl, rfl, (by first | exact ⟨(nokey_).1, fun _ _ h => op_w c3_1 nokey_ nokey_ (nokey_).2 h⟩ | exact ⟨(nokey_).1, fun _ _ h => op_w (i_7 c9_17 c33_22) nokey_ nokey_ (nokey_).2 h⟩ | exact ⟨(p89_24).1, fun h1 _ _ => absurd h1 c47_23⟩ | exact ⟨(p89_24).1, fun _ h2 _ => absurd h2 nokey_⟩ | exact ⟨(p89_24).1, fun _ h2 h3 => ((p89_24).2 h2 h3).trans (by rw [nokey_]; decide)⟩ | exact ⟨(p89_24).1, fun _ h2 h3 => ((p89_24).2 h2 h3).trans (by rw [nokey_]; decide)⟩)⟩
            · refine z_aload_n (pc := 50) hZ 0 dM_operation_50 rfl rfl ?_
              refine z_get (pc := 51) (ci := 2) hZ 0 rfl rfl uc_M 6 (by decide) (zb fl_M_60) rfl dM_operation_51 ?_
              refine z_iconst (pc := 54) hZ 1 dM_operation_54 (by decide) ?_
              refine z_icmp_ne (pc := 55) hZ 62 dM_operation_55 (by decide) (fun c55_25 => ?_) (fun c55_25 => ?_)
              · refine z_iconst (pc := 62) hZ 0 dM_operation_62 (by decide) ?_
                refine z_istore_n (pc := 63) hZ [(2, .int 0), (0, .ref h0), (1, .int p1)] dM_operation_63 rfl (by decide) rfl ?_
                refine z_iload_n (pc := 64) hZ 0 dM_operation_64 rfl rfl ?_
                refine z_if_eq (pc := 65) hZ 87 dM_operation_65 (by decide) (fun c65 => ?_) (fun c9 => False.elim (absurd c9 (by decide)))
                refine z_aload_n (pc := 87) hZ 1 dM_operation_87 rfl rfl ?_
                refine z_iload_n (pc := 88) hZ 2 dM_operation_88 rfl rfl ?_
                refine z_callV (pc := 89) (As := [.int p1]) (rest := []) hZ (cM_reals l D cR c1 c2 c3 h0 a1 a2 a3 Y ka na ea kb nb eb k n e bits scale K N E p1 (by exact va) (by exact vb)) zyM_reals (z_goodV ml_M_193 im_M_reals se_M_reals in_M co_M_reals) 0 rfl rfl rfl rfl (by decide) rfl rfl (Nat.le_of_ble_eq_true rfl) ⟨Nat.zero_le _, Nat.zero_le _⟩ dM_operation_89 (z_ki (fun r89_26 w1 tys1 hp => ?_))
                obtain ⟨ka89_26, na89_26, ea89_26, kb89_26, nb89_26, eb89_26, k89_26, n89_26, e89_26, bits89_26, scale89_26, rfl, rfl, p89_26⟩ := hp
                exact z_reti (pc := 92) hZ dM_operation_92 .int rfl rfl ⟨_, rfl, _, _, _, _, _, _, _, _, _, _, _, rfl, rfl, (by first | exact ⟨(nokey_).1, fun _ _ h => op_w c3_1 nokey_ nokey_ (nokey_).2 h⟩ | exact ⟨(nokey_).1, fun _ _ h => op_w (i_7 c9_17 c33_22) nokey_ nokey_ (nokey_).2 h⟩ | exact ⟨(p89_26).1, fun h1 _ _ => absurd h1 c47_23⟩ | exact ⟨(p89_26).1, fun _ h2 _ => absurd h2 c55_25⟩ | exact ⟨(p89_26).1, fun _ h2 h3 => ((p89_26).2 h2 h3).trans (by rw [nokey_]; decide)⟩ | exact ⟨(p89_26).1, fun _ h2 h3 => ((p89_26).2 h2 h3).trans (by rw [nokey_]; decide)⟩)⟩
              · refine z_iconst (pc := 58) hZ 1 dM_operation_58 (by decide) ?_
                refine z_goto (pc := 59) hZ 63 dM_operation_59 (by decide) ?_
                refine z_istore_n (pc := 63) hZ [(2, .int 1), (0, .ref h0), (1, .int p1)] dM_operation_63 rfl (by decide) rfl ?_
                refine z_iload_n (pc := 64) hZ 0 dM_operation_64 rfl rfl ?_
                refine z_if_eq (pc := 65) hZ 87 dM_operation_65 (by decide) (fun c9 => False.elim (absurd c9 (by decide))) (fun c65 => ?_)
                refine z_iload_n (pc := 68) hZ 2 dM_operation_68 rfl rfl ?_
                refine z_iconst (pc := 69) hZ 3 dM_operation_69 (by decide) ?_
                refine z_icmp_eq (pc := 70) hZ 87 dM_operation_70 (by decide) (fun c70_27 => ?_) (fun c70_27 => ?_)
                · refine z_aload_n (pc := 87) hZ 1 dM_operation_87 rfl rfl ?_
                  refine z_iload_n (pc := 88) hZ 2 dM_operation_88 rfl rfl ?_
                  refine z_callV (pc := 89) (As := [.int p1]) (rest := []) hZ (cM_reals l D cR c1 c2 c3 h0 a1 a2 a3 Y ka na ea kb nb eb k n e bits scale K N E p1 (by exact va) (by exact vb)) zyM_reals (z_goodV ml_M_193 im_M_reals se_M_reals in_M co_M_reals) 0 rfl rfl rfl rfl (by decide) rfl rfl (Nat.le_of_ble_eq_true rfl) ⟨Nat.zero_le _, Nat.zero_le _⟩ dM_operation_89 (z_ki (fun r89_28 w1 tys1 hp => ?_))
                  obtain ⟨ka89_28, na89_28, ea89_28, kb89_28, nb89_28, eb89_28, k89_28, n89_28, e89_28, bits89_28, scale89_28, rfl, rfl, p89_28⟩ := hp
                  exact z_reti (pc := 92) hZ dM_operation_92 .int rfl rfl ⟨_, rfl, _, _, _, _, _, _, _, _, _, _, _, rfl, rfl, (by first | exact ⟨(nokey_).1, fun _ _ h => op_w c3_1 c70_27 nokey_ (nokey_).2 h⟩ | exact ⟨(nokey_).1, fun _ _ h => op_w (i_7 c9_17 c33_22) c70_27 nokey_ (nokey_).2 h⟩ | exact ⟨(p89_28).1, fun h1 _ _ => absurd h1 c47_23⟩ | exact ⟨(p89_28).1, fun _ h2 _ => absurd h2 c55_25⟩ | exact ⟨(p89_28).1, fun _ h2 h3 => ((p89_28).2 h2 h3).trans (by rw [c70_27]; decide)⟩ | exact ⟨(p89_28).1, fun _ h2 h3 => ((p89_28).2 h2 h3).trans (by rw [nokey_]; decide)⟩)⟩
                · refine z_iload_n (pc := 73) hZ 2 dM_operation_73 rfl rfl ?_
                  refine z_bipush (pc := 74) hZ 6 dM_operation_74 (by decide) ?_
                  refine z_icmp_eq (pc := 76) hZ 87 dM_operation_76 (by decide) (fun c76_29 => ?_) (fun c76_29 => ?_)
                  · refine z_aload_n (pc := 87) hZ 1 dM_operation_87 rfl rfl ?_
                    refine z_iload_n (pc := 88) hZ 2 dM_operation_88 rfl rfl ?_
                    refine z_callV (pc := 89) (As := [.int p1]) (rest := []) hZ (cM_reals l D cR c1 c2 c3 h0 a1 a2 a3 Y ka na ea kb nb eb k n e bits scale K N E p1 (by exact va) (by exact vb)) zyM_reals (z_goodV ml_M_193 im_M_reals se_M_reals in_M co_M_reals) 0 rfl rfl rfl rfl (by decide) rfl rfl (Nat.le_of_ble_eq_true rfl) ⟨Nat.zero_le _, Nat.zero_le _⟩ dM_operation_89 (z_ki (fun r89_30 w1 tys1 hp => ?_))
                    obtain ⟨ka89_30, na89_30, ea89_30, kb89_30, nb89_30, eb89_30, k89_30, n89_30, e89_30, bits89_30, scale89_30, rfl, rfl, p89_30⟩ := hp
                    exact z_reti (pc := 92) hZ dM_operation_92 .int rfl rfl ⟨_, rfl, _, _, _, _, _, _, _, _, _, _, _, rfl, rfl, (by first | exact ⟨(nokey_).1, fun _ _ h => op_w c3_1 c70_27 c76_29 (nokey_).2 h⟩ | exact ⟨(nokey_).1, fun _ _ h => op_w (i_7 c9_17 c33_22) c70_27 c76_29 (nokey_).2 h⟩ | exact ⟨(p89_30).1, fun h1 _ _ => absurd h1 c47_23⟩ | exact ⟨(p89_30).1, fun _ h2 _ => absurd h2 c55_25⟩ | exact ⟨(p89_30).1, fun _ h2 h3 => ((p89_30).2 h2 h3).trans (by rw [c70_27]; decide)⟩ | exact ⟨(p89_30).1, fun _ h2 h3 => ((p89_30).2 h2 h3).trans (by rw [c76_29]; decide)⟩)⟩
                  · refine z_aload_n (pc := 79) hZ 1 dM_operation_79 rfl rfl ?_
                    refine z_iload_n (pc := 80) hZ 2 dM_operation_80 rfl rfl ?_
                    refine z_callV (pc := 81) (As := [.int p1]) (rest := []) hZ (cM_wholes l D cR c1 c2 c3 h0 a1 a2 a3 Y ka na ea kb nb eb k n e bits scale K N E p1 (by exact h0o) (by exact c70_27)) zyM_wholes (z_goodV ml_M_190 im_M_wholes se_M_wholes in_M co_M_wholes) 0 rfl rfl rfl rfl (by decide) rfl rfl (Nat.le_of_ble_eq_true rfl) ⟨Nat.zero_le _, Nat.zero_le _⟩ dM_operation_81 (z_ki (fun r81_31 w1 tys1 hp => ?_))
                    obtain ⟨k81_31, n81_31, e81_31, rfl, rfl, p81_31⟩ := hp
                    refine z_goto (pc := 84) hZ 92 dM_operation_84 (by decide) ?_
                    exact z_reti (pc := 92) hZ dM_operation_92 .int rfl rfl ⟨_, rfl, _, _, _, _, _, _, _, _, _, _, _, rfl, rfl, (by first | exact ⟨(p81_31).1, fun _ _ h => op_w c3_1 c70_27 c76_29 (p81_31).2 h⟩ | exact ⟨(p81_31).1, fun _ _ h => op_w (i_7 c9_17 c33_22) c70_27 c76_29 (p81_31).2 h⟩ | exact ⟨(nokey_).1, fun h1 _ _ => absurd h1 c47_23⟩ | exact ⟨(nokey_).1, fun _ h2 _ => absurd h2 c55_25⟩ | exact ⟨(nokey_).1, fun _ h2 h3 => ((nokey_).2 h2 h3).trans (by rw [c70_27]; decide)⟩ | exact ⟨(nokey_).1, fun _ h2 h3 => ((nokey_).2 h2 h3).trans (by rw [c76_29]; decide)⟩)⟩
          · refine z_aload_n (pc := 36) hZ 0 dM_operation_36 rfl rfl ?_
            refine z_iload_n (pc := 37) hZ 1 dM_operation_37 rfl rfl ?_
            refine z_callV (pc := 38) (As := [.int p1]) (rest := []) hZ (cM_single l D cR c1 c2 c3 h0 a1 a2 a3 Y ka na ea kb nb eb k n e bits scale K N E p1 (by exact va)) zyM_single (z_goodV ml_M_187 im_M_single se_M_single in_M co_M_single) 0 rfl rfl rfl rfl (by decide) rfl rfl (Nat.le_of_ble_eq_true rfl) ⟨Nat.zero_le _, Nat.zero_le _⟩ dM_operation_38 (z_ki (fun r38_32 w1 tys1 hp => ?_))
            obtain ⟨ka38_32, na38_32, ea38_32, k38_32, n38_32, e38_32, rfl, rfl, p38_32⟩ := hp
            exact z_reti (pc := 41) hZ dM_operation_41 .int rfl rfl ⟨_, rfl, _, _, _, _, _, _, _, _, _, _, _, rfl, rfl, (by exact ⟨⟨fun _ => (p38_32).1, fun _ => (p38_32).1⟩, fun _ _ _ => (p38_32).2.trans (opz_n (by decide) c33_22).symm⟩)⟩
        · refine z_aload_n (pc := 24) hZ 0 dM_operation_24 rfl rfl ?_
          refine z_iload_n (pc := 25) hZ 1 dM_operation_25 rfl rfl ?_
          refine z_callV (pc := 26) (As := [.int p1]) (rest := []) hZ (cM_bitwise l D cR c1 c2 c3 h0 a1 a2 a3 Y ka na ea kb nb eb k n e bits scale K N E p1) zyM_bitwise (z_goodV ml_M_183 im_M_bitwise se_M_bitwise in_M co_M_bitwise) 0 rfl rfl rfl rfl (by decide) rfl rfl (Nat.le_of_ble_eq_true rfl) ⟨Nat.zero_le _, Nat.zero_le _⟩ dM_operation_26 (z_ki (fun r26_33 w1 tys1 hp => ?_))
          obtain ⟨k26_33, n26_33, e26_33, rfl, rfl, p26_33⟩ := hp
          exact z_reti (pc := 29) hZ dM_operation_29 .int rfl rfl ⟨_, rfl, _, _, _, _, _, _, _, _, _, _, _, rfl, rfl, (by first | exact ⟨(p26_33).1, fun h1 h2 _ => ((p26_33).2 h1 h2).trans (opz_n (by decide) c3_1).symm⟩ | exact ⟨(p26_33).1, fun h1 h2 _ => ((p26_33).2 h1 h2).trans (by rw [c15_19]; decide)⟩ | exact ⟨(p26_33).1, fun h1 h2 _ => ((p26_33).2 h1 h2).trans (by rw [c21_21]; decide)⟩)⟩
set_option maxHeartbeats 4000000 in
set_option maxRecDepth 100000 in
theorem cM_isRealLess (l : Launch) (D : va_G) (cR c1 c2 c3 : ClassId) (h0 a1 a2 a3 : Nat) (Y : va_W) (ka : Int32) (na : Int64) (ea : Int32) (kb : Int32) (nb : Int64) (eb : Int32) (k : Int32) (n : Int64) (e : Int32) (bits : Int64) (scale : Int32) (K : Nat → Int32) (N : Nat → Int64) (E : Nat → Int32) (p1 : Int32) (ga : GR na ea) (rb : RK kb nb eb) (k2 : kb = 2) (hbz : narrow .boolean (.int p1) = .int p1) : zM l D vwCl zNF zNM yM_isRealLess wsM_isRealLess { frames := 3, cells := 0, slots := 0, locals := 95 } [.ref h0, .int p1] (MW h0 a1 a2 a3 c1 c2 c3 (ka, na, ea, kb, nb, eb, k, n, e, bits, scale, K, N, E) ++ Y) (TY cR c1 c2 c3) (qI (fun r w' tys' => ∃ kb' : Int32, ∃ nb' : Int64, ∃ k' : Int32, ∃ n' : Int64, ∃ e' : Int32, MW h0 a1 a2 a3 c1 c2 c3 (ka, na, ea, kb', nb', eb, k', n', e', bits, scale, K, N, E) ++ Y = w' ∧ (TY cR c1 c2 c3) = tys' ∧ (narrow .boolean (.int r) = .int r))) := by
  refine z_met (cc := bM_isRealLess) (maxL := 4) (ret := (some .boolean)) (isI := false) (own := RM) (by decide +kernel) rfl rfl (fun h => by cases h) (Nat.le_of_ble_eq_true rfl) (fun Z hZ => ?_)
  show Z 0 0 (TY cR c1 c2 c3) 0 [(0, .ref h0), (1, .int p1)] [] (MW h0 a1 a2 a3 c1 c2 c3 (ka, na, ea, kb, nb, eb, k, n, e, bits, scale, K, N, E) ++ Y)
  refine z_aload_n (pc := 0) hZ 0 dM_isRealLess_0 rfl rfl ?_
  refine z_get (pc := 1) (ci := 2) hZ 0 rfl rfl uc_M 3 (by decide) (zb fl_M_51) rfl dM_isRealLess_1 ?_
  refine z_aload_n (pc := 4) hZ 0 dM_isRealLess_4 rfl rfl ?_
  refine z_get (pc := 5) (ci := 2) hZ 0 rfl rfl uc_M 4 (by decide) (zb fl_M_54) rfl dM_isRealLess_5 ?_
  refine z_callS (pc := 8) (As := [.int ka, .long na]) (rest := []) hZ (cM_signOf l D (TY cR c1 c2 c3) (MW h0 a1 a2 a3 c1 c2 c3 (ka, na, ea, kb, nb, eb, k, n, e, bits, scale, K, N, E) ++ Y) ka na) zyM_signOf (z_goodS ml_M_101 st_M_signOf in_M co_M_signOf) rfl rfl (by decide) rfl rfl (Nat.le_of_ble_eq_true rfl) ⟨Nat.zero_le _, Nat.zero_le _⟩ dM_isRealLess_8 (z_ki (fun r8_1 w1 tys1 hp => ?_))
  obtain ⟨rfl, rfl, p8_1⟩ := hp
  refine z_istore_n (pc := 11) hZ [(2, .int r8_1), (0, .ref h0), (1, .int p1)] dM_isRealLess_11 rfl (by decide) rfl ?_
  refine z_aload_n (pc := 12) hZ 1 dM_isRealLess_12 rfl rfl ?_
  refine z_get (pc := 13) (ci := 2) hZ 0 rfl rfl uc_M 6 (by decide) (zb fl_M_60) rfl dM_isRealLess_13 ?_
  refine z_aload_n (pc := 16) hZ 1 dM_isRealLess_16 rfl rfl ?_
  refine z_get (pc := 17) (ci := 2) hZ 0 rfl rfl uc_M 7 (by decide) (zb fl_M_63) rfl dM_isRealLess_17 ?_
  refine z_callS (pc := 20) (As := [.int kb, .long nb]) (rest := []) hZ (cM_signOf l D (TY cR c1 c2 c3) (MW h0 a1 a2 a3 c1 c2 c3 (ka, na, ea, kb, nb, eb, k, n, e, bits, scale, K, N, E) ++ Y) kb nb) zyM_signOf (z_goodS ml_M_101 st_M_signOf in_M co_M_signOf) rfl rfl (by decide) rfl rfl (Nat.le_of_ble_eq_true rfl) ⟨Nat.zero_le _, Nat.zero_le _⟩ dM_isRealLess_20 (z_ki (fun r20_2 w1 tys1 hp => ?_))
  obtain ⟨rfl, rfl, p20_2⟩ := hp
  refine z_istore_n (pc := 23) hZ [(3, .int r20_2), (2, .int r8_1), (0, .ref h0), (1, .int p1)] dM_isRealLess_23 rfl (by decide) rfl ?_
  refine z_iload_n (pc := 24) hZ 1 dM_isRealLess_24 rfl rfl ?_
  refine z_iload_n (pc := 25) hZ 0 dM_isRealLess_25 rfl rfl ?_
  refine z_icmp_eq (pc := 26) hZ 40 dM_isRealLess_26 (by decide) (fun c26_3 => ?_) (fun c26_3 => ?_)
  · refine z_iload_n (pc := 40) hZ 1 dM_isRealLess_40 rfl rfl ?_
    refine z_if_ne (pc := 41) hZ 46 dM_isRealLess_41 (by decide) (fun c41_4 => ?_) (fun c41_4 => ?_)
    · refine z_aload_n (pc := 46) hZ 2 dM_isRealLess_46 rfl rfl ?_
      refine z_callV (pc := 47) (As := []) (rest := []) hZ (cM_turnB l D cR c1 c2 c3 h0 a1 a2 a3 Y ka na ea kb nb eb k n e bits scale K N E (by exact rb)) zyM_turnB (z_goodV ml_M_151 im_M_turnB se_M_turnB in_M co_M_turnB) 0 rfl rfl rfl rfl (by decide) rfl rfl (Nat.le_of_ble_eq_true rfl) ⟨Nat.zero_le _, Nat.zero_le _⟩ dM_isRealLess_47 (z_kv (fun w1 tys1 hp => ?_))
      obtain ⟨kb47_5, nb47_5, rfl, rfl, p47_5⟩ := hp
      refine z_aload_n (pc := 50) hZ 2 dM_isRealLess_50 rfl rfl ?_
      refine z_callV (pc := 51) (As := []) (rest := []) hZ (cM_addNumbers l D cR c1 c2 c3 h0 a1 a2 a3 Y ka na ea kb47_5 nb47_5 eb k n e bits scale K N E (by exact ga) (by exact (p47_5).2 k2)) zyM_addNumbers (z_goodV ml_M_90 im_M_addNumbers se_M_addNumbers in_M co_M_addNumbers) 0 rfl rfl rfl rfl (by decide) rfl rfl (Nat.le_of_ble_eq_true rfl) ⟨Nat.zero_le _, Nat.zero_le _⟩ dM_isRealLess_51 (z_kv (fun w1 tys1 hp => ?_))
      obtain ⟨k51_6, n51_6, e51_6, rfl, rfl, p51_6⟩ := hp
      refine z_aload_n (pc := 54) hZ 2 dM_isRealLess_54 rfl rfl ?_
      refine z_get (pc := 55) (ci := 2) hZ 0 rfl rfl uc_M 10 (by decide) (zb fl_M_24) rfl dM_isRealLess_55 ?_
      refine z_lconst (pc := 58) hZ 0 dM_isRealLess_58 (by decide) ?_
      refine z_lif_lt (pc := 59) hZ 76 dM_isRealLess_59 dM_isRealLess_60 (by decide) (fun c60_7 => ?_) (fun c60_7 => ?_)
      · refine z_iconst (pc := 76) hZ 1 dM_isRealLess_76 (by decide) ?_
        refine z_goto (pc := 77) hZ 81 dM_isRealLess_77 (by decide) ?_
        exact z_reti (pc := 81) hZ dM_isRealLess_81 .boolean rfl (by first | rfl | assumption) ⟨_, rfl, _, _, _, _, _, rfl, rfl, (by first | rfl | assumption)⟩
      · refine z_aload_n (pc := 63) hZ 2 dM_isRealLess_63 rfl rfl ?_
        refine z_get (pc := 64) (ci := 2) hZ 0 rfl rfl uc_M 10 (by decide) (zb fl_M_24) rfl dM_isRealLess_64 ?_
        refine z_lconst (pc := 67) hZ 0 dM_isRealLess_67 (by decide) ?_
        refine z_lif_ne (pc := 68) hZ 80 dM_isRealLess_68 dM_isRealLess_69 (by decide) (fun c69_8 => ?_) (fun c69_8 => ?_)
        · refine z_iconst (pc := 80) hZ 0 dM_isRealLess_80 (by decide) ?_
          exact z_reti (pc := 81) hZ dM_isRealLess_81 .boolean rfl (by first | rfl | assumption) ⟨_, rfl, _, _, _, _, _, rfl, rfl, (by first | rfl | assumption)⟩
        · refine z_iload_n (pc := 72) hZ 3 dM_isRealLess_72 rfl rfl ?_
          refine z_if_eq (pc := 73) hZ 80 dM_isRealLess_73 (by decide) (fun c73_9 => ?_) (fun c73_9 => ?_)
          · refine z_iconst (pc := 80) hZ 0 dM_isRealLess_80 (by decide) ?_
            exact z_reti (pc := 81) hZ dM_isRealLess_81 .boolean rfl (by first | rfl | assumption) ⟨_, rfl, _, _, _, _, _, rfl, rfl, (by first | rfl | assumption)⟩
          · refine z_iconst (pc := 76) hZ 1 dM_isRealLess_76 (by decide) ?_
            refine z_goto (pc := 77) hZ 81 dM_isRealLess_77 (by decide) ?_
            exact z_reti (pc := 81) hZ dM_isRealLess_81 .boolean rfl (by first | rfl | assumption) ⟨_, rfl, _, _, _, _, _, rfl, rfl, (by first | rfl | assumption)⟩
    · refine z_iload_n (pc := 44) hZ 3 dM_isRealLess_44 rfl rfl ?_
      exact z_reti (pc := 45) hZ dM_isRealLess_45 .boolean rfl (by first | rfl | assumption) ⟨_, rfl, _, _, _, _, _, rfl, rfl, (by first | rfl | assumption)⟩
  · refine z_iload_n (pc := 29) hZ 1 dM_isRealLess_29 rfl rfl ?_
    refine z_iload_n (pc := 30) hZ 0 dM_isRealLess_30 rfl rfl ?_
    refine z_icmp_ge (pc := 31) hZ 38 dM_isRealLess_31 (by decide) (fun c31_10 => ?_) (fun c31_10 => ?_)
    · refine z_iconst (pc := 38) hZ 0 dM_isRealLess_38 (by decide) ?_
      exact z_reti (pc := 39) hZ dM_isRealLess_39 .boolean rfl (by first | rfl | assumption) ⟨_, rfl, _, _, _, _, _, rfl, rfl, (by first | rfl | assumption)⟩
    · refine z_iconst (pc := 34) hZ 1 dM_isRealLess_34 (by decide) ?_
      refine z_goto (pc := 35) hZ 39 dM_isRealLess_35 (by decide) ?_
      exact z_reti (pc := 39) hZ dM_isRealLess_39 .boolean rfl (by first | rfl | assumption) ⟨_, rfl, _, _, _, _, _, rfl, rfl, (by first | rfl | assumption)⟩
set_option maxHeartbeats 4000000 in
set_option maxRecDepth 100000 in
theorem cM_isLess (l : Launch) (D : va_G) (cR c1 c2 c3 : ClassId) (h0 a1 a2 a3 : Nat) (Y : va_W) (ka : Int32) (na : Int64) (ea : Int32) (kb : Int32) (nb : Int64) (eb : Int32) (k : Int32) (n : Int64) (e : Int32) (bits : Int64) (scale : Int32) (K : Nat → Int32) (N : Nat → Int64) (E : Nat → Int32) (p1 : Int32) (va : VK ka na ea) (vb : VK kb nb eb) (hbz : narrow .boolean (.int p1) = .int p1) : zM l D vwCl zNF zNM yM_isLess wsM_isLess { frames := 4, cells := 0, slots := 0, locals := 118 } [.ref h0, .int p1] (MW h0 a1 a2 a3 c1 c2 c3 (ka, na, ea, kb, nb, eb, k, n, e, bits, scale, K, N, E) ++ Y) (TY cR c1 c2 c3) (qI (fun r w' tys' => ∃ kb' : Int32, ∃ nb' : Int64, ∃ k' : Int32, ∃ n' : Int64, ∃ e' : Int32, MW h0 a1 a2 a3 c1 c2 c3 (ka, na, ea, kb', nb', eb, k', n', e', bits, scale, K, N, E) ++ Y = w' ∧ (TY cR c1 c2 c3) = tys' ∧ ((narrow .boolean (.int r) = .int r) ∧ (ka = 1 → kb = 1 → na = 0 → nb = 0 → (p1 = 0 → r = 0) ∧ (p1 = 1 → r = 1))))) := by
  refine z_met (cc := bM_isLess) (maxL := 2) (ret := (some .boolean)) (isI := false) (own := RM) (by decide +kernel) rfl rfl (fun h => by cases h) (Nat.le_of_ble_eq_true rfl) (fun Z hZ => ?_)
  show Z 0 0 (TY cR c1 c2 c3) 0 [(0, .ref h0), (1, .int p1)] [] (MW h0 a1 a2 a3 c1 c2 c3 (ka, na, ea, kb, nb, eb, k, n, e, bits, scale, K, N, E) ++ Y)
  refine z_aload_n (pc := 0) hZ 0 dM_isLess_0 rfl rfl ?_
  refine z_get (pc := 1) (ci := 2) hZ 0 rfl rfl uc_M 3 (by decide) (zb fl_M_51) rfl dM_isLess_1 ?_
  refine z_iconst (pc := 4) hZ 5 dM_isLess_4 (by decide) ?_
  refine z_icmp_eq (pc := 5) hZ 16 dM_isLess_5 (by decide) (fun c5_1 => ?_) (fun c5_1 => ?_)
  · refine z_iconst (pc := 16) hZ 0 dM_isLess_16 (by decide) ?_
    exact z_reti (pc := 17) hZ dM_isLess_17 .boolean rfl (by first | rfl | assumption) ⟨_, rfl, _, _, _, _, _, rfl, rfl, (by exact ⟨by first | rfl | assumption, by first | exact fun h => (k15 h c5_1).elim | exact fun _ h => (k15 h nokey_).elim | exact fun h => (ig_n nokey_ nokey_ h).elim | exact fun _ h => (ig_n nokey_ nokey_ h).elim | exact fun h => absurd h nokey_ | exact fun _ h => absurd h nokey_ | exact fun _ _ h1 h2 => (ll_1 nokey_ h1 h2).elim | exact fun _ _ h1 h2 => (ll_2 nokey_ h1 h2).elim | exact fun _ _ _ _ => ⟨fun _ => rfl, fun h => (p01 nokey_ h).elim⟩ | exact fun _ _ _ _ => ⟨fun h => absurd h nokey_, fun _ => rfl⟩⟩)⟩
  · refine z_aload_n (pc := 8) hZ 0 dM_isLess_8 rfl rfl ?_
    refine z_get (pc := 9) (ci := 2) hZ 0 rfl rfl uc_M 6 (by decide) (zb fl_M_60) rfl dM_isLess_9 ?_
    refine z_iconst (pc := 12) hZ 5 dM_isLess_12 (by decide) ?_
    refine z_icmp_ne (pc := 13) hZ 18 dM_isLess_13 (by decide) (fun c13_2 => ?_) (fun c13_2 => ?_)
    · refine z_aload_n (pc := 18) hZ 0 dM_isLess_18 rfl rfl ?_
      refine z_get (pc := 19) (ci := 2) hZ 0 rfl rfl uc_M 3 (by decide) (zb fl_M_51) rfl dM_isLess_19 ?_
      refine z_callS (pc := 22) (As := [.int ka]) (rest := []) hZ (cM_isGreat l D (TY cR c1 c2 c3) (MW h0 a1 a2 a3 c1 c2 c3 (ka, na, ea, kb, nb, eb, k, n, e, bits, scale, K, N, E) ++ Y) ka) zyM_isGreat (z_goodS ml_M_86 st_M_isGreat in_M co_M_isGreat) rfl rfl (by decide) rfl rfl (Nat.le_of_ble_eq_true rfl) ⟨Nat.zero_le _, Nat.zero_le _⟩ dM_isLess_22 (z_ki (fun r22_3 w1 tys1 hp => ?_))
      obtain ⟨rfl, rfl, p22_3⟩ := hp
      refine z_if_ne (pc := 25) hZ 38 dM_isLess_25 (by decide) (fun c25_4 => ?_) (fun c25_4 => ?_)
      · refine z_aload_n (pc := 38) hZ 0 dM_isLess_38 rfl rfl ?_
        refine z_get (pc := 39) (ci := 2) hZ 0 rfl rfl uc_M 3 (by decide) (zb fl_M_51) rfl dM_isLess_39 ?_
        refine z_aload_n (pc := 42) hZ 0 dM_isLess_42 rfl rfl ?_
        refine z_get (pc := 43) (ci := 2) hZ 0 rfl rfl uc_M 6 (by decide) (zb fl_M_60) rfl dM_isLess_43 ?_
        refine z_icmp_ne (pc := 46) hZ 51 dM_isLess_46 (by decide) (fun c46_5 => ?_) (fun c46_5 => ?_)
        · refine z_aload_n (pc := 51) hZ 0 dM_isLess_51 rfl rfl ?_
          refine z_get (pc := 52) (ci := 2) hZ 0 rfl rfl uc_M 3 (by decide) (zb fl_M_51) rfl dM_isLess_52 ?_
          refine z_iconst (pc := 55) hZ 4 dM_isLess_55 (by decide) ?_
          refine z_icmp_eq (pc := 56) hZ 67 dM_isLess_56 (by decide) (fun c56_6 => ?_) (fun c56_6 => ?_)
          · refine z_iconst (pc := 67) hZ 1 dM_isLess_67 (by decide) ?_
            refine z_goto (pc := 68) hZ 72 dM_isLess_68 (by decide) ?_
            exact z_reti (pc := 72) hZ dM_isLess_72 .boolean rfl (by first | rfl | assumption) ⟨_, rfl, _, _, _, _, _, rfl, rfl, (by exact ⟨by first | rfl | assumption, by first | exact fun h => (k15 h c5_1).elim | exact fun _ h => (k15 h c13_2).elim | exact fun h => (ig_n p22_3 c25_4 h).elim | exact fun _ h => (ig_n nokey_ nokey_ h).elim | exact fun h => absurd h nokey_ | exact fun _ h => absurd h nokey_ | exact fun _ _ h1 h2 => (ll_1 nokey_ h1 h2).elim | exact fun _ _ h1 h2 => (ll_2 nokey_ h1 h2).elim | exact fun _ _ _ _ => ⟨fun _ => rfl, fun h => (p01 nokey_ h).elim⟩ | exact fun _ _ _ _ => ⟨fun h => absurd h nokey_, fun _ => rfl⟩⟩)⟩
          · refine z_aload_n (pc := 59) hZ 0 dM_isLess_59 rfl rfl ?_
            refine z_get (pc := 60) (ci := 2) hZ 0 rfl rfl uc_M 6 (by decide) (zb fl_M_60) rfl dM_isLess_60 ?_
            refine z_iconst (pc := 63) hZ 3 dM_isLess_63 (by decide) ?_
            refine z_icmp_ne (pc := 64) hZ 71 dM_isLess_64 (by decide) (fun c64_7 => ?_) (fun c64_7 => ?_)
            · refine z_iconst (pc := 71) hZ 0 dM_isLess_71 (by decide) ?_
              exact z_reti (pc := 72) hZ dM_isLess_72 .boolean rfl (by first | rfl | assumption) ⟨_, rfl, _, _, _, _, _, rfl, rfl, (by exact ⟨by first | rfl | assumption, by first | exact fun h => (k15 h c5_1).elim | exact fun _ h => (k15 h c13_2).elim | exact fun h => (ig_n p22_3 c25_4 h).elim | exact fun _ h => (ig_n nokey_ nokey_ h).elim | exact fun h => absurd h nokey_ | exact fun _ h => absurd h nokey_ | exact fun _ _ h1 h2 => (ll_1 nokey_ h1 h2).elim | exact fun _ _ h1 h2 => (ll_2 nokey_ h1 h2).elim | exact fun _ _ _ _ => ⟨fun _ => rfl, fun h => (p01 nokey_ h).elim⟩ | exact fun _ _ _ _ => ⟨fun h => absurd h nokey_, fun _ => rfl⟩⟩)⟩
            · refine z_iconst (pc := 67) hZ 1 dM_isLess_67 (by decide) ?_
              refine z_goto (pc := 68) hZ 72 dM_isLess_68 (by decide) ?_
              exact z_reti (pc := 72) hZ dM_isLess_72 .boolean rfl (by first | rfl | assumption) ⟨_, rfl, _, _, _, _, _, rfl, rfl, (by exact ⟨by first | rfl | assumption, by first | exact fun h => (k15 h c5_1).elim | exact fun _ h => (k15 h c13_2).elim | exact fun h => (ig_n p22_3 c25_4 h).elim | exact fun _ h => (ig_n nokey_ nokey_ h).elim | exact fun h => absurd h nokey_ | exact fun _ h => absurd h nokey_ | exact fun _ _ h1 h2 => (ll_1 nokey_ h1 h2).elim | exact fun _ _ h1 h2 => (ll_2 nokey_ h1 h2).elim | exact fun _ _ _ _ => ⟨fun _ => rfl, fun h => (p01 nokey_ h).elim⟩ | exact fun _ _ _ _ => ⟨fun h => absurd h nokey_, fun _ => rfl⟩⟩)⟩
        · refine z_iload_n (pc := 49) hZ 1 dM_isLess_49 rfl rfl ?_
          exact z_reti (pc := 50) hZ dM_isLess_50 .boolean rfl (by first | rfl | assumption) ⟨_, rfl, _, _, _, _, _, rfl, rfl, (by exact ⟨by first | rfl | assumption, by first | exact fun h => (k15 h c5_1).elim | exact fun _ h => (k15 h c13_2).elim | exact fun h => (ig_n p22_3 c25_4 h).elim | exact fun _ h => (ig_n nokey_ nokey_ h).elim | exact fun h => absurd h nokey_ | exact fun _ h => absurd h nokey_ | exact fun _ _ h1 h2 => (ll_1 nokey_ h1 h2).elim | exact fun _ _ h1 h2 => (ll_2 nokey_ h1 h2).elim | exact fun _ _ _ _ => ⟨fun _ => rfl, fun h => (p01 nokey_ h).elim⟩ | exact fun _ _ _ _ => ⟨fun h => absurd h nokey_, fun _ => rfl⟩⟩)⟩
      · refine z_aload_n (pc := 28) hZ 0 dM_isLess_28 rfl rfl ?_
        refine z_get (pc := 29) (ci := 2) hZ 0 rfl rfl uc_M 6 (by decide) (zb fl_M_60) rfl dM_isLess_29 ?_
        refine z_callS (pc := 32) (As := [.int kb]) (rest := []) hZ (cM_isGreat l D (TY cR c1 c2 c3) (MW h0 a1 a2 a3 c1 c2 c3 (ka, na, ea, kb, nb, eb, k, n, e, bits, scale, K, N, E) ++ Y) kb) zyM_isGreat (z_goodS ml_M_86 st_M_isGreat in_M co_M_isGreat) rfl rfl (by decide) rfl rfl (Nat.le_of_ble_eq_true rfl) ⟨Nat.zero_le _, Nat.zero_le _⟩ dM_isLess_32 (z_ki (fun r32_8 w1 tys1 hp => ?_))
        obtain ⟨rfl, rfl, p32_8⟩ := hp
        refine z_if_eq (pc := 35) hZ 73 dM_isLess_35 (by decide) (fun c35_9 => ?_) (fun c35_9 => ?_)
        · refine z_aload_n (pc := 73) hZ 0 dM_isLess_73 rfl rfl ?_
          refine z_get (pc := 74) (ci := 2) hZ 0 rfl rfl uc_M 3 (by decide) (zb fl_M_51) rfl dM_isLess_74 ?_
          refine z_iconst (pc := 77) hZ 1 dM_isLess_77 (by decide) ?_
          refine z_icmp_ne (pc := 78) hZ 131 dM_isLess_78 (by decide) (fun c78_10 => ?_) (fun c78_10 => ?_)
          · refine z_aload_n (pc := 131) hZ 0 dM_isLess_131 rfl rfl ?_
            refine z_get (pc := 132) (ci := 2) hZ 0 rfl rfl uc_M 3 (by decide) (zb fl_M_51) rfl dM_isLess_132 ?_
            refine z_iconst (pc := 135) hZ 1 dM_isLess_135 (by decide) ?_
            refine z_icmp_ne (pc := 136) hZ 157 dM_isLess_136 (by decide) (fun c136 => ?_) (fun c9 => False.elim (by first | exact absurd c9 c78_10 | exact absurd c78_10 c9 | exact absurd c9 (Int32.not_lt.mpr c78_10) | exact absurd c9 (Int32.not_le.mpr c78_10) | exact c9 ((Int32.not_lt).mp c78_10) | exact c9 ((Int32.not_le).mp c78_10)))
            refine z_aload_n (pc := 157) hZ 0 dM_isLess_157 rfl rfl ?_
            refine z_get (pc := 158) (ci := 2) hZ 0 rfl rfl uc_M 6 (by decide) (zb fl_M_60) rfl dM_isLess_158 ?_
            refine z_iconst (pc := 161) hZ 1 dM_isLess_161 (by decide) ?_
            refine z_icmp_ne (pc := 162) hZ 199 dM_isLess_162 (by decide) (fun c162_11 => ?_) (fun c162_11 => ?_)
            · refine z_aload_n (pc := 199) hZ 0 dM_isLess_199 rfl rfl ?_
              refine z_iload_n (pc := 200) hZ 1 dM_isLess_200 rfl rfl ?_
              refine z_callV (pc := 201) (As := [.int p1]) (rest := []) hZ (cM_isRealLess l D cR c1 c2 c3 h0 a1 a2 a3 Y ka na ea kb nb eb k n e bits scale K N E p1 (by exact RK_n (r := 0) (RK_no1 va c136) c5_1 (gt_n p22_3 c25_4)) (by exact (RK_no1 vb c162_11)) (by exact RK_is2 (RK_no1 vb c162_11) c13_2 (gt_n p32_8 c35_9)) (by exact hbz)) zyM_isRealLess (z_goodV ml_M_200 im_M_isRealLess se_M_isRealLess in_M co_M_isRealLess) 0 rfl rfl rfl rfl (by decide) rfl rfl (Nat.le_of_ble_eq_true rfl) ⟨Nat.zero_le _, Nat.zero_le _⟩ dM_isLess_201 (z_ki (fun r201_12 w1 tys1 hp => ?_))
              obtain ⟨kb201_12, nb201_12, k201_12, n201_12, e201_12, rfl, rfl, p201_12⟩ := hp
              exact z_reti (pc := 204) hZ dM_isLess_204 .boolean rfl (by first | rfl | assumption) ⟨_, rfl, _, _, _, _, _, rfl, rfl, (by exact ⟨by first | rfl | assumption, by first | exact fun h => (k15 h c5_1).elim | exact fun _ h => (k15 h c13_2).elim | exact fun h => (ig_n p22_3 c25_4 h).elim | exact fun _ h => (ig_n p32_8 c35_9 h).elim | exact fun h => absurd h c78_10 | exact fun _ h => absurd h nokey_ | exact fun _ _ h1 h2 => (ll_1 nokey_ h1 h2).elim | exact fun _ _ h1 h2 => (ll_2 nokey_ h1 h2).elim | exact fun _ _ _ _ => ⟨fun _ => rfl, fun h => (p01 nokey_ h).elim⟩ | exact fun _ _ _ _ => ⟨fun h => absurd h nokey_, fun _ => rfl⟩⟩)⟩
            · refine z_aload_n (pc := 165) hZ 0 dM_isLess_165 rfl rfl ?_
              refine z_aload_n (pc := 166) hZ 0 dM_isLess_166 rfl rfl ?_
              refine z_get (pc := 167) (ci := 2) hZ 0 rfl rfl uc_M 7 (by decide) (zb fl_M_63) rfl dM_isLess_167 ?_
              refine z_aload_n (pc := 170) hZ 0 dM_isLess_170 rfl rfl ?_
              refine z_get (pc := 171) (ci := 2) hZ 0 rfl rfl uc_M 4 (by decide) (zb fl_M_54) rfl dM_isLess_171 ?_
              refine z_aload_n (pc := 174) hZ 0 dM_isLess_174 rfl rfl ?_
              refine z_get (pc := 175) (ci := 2) hZ 0 rfl rfl uc_M 5 (by decide) (zb fl_M_57) rfl dM_isLess_175 ?_
              refine z_iload_n (pc := 178) hZ 1 dM_isLess_178 rfl rfl ?_
              refine z_if_ne (pc := 179) hZ 186 dM_isLess_179 (by decide) (fun c179_13 => ?_) (fun c179_13 => ?_)
              · refine z_iconst (pc := 186) hZ 0 dM_isLess_186 (by decide) ?_
                refine z_callV (pc := 187) (As := [.long nb, .long na, .int ea, .int 0]) (rest := []) hZ (cM_isWholeLess l D cR c1 c2 c3 h0 a1 a2 a3 Y ka na ea kb nb eb k n e bits scale K N E nb na ea 0) zyM_isWholeLess (z_goodV ml_M_196 im_M_isWholeLess se_M_isWholeLess in_M co_M_isWholeLess) 0 rfl rfl rfl rfl (by decide) rfl rfl (Nat.le_of_ble_eq_true rfl) ⟨Nat.zero_le _, Nat.zero_le _⟩ dM_isLess_187 (z_ki (fun r187_14 w1 tys1 hp => ?_))
                obtain ⟨rfl, rfl, p187_14⟩ := hp
                refine z_if_ne (pc := 190) hZ 197 dM_isLess_190 (by decide) (fun c190_15 => ?_) (fun c190_15 => ?_)
                · refine z_iconst (pc := 197) hZ 0 dM_isLess_197 (by decide) ?_
                  exact z_reti (pc := 198) hZ dM_isLess_198 .boolean rfl (by first | rfl | assumption) ⟨_, rfl, _, _, _, _, _, rfl, rfl, (by exact ⟨by first | rfl | assumption, by first | exact fun h => (k15 h c5_1).elim | exact fun _ h => (k15 h c13_2).elim | exact fun h => (ig_n p22_3 c25_4 h).elim | exact fun _ h => (ig_n p32_8 c35_9 h).elim | exact fun h => absurd h c78_10 | exact fun _ h => absurd h nokey_ | exact fun _ _ h1 h2 => (ll_1 nokey_ h1 h2).elim | exact fun _ _ h1 h2 => (ll_2 nokey_ h1 h2).elim | exact fun _ _ _ _ => ⟨fun _ => rfl, fun h => (p01 nokey_ h).elim⟩ | exact fun _ _ _ _ => ⟨fun h => absurd h nokey_, fun _ => rfl⟩⟩)⟩
                · refine z_iconst (pc := 193) hZ 1 dM_isLess_193 (by decide) ?_
                  refine z_goto (pc := 194) hZ 198 dM_isLess_194 (by decide) ?_
                  exact z_reti (pc := 198) hZ dM_isLess_198 .boolean rfl (by first | rfl | assumption) ⟨_, rfl, _, _, _, _, _, rfl, rfl, (by exact ⟨by first | rfl | assumption, by first | exact fun h => (k15 h c5_1).elim | exact fun _ h => (k15 h c13_2).elim | exact fun h => (ig_n p22_3 c25_4 h).elim | exact fun _ h => (ig_n p32_8 c35_9 h).elim | exact fun h => absurd h c78_10 | exact fun _ h => absurd h nokey_ | exact fun _ _ h1 h2 => (ll_1 nokey_ h1 h2).elim | exact fun _ _ h1 h2 => (ll_2 nokey_ h1 h2).elim | exact fun _ _ _ _ => ⟨fun _ => rfl, fun h => (p01 nokey_ h).elim⟩ | exact fun _ _ _ _ => ⟨fun h => absurd h nokey_, fun _ => rfl⟩⟩)⟩
              · refine z_iconst (pc := 182) hZ 1 dM_isLess_182 (by decide) ?_
                refine z_goto (pc := 183) hZ 187 dM_isLess_183 (by decide) ?_
                refine z_callV (pc := 187) (As := [.long nb, .long na, .int ea, .int 1]) (rest := []) hZ (cM_isWholeLess l D cR c1 c2 c3 h0 a1 a2 a3 Y ka na ea kb nb eb k n e bits scale K N E nb na ea 1) zyM_isWholeLess (z_goodV ml_M_196 im_M_isWholeLess se_M_isWholeLess in_M co_M_isWholeLess) 0 rfl rfl rfl rfl (by decide) rfl rfl (Nat.le_of_ble_eq_true rfl) ⟨Nat.zero_le _, Nat.zero_le _⟩ dM_isLess_187 (z_ki (fun r187_16 w1 tys1 hp => ?_))
                obtain ⟨rfl, rfl, p187_16⟩ := hp
                refine z_if_ne (pc := 190) hZ 197 dM_isLess_190 (by decide) (fun c190_17 => ?_) (fun c190_17 => ?_)
                · refine z_iconst (pc := 197) hZ 0 dM_isLess_197 (by decide) ?_
                  exact z_reti (pc := 198) hZ dM_isLess_198 .boolean rfl (by first | rfl | assumption) ⟨_, rfl, _, _, _, _, _, rfl, rfl, (by exact ⟨by first | rfl | assumption, by first | exact fun h => (k15 h c5_1).elim | exact fun _ h => (k15 h c13_2).elim | exact fun h => (ig_n p22_3 c25_4 h).elim | exact fun _ h => (ig_n p32_8 c35_9 h).elim | exact fun h => absurd h c78_10 | exact fun _ h => absurd h nokey_ | exact fun _ _ h1 h2 => (ll_1 nokey_ h1 h2).elim | exact fun _ _ h1 h2 => (ll_2 nokey_ h1 h2).elim | exact fun _ _ _ _ => ⟨fun _ => rfl, fun h => (p01 nokey_ h).elim⟩ | exact fun _ _ _ _ => ⟨fun h => absurd h nokey_, fun _ => rfl⟩⟩)⟩
                · refine z_iconst (pc := 193) hZ 1 dM_isLess_193 (by decide) ?_
                  refine z_goto (pc := 194) hZ 198 dM_isLess_194 (by decide) ?_
                  exact z_reti (pc := 198) hZ dM_isLess_198 .boolean rfl (by first | rfl | assumption) ⟨_, rfl, _, _, _, _, _, rfl, rfl, (by exact ⟨by first | rfl | assumption, by first | exact fun h => (k15 h c5_1).elim | exact fun _ h => (k15 h c13_2).elim | exact fun h => (ig_n p22_3 c25_4 h).elim | exact fun _ h => (ig_n p32_8 c35_9 h).elim | exact fun h => absurd h c78_10 | exact fun _ h => absurd h nokey_ | exact fun _ _ h1 h2 => (ll_1 nokey_ h1 h2).elim | exact fun _ _ h1 h2 => (ll_2 nokey_ h1 h2).elim | exact fun _ _ _ _ => ⟨fun _ => rfl, fun h => (p01 nokey_ h).elim⟩ | exact fun _ _ _ _ => ⟨fun h => absurd h nokey_, fun _ => rfl⟩⟩)⟩
          · refine z_aload_n (pc := 81) hZ 0 dM_isLess_81 rfl rfl ?_
            refine z_get (pc := 82) (ci := 2) hZ 0 rfl rfl uc_M 6 (by decide) (zb fl_M_60) rfl dM_isLess_82 ?_
            refine z_iconst (pc := 85) hZ 1 dM_isLess_85 (by decide) ?_
            refine z_icmp_ne (pc := 86) hZ 131 dM_isLess_86 (by decide) (fun c86_18 => ?_) (fun c86_18 => ?_)
            · refine z_aload_n (pc := 131) hZ 0 dM_isLess_131 rfl rfl ?_
              refine z_get (pc := 132) (ci := 2) hZ 0 rfl rfl uc_M 3 (by decide) (zb fl_M_51) rfl dM_isLess_132 ?_
              refine z_iconst (pc := 135) hZ 1 dM_isLess_135 (by decide) ?_
              refine z_icmp_ne (pc := 136) hZ 157 dM_isLess_136 (by decide) (fun c9 => False.elim (by first | exact absurd c9 c78_10 | exact absurd c78_10 c9 | exact absurd c9 (Int32.not_lt.mpr c78_10) | exact absurd c9 (Int32.not_le.mpr c78_10) | exact c9 ((Int32.not_lt).mp c78_10) | exact c9 ((Int32.not_le).mp c78_10))) (fun c136 => ?_)
              refine z_aload_n (pc := 139) hZ 0 dM_isLess_139 rfl rfl ?_
              refine z_aload_n (pc := 140) hZ 0 dM_isLess_140 rfl rfl ?_
              refine z_get (pc := 141) (ci := 2) hZ 0 rfl rfl uc_M 4 (by decide) (zb fl_M_54) rfl dM_isLess_141 ?_
              refine z_aload_n (pc := 144) hZ 0 dM_isLess_144 rfl rfl ?_
              refine z_get (pc := 145) (ci := 2) hZ 0 rfl rfl uc_M 7 (by decide) (zb fl_M_63) rfl dM_isLess_145 ?_
              refine z_aload_n (pc := 148) hZ 0 dM_isLess_148 rfl rfl ?_
              refine z_get (pc := 149) (ci := 2) hZ 0 rfl rfl uc_M 8 (by decide) (zb fl_M_66) rfl dM_isLess_149 ?_
              refine z_iload_n (pc := 152) hZ 1 dM_isLess_152 rfl rfl ?_
              refine z_callV (pc := 153) (As := [.long na, .long nb, .int eb, .int p1]) (rest := []) hZ (cM_isWholeLess l D cR c1 c2 c3 h0 a1 a2 a3 Y ka na ea kb nb eb k n e bits scale K N E na nb eb p1) zyM_isWholeLess (z_goodV ml_M_196 im_M_isWholeLess se_M_isWholeLess in_M co_M_isWholeLess) 0 rfl rfl rfl rfl (by decide) rfl rfl (Nat.le_of_ble_eq_true rfl) ⟨Nat.zero_le _, Nat.zero_le _⟩ dM_isLess_153 (z_ki (fun r153_19 w1 tys1 hp => ?_))
              obtain ⟨rfl, rfl, p153_19⟩ := hp
              exact z_reti (pc := 156) hZ dM_isLess_156 .boolean rfl (by first | rfl | assumption) ⟨_, rfl, _, _, _, _, _, rfl, rfl, (by exact ⟨by first | rfl | assumption, by first | exact fun h => (k15 h c5_1).elim | exact fun _ h => (k15 h c13_2).elim | exact fun h => (ig_n p22_3 c25_4 h).elim | exact fun _ h => (ig_n p32_8 c35_9 h).elim | exact fun h => absurd h c78_10 | exact fun _ h => absurd h c86_18 | exact fun _ _ h1 h2 => (ll_1 nokey_ h1 h2).elim | exact fun _ _ h1 h2 => (ll_2 nokey_ h1 h2).elim | exact fun _ _ _ _ => ⟨fun _ => rfl, fun h => (p01 nokey_ h).elim⟩ | exact fun _ _ _ _ => ⟨fun h => absurd h nokey_, fun _ => rfl⟩⟩)⟩
            · refine z_iload_n (pc := 89) hZ 1 dM_isLess_89 rfl rfl ?_
              refine z_if_eq (pc := 90) hZ 113 dM_isLess_90 (by decide) (fun c90_20 => ?_) (fun c90_20 => ?_)
              · refine z_aload_n (pc := 113) hZ 0 dM_isLess_113 rfl rfl ?_
                refine z_get (pc := 114) (ci := 2) hZ 0 rfl rfl uc_M 4 (by decide) (zb fl_M_54) rfl dM_isLess_114 ?_
                refine z_aload_n (pc := 117) hZ 0 dM_isLess_117 rfl rfl ?_
                refine z_get (pc := 118) (ci := 2) hZ 0 rfl rfl uc_M 7 (by decide) (zb fl_M_63) rfl dM_isLess_118 ?_
                refine z_lif_ge (pc := 121) hZ 129 dM_isLess_121 dM_isLess_122 (by decide) (fun c122_21 => ?_) (fun c122_21 => ?_)
                · refine z_iconst (pc := 129) hZ 0 dM_isLess_129 (by decide) ?_
                  exact z_reti (pc := 130) hZ dM_isLess_130 .boolean rfl (by first | rfl | assumption) ⟨_, rfl, _, _, _, _, _, rfl, rfl, (by exact ⟨by first | rfl | assumption, by first | exact fun h => (k15 h c5_1).elim | exact fun _ h => (k15 h c13_2).elim | exact fun h => (ig_n p22_3 c25_4 h).elim | exact fun _ h => (ig_n p32_8 c35_9 h).elim | exact fun h => absurd h c78_10 | exact fun _ h => absurd h c86_18 | exact fun _ _ h1 h2 => (ll_1 c122_21 h1 h2).elim | exact fun _ _ h1 h2 => (ll_2 nokey_ h1 h2).elim | exact fun _ _ _ _ => ⟨fun _ => rfl, fun h => (p01 c90_20 h).elim⟩ | exact fun _ _ _ _ => ⟨fun h => absurd h c90_20, fun _ => rfl⟩⟩)⟩
                · refine z_iconst (pc := 125) hZ 1 dM_isLess_125 (by decide) ?_
                  refine z_goto (pc := 126) hZ 130 dM_isLess_126 (by decide) ?_
                  exact z_reti (pc := 130) hZ dM_isLess_130 .boolean rfl (by first | rfl | assumption) ⟨_, rfl, _, _, _, _, _, rfl, rfl, (by exact ⟨by first | rfl | assumption, by first | exact fun h => (k15 h c5_1).elim | exact fun _ h => (k15 h c13_2).elim | exact fun h => (ig_n p22_3 c25_4 h).elim | exact fun _ h => (ig_n p32_8 c35_9 h).elim | exact fun h => absurd h c78_10 | exact fun _ h => absurd h c86_18 | exact fun _ _ h1 h2 => (ll_1 c122_21 h1 h2).elim | exact fun _ _ h1 h2 => (ll_2 nokey_ h1 h2).elim | exact fun _ _ _ _ => ⟨fun _ => rfl, fun h => (p01 c90_20 h).elim⟩ | exact fun _ _ _ _ => ⟨fun h => absurd h c90_20, fun _ => rfl⟩⟩)⟩
              · refine z_aload_n (pc := 93) hZ 0 dM_isLess_93 rfl rfl ?_
                refine z_get (pc := 94) (ci := 2) hZ 0 rfl rfl uc_M 4 (by decide) (zb fl_M_54) rfl dM_isLess_94 ?_
                refine z_aload_n (pc := 97) hZ 0 dM_isLess_97 rfl rfl ?_
                refine z_get (pc := 98) (ci := 2) hZ 0 rfl rfl uc_M 7 (by decide) (zb fl_M_63) rfl dM_isLess_98 ?_
                refine z_lif_gt (pc := 101) hZ 109 dM_isLess_101 dM_isLess_102 (by decide) (fun c102_22 => ?_) (fun c102_22 => ?_)
                · refine z_iconst (pc := 109) hZ 0 dM_isLess_109 (by decide) ?_
                  refine z_goto (pc := 110) hZ 130 dM_isLess_110 (by decide) ?_
                  exact z_reti (pc := 130) hZ dM_isLess_130 .boolean rfl (by first | rfl | assumption) ⟨_, rfl, _, _, _, _, _, rfl, rfl, (by exact ⟨by first | rfl | assumption, by first | exact fun h => (k15 h c5_1).elim | exact fun _ h => (k15 h c13_2).elim | exact fun h => (ig_n p22_3 c25_4 h).elim | exact fun _ h => (ig_n p32_8 c35_9 h).elim | exact fun h => absurd h c78_10 | exact fun _ h => absurd h c86_18 | exact fun _ _ h1 h2 => (ll_1 nokey_ h1 h2).elim | exact fun _ _ h1 h2 => (ll_2 c102_22 h1 h2).elim | exact fun _ _ _ _ => ⟨fun _ => rfl, fun h => (p01 c90_20 h).elim⟩ | exact fun _ _ _ _ => ⟨fun h => absurd h c90_20, fun _ => rfl⟩⟩)⟩
                · refine z_iconst (pc := 105) hZ 1 dM_isLess_105 (by decide) ?_
                  refine z_goto (pc := 106) hZ 130 dM_isLess_106 (by decide) ?_
                  exact z_reti (pc := 130) hZ dM_isLess_130 .boolean rfl (by first | rfl | assumption) ⟨_, rfl, _, _, _, _, _, rfl, rfl, (by exact ⟨by first | rfl | assumption, by first | exact fun h => (k15 h c5_1).elim | exact fun _ h => (k15 h c13_2).elim | exact fun h => (ig_n p22_3 c25_4 h).elim | exact fun _ h => (ig_n p32_8 c35_9 h).elim | exact fun h => absurd h c78_10 | exact fun _ h => absurd h c86_18 | exact fun _ _ h1 h2 => (ll_1 nokey_ h1 h2).elim | exact fun _ _ h1 h2 => (ll_2 c102_22 h1 h2).elim | exact fun _ _ _ _ => ⟨fun _ => rfl, fun h => (p01 c90_20 h).elim⟩ | exact fun _ _ _ _ => ⟨fun h => absurd h c90_20, fun _ => rfl⟩⟩)⟩
        · refine z_aload_n (pc := 38) hZ 0 dM_isLess_38 rfl rfl ?_
          refine z_get (pc := 39) (ci := 2) hZ 0 rfl rfl uc_M 3 (by decide) (zb fl_M_51) rfl dM_isLess_39 ?_
          refine z_aload_n (pc := 42) hZ 0 dM_isLess_42 rfl rfl ?_
          refine z_get (pc := 43) (ci := 2) hZ 0 rfl rfl uc_M 6 (by decide) (zb fl_M_60) rfl dM_isLess_43 ?_
          refine z_icmp_ne (pc := 46) hZ 51 dM_isLess_46 (by decide) (fun c46_23 => ?_) (fun c46_23 => ?_)
          · refine z_aload_n (pc := 51) hZ 0 dM_isLess_51 rfl rfl ?_
            refine z_get (pc := 52) (ci := 2) hZ 0 rfl rfl uc_M 3 (by decide) (zb fl_M_51) rfl dM_isLess_52 ?_
            refine z_iconst (pc := 55) hZ 4 dM_isLess_55 (by decide) ?_
            refine z_icmp_eq (pc := 56) hZ 67 dM_isLess_56 (by decide) (fun c56_24 => ?_) (fun c56_24 => ?_)
            · refine z_iconst (pc := 67) hZ 1 dM_isLess_67 (by decide) ?_
              refine z_goto (pc := 68) hZ 72 dM_isLess_68 (by decide) ?_
              exact z_reti (pc := 72) hZ dM_isLess_72 .boolean rfl (by first | rfl | assumption) ⟨_, rfl, _, _, _, _, _, rfl, rfl, (by exact ⟨by first | rfl | assumption, by first | exact fun h => (k15 h c5_1).elim | exact fun _ h => (k15 h c13_2).elim | exact fun h => (ig_n p22_3 c25_4 h).elim | exact fun _ h => (ig_n p32_8 c35_9 h).elim | exact fun h => absurd h nokey_ | exact fun _ h => absurd h nokey_ | exact fun _ _ h1 h2 => (ll_1 nokey_ h1 h2).elim | exact fun _ _ h1 h2 => (ll_2 nokey_ h1 h2).elim | exact fun _ _ _ _ => ⟨fun _ => rfl, fun h => (p01 nokey_ h).elim⟩ | exact fun _ _ _ _ => ⟨fun h => absurd h nokey_, fun _ => rfl⟩⟩)⟩
            · refine z_aload_n (pc := 59) hZ 0 dM_isLess_59 rfl rfl ?_
              refine z_get (pc := 60) (ci := 2) hZ 0 rfl rfl uc_M 6 (by decide) (zb fl_M_60) rfl dM_isLess_60 ?_
              refine z_iconst (pc := 63) hZ 3 dM_isLess_63 (by decide) ?_
              refine z_icmp_ne (pc := 64) hZ 71 dM_isLess_64 (by decide) (fun c64_25 => ?_) (fun c64_25 => ?_)
              · refine z_iconst (pc := 71) hZ 0 dM_isLess_71 (by decide) ?_
                exact z_reti (pc := 72) hZ dM_isLess_72 .boolean rfl (by first | rfl | assumption) ⟨_, rfl, _, _, _, _, _, rfl, rfl, (by exact ⟨by first | rfl | assumption, by first | exact fun h => (k15 h c5_1).elim | exact fun _ h => (k15 h c13_2).elim | exact fun h => (ig_n p22_3 c25_4 h).elim | exact fun _ h => (ig_n p32_8 c35_9 h).elim | exact fun h => absurd h nokey_ | exact fun _ h => absurd h nokey_ | exact fun _ _ h1 h2 => (ll_1 nokey_ h1 h2).elim | exact fun _ _ h1 h2 => (ll_2 nokey_ h1 h2).elim | exact fun _ _ _ _ => ⟨fun _ => rfl, fun h => (p01 nokey_ h).elim⟩ | exact fun _ _ _ _ => ⟨fun h => absurd h nokey_, fun _ => rfl⟩⟩)⟩
              · refine z_iconst (pc := 67) hZ 1 dM_isLess_67 (by decide) ?_
                refine z_goto (pc := 68) hZ 72 dM_isLess_68 (by decide) ?_
                exact z_reti (pc := 72) hZ dM_isLess_72 .boolean rfl (by first | rfl | assumption) ⟨_, rfl, _, _, _, _, _, rfl, rfl, (by exact ⟨by first | rfl | assumption, by first | exact fun h => (k15 h c5_1).elim | exact fun _ h => (k15 h c13_2).elim | exact fun h => (ig_n p22_3 c25_4 h).elim | exact fun _ h => (ig_n p32_8 c35_9 h).elim | exact fun h => absurd h nokey_ | exact fun _ h => absurd h nokey_ | exact fun _ _ h1 h2 => (ll_1 nokey_ h1 h2).elim | exact fun _ _ h1 h2 => (ll_2 nokey_ h1 h2).elim | exact fun _ _ _ _ => ⟨fun _ => rfl, fun h => (p01 nokey_ h).elim⟩ | exact fun _ _ _ _ => ⟨fun h => absurd h nokey_, fun _ => rfl⟩⟩)⟩
          · refine z_iload_n (pc := 49) hZ 1 dM_isLess_49 rfl rfl ?_
            exact z_reti (pc := 50) hZ dM_isLess_50 .boolean rfl (by first | rfl | assumption) ⟨_, rfl, _, _, _, _, _, rfl, rfl, (by exact ⟨by first | rfl | assumption, by first | exact fun h => (k15 h c5_1).elim | exact fun _ h => (k15 h c13_2).elim | exact fun h => (ig_n p22_3 c25_4 h).elim | exact fun _ h => (ig_n p32_8 c35_9 h).elim | exact fun h => absurd h nokey_ | exact fun _ h => absurd h nokey_ | exact fun _ _ h1 h2 => (ll_1 nokey_ h1 h2).elim | exact fun _ _ h1 h2 => (ll_2 nokey_ h1 h2).elim | exact fun _ _ _ _ => ⟨fun _ => rfl, fun h => (p01 nokey_ h).elim⟩ | exact fun _ _ _ _ => ⟨fun h => absurd h nokey_, fun _ => rfl⟩⟩)⟩
    · refine z_iconst (pc := 16) hZ 0 dM_isLess_16 (by decide) ?_
      exact z_reti (pc := 17) hZ dM_isLess_17 .boolean rfl (by first | rfl | assumption) ⟨_, rfl, _, _, _, _, _, rfl, rfl, (by exact ⟨by first | rfl | assumption, by first | exact fun h => (k15 h c5_1).elim | exact fun _ h => (k15 h c13_2).elim | exact fun h => (ig_n nokey_ nokey_ h).elim | exact fun _ h => (ig_n nokey_ nokey_ h).elim | exact fun h => absurd h nokey_ | exact fun _ h => absurd h nokey_ | exact fun _ _ h1 h2 => (ll_1 nokey_ h1 h2).elim | exact fun _ _ h1 h2 => (ll_2 nokey_ h1 h2).elim | exact fun _ _ _ _ => ⟨fun _ => rfl, fun h => (p01 nokey_ h).elim⟩ | exact fun _ _ _ _ => ⟨fun h => absurd h nokey_, fun _ => rfl⟩⟩)⟩
