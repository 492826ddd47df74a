set_option maxHeartbeats 8000000 in
set_option maxRecDepth 100000 in
theorem law_loop (l : Launch) (D : va_G) {Z : zZ} (hZ : zI l D vwCl zNF zNM RL bL_law 4 ret wsL_law room_1 600148 7301804 (fun v _ _ => v = some (.int 1)) false Z) {b L : Nat} {xs : Nat → Int32} (hL : L ≤ 2560) (hL5 : L ≤ 5)
    (hsl : ∀ (k n : Nat) (tys : zT) (pc : Nat) (lv : List (Nat × Value)) (st : List Value) (w : va_W), decode bL_law pc = .ok (.arraylength, 1) → Z k n tys (pc + 1) lv (.int (Int32.ofNat L) :: st) w → Z k n tys pc lv (.ref b :: st) w)
    (hsd : ∀ (k n : Nat) (tys : zT) (pc : Nat) (lv : List (Nat × Value)) (st : List Value) (w : va_W) (i : Int32), vp_in i L → decode bL_law pc = .ok (.iaload, 1) → (∀ v : Int32, v = xs i.toNatClampNeg → Z k n tys (pc + 1) lv (.int v :: st) w) → Z k n tys pc lv (.int i :: .ref b :: st) w)
    (cR c1 c2 c3 : ClassId) (x0 ra v1 v2 v3 m0 a1 a2 a3 : Nat) (LP : List Nat) (f : Nat → V3) (g : Nat → Option Nat) (hH : zH LP v1 v2 v3 g) (ka : Int32) (na : Int64) (ea : Int32) (kb : Int32) (nb : Int64) (eb : Int32) (k : Int32) (n : Int64) (e : Int32) (bits : Int64) (scale : Int32) (K : Nat → Int32) (N : Nat → Int64) (E : Nat → Int32) (hAK : AK K N E) (hFR : FZ LP f ∧ RZ K N E) :
    Z 41 251 (TY cR c1 c2 c3) 18 [(0, .ref b), (1, .ref x0), (2, .ref m0), (3, .int 0)] [] (CX x0 ra v1 v2 v3 cR g (MW m0 a1 a2 a3 c1 c2 c3 (ka, na, ea, kb, nb, eb, k, n, e, bits, scale, K, N, E)) ++ PL LP f) := by
  have L18 : ∀ (N18 : Nat) (x3_18 : Int32) (E_18 : Nat → Int32) (K_18 : Nat → Int32) (N_18 : Nat → Int64) (bits_18 : Int64) (e_18 : Int32) (ea_18 : Int32) (eb_18 : Int32) (f_18 : Nat → V3) (g_18 : Nat → Option Nat) (k_18 : Int32) (ka_18 : Int32) (kb_18 : Int32) (n_18 : Int64) (na_18 : Int64) (nb_18 : Int64) (scale_18 : Int32), ((L : Int) - x3_18.toInt).toNat < N18 → (zH LP v1 v2 v3 g_18) → (AK K_18 N_18 E_18) → (0 ≤ x3_18.toInt ∧ x3_18.toInt ≤ (L : Int)) → (x3_18 = 0 → FZ LP f_18 ∧ RZ K_18 N_18 E_18) → Z 41 251 (TY cR c1 c2 c3) 18 [(0, .ref b), (1, .ref x0), (2, .ref m0), (3, .int x3_18)] [] (CX x0 ra v1 v2 v3 cR g_18 (MW m0 a1 a2 a3 c1 c2 c3 (ka_18, na_18, ea_18, kb_18, nb_18, eb_18, k_18, n_18, e_18, bits_18, scale_18, K_18, N_18, E_18)) ++ PL LP f_18) := by
    intro N18
    induction N18 with
    | zero => intro x3_18 E_18 K_18 N_18 bits_18 e_18 ea_18 eb_18 f_18 g_18 k_18 ka_18 kb_18 n_18 na_18 nb_18 scale_18 m18; exact absurd m18 (Nat.not_lt_zero _)
    | succ N18 ih18 =>
      intro x3_18 E_18 K_18 N_18 bits_18 e_18 ea_18 eb_18 f_18 g_18 k_18 ka_18 kb_18 n_18 na_18 nb_18 scale_18 m18 hH_18 hAK_18 i18 q18
      refine z_iload_n (pc := 18) hZ 3 dL_law_18 rfl rfl ?_
      refine z_aload_n (pc := 19) hZ 0 dL_law_19 rfl rfl ?_
      refine hsl _ _ _ 20 _ _ _ dL_law_20 ?_
      refine z_iconst (pc := 21) hZ 5 dL_law_21 (by decide) ?_
      refine z_isub (pc := 22) hZ dL_law_22 (fun v22_1 ev22_1 => ?_)
      refine z_icmp_gt (pc := 23) hZ 562 dL_law_23 (by decide) (fun c23_2 => ?_) (fun c23_2 => ?_)
      · refine z_iconst (pc := 562) hZ 1 dL_law_562 (by decide) ?_
        refine z_widen (pc := 563) (k' := 600148) (n' := 7301804) hZ (by decide) (by decide) ?_
        exact z_reti (pc := 563) hZ dL_law_563 .boolean rfl rfl rfl
      · have LI := lw_i hL ev22_1 c23_2
        have FR := q18 (lw_z hL5 i18 LI)
        refine z_aload_n (pc := 26) hZ 0 dL_law_26 rfl rfl ?_
        refine z_iload_n (pc := 27) hZ 3 dL_law_27 rfl rfl ?_
        refine hsd _ _ _ 28 _ _ _ _ (lw_i0 i18 LI) dL_law_28 (fun v28_3 ev28_3 => ?_)
        refine z_bipush (pc := 29) hZ 15 dL_law_29 (by decide) ?_
        refine z_iand (pc := 31) hZ dL_law_31 (fun v31_4 ev31_4 => ?_)
        have J556 : ∀ (E_556 : Nat → Int32) (K_556 : Nat → Int32) (N_556 : Nat → Int64) (bits_556 : Int64) (e_556 : Int32) (ea_556 : Int32) (eb_556 : Int32) (f_556 : Nat → V3) (g_556 : Nat → Option Nat) (k_556 : Int32) (ka_556 : Int32) (kb_556 : Int32) (n_556 : Int64) (na_556 : Int64) (nb_556 : Int64) (scale_556 : Int32), (zH LP v1 v2 v3 g_556) → (AK K_556 N_556 E_556) → Z 41 251 (TY cR c1 c2 c3) 556 [(0, .ref b), (1, .ref x0), (2, .ref m0), (3, .int x3_18)] [] (CX x0 ra v1 v2 v3 cR g_556 (MW m0 a1 a2 a3 c1 c2 c3 (ka_556, na_556, ea_556, kb_556, nb_556, eb_556, k_556, n_556, e_556, bits_556, scale_556, K_556, N_556, E_556)) ++ PL LP f_556) := by
          intro E_556 K_556 N_556 bits_556 e_556 ea_556 eb_556 f_556 g_556 k_556 ka_556 kb_556 n_556 na_556 nb_556 scale_556 hH_556 hAK_556
          refine z_iinc (pc := 556) hZ 3 (fun v9 => [(3, .int v9), (0, .ref b), (1, .ref x0), (2, .ref m0)]) dL_law_556 rfl (by decide) (fun _ => rfl) (fun v556_5 ev556_5 => ?_)
          refine z_goto (pc := 559) hZ 18 dL_law_559 (by decide) ?_
          exact z_sub (pc := 18) hZ [1, 2, 3, 0] rfl (ih18 v556_5 E_556 K_556 N_556 bits_556 e_556 ea_556 eb_556 f_556 g_556 k_556 ka_556 kb_556 n_556 na_556 nb_556 scale_556 (by exact Nat.lt_of_lt_of_le (lw_n hL i18 LI ev556_5).2 (Nat.le_of_lt_succ m18)) (by exact hH_556) (by exact hAK_556) (by exact (lw_n hL i18 LI ev556_5).1) (by exact fun h => absurd h (lw_ne hL i18 LI ev556_5)))
        by_cases w32_0 : v31_4 = 0
        · refine z_tabAt (pc := 32) hZ 0 92 w32_0 dL_law_32 (by decide) (by decide) rfl (by decide) ?_
          refine z_aload_n (pc := 92) hZ 1 dL_law_92 rfl rfl ?_
          refine z_aload_n (pc := 93) hZ 0 dL_law_93 rfl rfl ?_
          refine z_iload_n (pc := 94) hZ 3 dL_law_94 rfl rfl ?_
          refine z_iconst (pc := 95) hZ 1 dL_law_95 (by decide) ?_
          refine z_iadd (pc := 96) hZ dL_law_96 (fun v96_6 ev96_6 => ?_)
          refine hsd _ _ _ 97 _ _ _ _ (lw_ix 1 hL i18 LI (by decide) ev96_6) dL_law_97 (fun v97_7 ev97_7 => ?_)
          refine z_aload_n (pc := 98) hZ 0 dL_law_98 rfl rfl ?_
          refine z_iload_n (pc := 99) hZ 3 dL_law_99 rfl rfl ?_
          refine z_iconst (pc := 100) hZ 2 dL_law_100 (by decide) ?_
          refine z_iadd (pc := 101) hZ dL_law_101 (fun v101_8 ev101_8 => ?_)
          refine hsd _ _ _ 102 _ _ _ _ (lw_ix 2 hL i18 LI (by decide) ev101_8) dL_law_102 (fun v102_9 ev102_9 => ?_)
          refine z_i2l (pc := 103) hZ dL_law_103 (fun v103_10 ev103_10 => ?_)
          refine z_bipush (pc := 104) hZ 32 dL_law_104 (by decide) ?_
          refine z_lshl (pc := 106) hZ dL_law_106 (fun v106_11 ev106_11 => ?_)
          refine z_aload_n (pc := 107) hZ 0 dL_law_107 rfl rfl ?_
          refine z_iload_n (pc := 108) hZ 3 dL_law_108 rfl rfl ?_
          refine z_iconst (pc := 109) hZ 3 dL_law_109 (by decide) ?_
          refine z_iadd (pc := 110) hZ dL_law_110 (fun v110_12 ev110_12 => ?_)
          refine hsd _ _ _ 111 _ _ _ _ (lw_ix 3 hL i18 LI (by decide) ev110_12) dL_law_111 (fun v111_13 ev111_13 => ?_)
          refine z_i2l (pc := 112) hZ dL_law_112 (fun v112_14 ev112_14 => ?_)
          refine z_ldc2 (pc := 113) hZ 4294967295 (zb kc_L_13) dL_law_113 ?_
          refine z_land (pc := 116) hZ dL_law_116 (fun v116_15 ev116_15 => ?_)
          refine z_lor (pc := 117) hZ dL_law_117 (fun v117_16 ev117_16 => ?_)
          refine z_callV (pc := 118) (As := [.int v97_7, .long v117_16]) (rest := []) hZ (cN_whole l D cR c1 c2 c3 x0 ra v1 v2 v3 (MW m0 a1 a2 a3 c1 c2 c3 (ka_18, na_18, ea_18, kb_18, nb_18, eb_18, k_18, n_18, e_18, bits_18, scale_18, K_18, N_18, E_18)) LP f_18 g_18 hH_18 v97_7 v117_16) zyN_whole (z_goodV ml_L_15 im_N_whole se_N_whole in_N co_N_whole) 0 rfl rfl rfl rfl (by decide) rfl rfl (Nat.le_of_ble_eq_true rfl) (by decide) dL_law_118 (z_ki (fun r118_17 w1 tys1 hp => ?_))
          obtain ⟨f118_17, rfl, rfl, p118_17⟩ := hp
          refine z_aload_n (pc := 121) hZ 2 dL_law_121 rfl rfl ?_
          refine z_aload_n (pc := 122) hZ 0 dL_law_122 rfl rfl ?_
          refine z_iload_n (pc := 123) hZ 3 dL_law_123 rfl rfl ?_
          refine z_iconst (pc := 124) hZ 1 dL_law_124 (by decide) ?_
          refine z_iadd (pc := 125) hZ dL_law_125 (fun v125_18 ev125_18 => ?_)
          refine hsd _ _ _ 126 _ _ _ _ (lw_ix 1 hL i18 LI (by decide) ev125_18) dL_law_126 (fun v126_19 ev126_19 => ?_)
          have q9 : v97_7 = v126_19 := by rw [ev126_19, ev97_7, ev125_18, ev96_6]
          subst q9
          refine z_aload_n (pc := 127) hZ 0 dL_law_127 rfl rfl ?_
          refine z_iload_n (pc := 128) hZ 3 dL_law_128 rfl rfl ?_
          refine z_iconst (pc := 129) hZ 2 dL_law_129 (by decide) ?_
          refine z_iadd (pc := 130) hZ dL_law_130 (fun v130_20 ev130_20 => ?_)
          refine hsd _ _ _ 131 _ _ _ _ (lw_ix 2 hL i18 LI (by decide) ev130_20) dL_law_131 (fun v131_21 ev131_21 => ?_)
          have q9 : v102_9 = v131_21 := by rw [ev131_21, ev102_9, ev130_20, ev101_8]
          subst q9
          refine z_i2l (pc := 132) hZ dL_law_132 (fun v132_22 ev132_22 => ?_)
          refine z_bipush (pc := 133) hZ 32 dL_law_133 (by decide) ?_
          refine z_lshl (pc := 135) hZ dL_law_135 (fun v135_23 ev135_23 => ?_)
          refine z_aload_n (pc := 136) hZ 0 dL_law_136 rfl rfl ?_
          refine z_iload_n (pc := 137) hZ 3 dL_law_137 rfl rfl ?_
          refine z_iconst (pc := 138) hZ 3 dL_law_138 (by decide) ?_
          refine z_iadd (pc := 139) hZ dL_law_139 (fun v139_24 ev139_24 => ?_)
          refine hsd _ _ _ 140 _ _ _ _ (lw_ix 3 hL i18 LI (by decide) ev139_24) dL_law_140 (fun v140_25 ev140_25 => ?_)
          have q9 : v111_13 = v140_25 := by rw [ev140_25, ev111_13, ev139_24, ev110_12]
          subst q9
          refine z_i2l (pc := 141) hZ dL_law_141 (fun v141_26 ev141_26 => ?_)
          refine z_ldc2 (pc := 142) hZ 4294967295 (zb kc_L_13) dL_law_142 ?_
          refine z_land (pc := 145) hZ dL_law_145 (fun v145_27 ev145_27 => ?_)
          refine z_lor (pc := 146) hZ dL_law_146 (fun v146_28 ev146_28 => ?_)
          refine z_toM hZ ?_
          refine z_callV (pc := 147) (As := [.int v97_7, .long v146_28]) (rest := [.int r118_17]) hZ (cM_whole l D cR c1 c2 c3 m0 a1 a2 a3 (CX x0 ra v1 v2 v3 cR g_18 [] ++ PL LP f118_17) ka_18 na_18 ea_18 kb_18 nb_18 eb_18 k_18 n_18 e_18 bits_18 scale_18 K_18 N_18 E_18 v97_7 v146_28 (by exact hAK_18)) zyM_whole (z_goodV ml_L_19 im_M_whole se_M_whole in_M co_M_whole) 0 rfl rfl rfl rfl (by decide) rfl rfl (Nat.le_of_ble_eq_true rfl) (by decide) dL_law_147 (z_ki (fun r147_29 w1 tys1 hp => ?_))
          obtain ⟨k147_29, n147_29, e147_29, K147_29, N147_29, E147_29, rfl, rfl, p147_29⟩ := hp
          refine z_toC hZ ?_
          refine z_icmp_eq (pc := 150) hZ 556 dL_law_150 (by decide) (fun c150_30 => ?_) (fun c150_30 => ?_)
          · exact z_sub (pc := 556) hZ [0, 1, 2, 3] rfl (J556 E147_29 K147_29 N147_29 bits_18 e147_29 ea_18 eb_18 f118_17 g_18 k147_29 ka_18 kb_18 n147_29 na_18 nb_18 scale_18 (by exact hH_18) (by exact p147_29.2))
          · exact absurd (eq_ok p118_17 p147_29.1) c150_30
        by_cases w32_1 : v31_4 = 1
        · refine z_tabAt (pc := 32) hZ 1 155 w32_1 dL_law_32 (by decide) (by decide) rfl (by decide) ?_
          refine z_aload_n (pc := 155) hZ 1 dL_law_155 rfl rfl ?_
          refine z_aload_n (pc := 156) hZ 0 dL_law_156 rfl rfl ?_
          refine z_iload_n (pc := 157) hZ 3 dL_law_157 rfl rfl ?_
          refine z_iconst (pc := 158) hZ 1 dL_law_158 (by decide) ?_
          refine z_iadd (pc := 159) hZ dL_law_159 (fun v159_31 ev159_31 => ?_)
          refine hsd _ _ _ 160 _ _ _ _ (lw_ix 1 hL i18 LI (by decide) ev159_31) dL_law_160 (fun v160_32 ev160_32 => ?_)
          refine z_aload_n (pc := 161) hZ 0 dL_law_161 rfl rfl ?_
          refine z_iload_n (pc := 162) hZ 3 dL_law_162 rfl rfl ?_
          refine z_iconst (pc := 163) hZ 2 dL_law_163 (by decide) ?_
          refine z_iadd (pc := 164) hZ dL_law_164 (fun v164_33 ev164_33 => ?_)
          refine hsd _ _ _ 165 _ _ _ _ (lw_ix 2 hL i18 LI (by decide) ev164_33) dL_law_165 (fun v165_34 ev165_34 => ?_)
          refine z_i2l (pc := 166) hZ dL_law_166 (fun v166_35 ev166_35 => ?_)
          refine z_bipush (pc := 167) hZ 32 dL_law_167 (by decide) ?_
          refine z_lshl (pc := 169) hZ dL_law_169 (fun v169_36 ev169_36 => ?_)
          refine z_aload_n (pc := 170) hZ 0 dL_law_170 rfl rfl ?_
          refine z_iload_n (pc := 171) hZ 3 dL_law_171 rfl rfl ?_
          refine z_iconst (pc := 172) hZ 3 dL_law_172 (by decide) ?_
          refine z_iadd (pc := 173) hZ dL_law_173 (fun v173_37 ev173_37 => ?_)
          refine hsd _ _ _ 174 _ _ _ _ (lw_ix 3 hL i18 LI (by decide) ev173_37) dL_law_174 (fun v174_38 ev174_38 => ?_)
          refine z_i2l (pc := 175) hZ dL_law_175 (fun v175_39 ev175_39 => ?_)
          refine z_ldc2 (pc := 176) hZ 4294967295 (zb kc_L_13) dL_law_176 ?_
          refine z_land (pc := 179) hZ dL_law_179 (fun v179_40 ev179_40 => ?_)
          refine z_lor (pc := 180) hZ dL_law_180 (fun v180_41 ev180_41 => ?_)
          refine z_aload_n (pc := 181) hZ 0 dL_law_181 rfl rfl ?_
          refine z_iload_n (pc := 182) hZ 3 dL_law_182 rfl rfl ?_
          refine z_iconst (pc := 183) hZ 4 dL_law_183 (by decide) ?_
          refine z_iadd (pc := 184) hZ dL_law_184 (fun v184_42 ev184_42 => ?_)
          refine hsd _ _ _ 185 _ _ _ _ (lw_ix 4 hL i18 LI (by decide) ev184_42) dL_law_185 (fun v185_43 ev185_43 => ?_)
          refine z_callV (pc := 186) (As := [.int v160_32, .long v180_41, .int v185_43]) (rest := []) hZ (cN_real l D cR c1 c2 c3 x0 ra v1 v2 v3 (MW m0 a1 a2 a3 c1 c2 c3 (ka_18, na_18, ea_18, kb_18, nb_18, eb_18, k_18, n_18, e_18, bits_18, scale_18, K_18, N_18, E_18)) LP f_18 g_18 hH_18 v160_32 v180_41 v185_43) zyN_real (z_goodV ml_L_20 im_N_real se_N_real in_N co_N_real) 0 rfl rfl rfl rfl (by decide) rfl rfl (Nat.le_of_ble_eq_true rfl) (by decide) dL_law_186 (z_ki (fun r186_44 w1 tys1 hp => ?_))
          obtain ⟨f186_44, rfl, rfl, p186_44⟩ := hp
          refine z_aload_n (pc := 189) hZ 2 dL_law_189 rfl rfl ?_
          refine z_aload_n (pc := 190) hZ 0 dL_law_190 rfl rfl ?_
          refine z_iload_n (pc := 191) hZ 3 dL_law_191 rfl rfl ?_
          refine z_iconst (pc := 192) hZ 1 dL_law_192 (by decide) ?_
          refine z_iadd (pc := 193) hZ dL_law_193 (fun v193_45 ev193_45 => ?_)
          refine hsd _ _ _ 194 _ _ _ _ (lw_ix 1 hL i18 LI (by decide) ev193_45) dL_law_194 (fun v194_46 ev194_46 => ?_)
          have q9 : v160_32 = v194_46 := by rw [ev194_46, ev160_32, ev193_45, ev159_31]
          subst q9
          refine z_aload_n (pc := 195) hZ 0 dL_law_195 rfl rfl ?_
          refine z_iload_n (pc := 196) hZ 3 dL_law_196 rfl rfl ?_
          refine z_iconst (pc := 197) hZ 2 dL_law_197 (by decide) ?_
          refine z_iadd (pc := 198) hZ dL_law_198 (fun v198_47 ev198_47 => ?_)
          refine hsd _ _ _ 199 _ _ _ _ (lw_ix 2 hL i18 LI (by decide) ev198_47) dL_law_199 (fun v199_48 ev199_48 => ?_)
          have q9 : v165_34 = v199_48 := by rw [ev199_48, ev165_34, ev198_47, ev164_33]
          subst q9
          refine z_i2l (pc := 200) hZ dL_law_200 (fun v200_49 ev200_49 => ?_)
          refine z_bipush (pc := 201) hZ 32 dL_law_201 (by decide) ?_
          refine z_lshl (pc := 203) hZ dL_law_203 (fun v203_50 ev203_50 => ?_)
          refine z_aload_n (pc := 204) hZ 0 dL_law_204 rfl rfl ?_
          refine z_iload_n (pc := 205) hZ 3 dL_law_205 rfl rfl ?_
          refine z_iconst (pc := 206) hZ 3 dL_law_206 (by decide) ?_
          refine z_iadd (pc := 207) hZ dL_law_207 (fun v207_51 ev207_51 => ?_)
          refine hsd _ _ _ 208 _ _ _ _ (lw_ix 3 hL i18 LI (by decide) ev207_51) dL_law_208 (fun v208_52 ev208_52 => ?_)
          have q9 : v174_38 = v208_52 := by rw [ev208_52, ev174_38, ev207_51, ev173_37]
          subst q9
          refine z_i2l (pc := 209) hZ dL_law_209 (fun v209_53 ev209_53 => ?_)
          refine z_ldc2 (pc := 210) hZ 4294967295 (zb kc_L_13) dL_law_210 ?_
          refine z_land (pc := 213) hZ dL_law_213 (fun v213_54 ev213_54 => ?_)
          refine z_lor (pc := 214) hZ dL_law_214 (fun v214_55 ev214_55 => ?_)
          refine z_aload_n (pc := 215) hZ 0 dL_law_215 rfl rfl ?_
          refine z_iload_n (pc := 216) hZ 3 dL_law_216 rfl rfl ?_
          refine z_iconst (pc := 217) hZ 4 dL_law_217 (by decide) ?_
          refine z_iadd (pc := 218) hZ dL_law_218 (fun v218_56 ev218_56 => ?_)
          refine hsd _ _ _ 219 _ _ _ _ (lw_ix 4 hL i18 LI (by decide) ev218_56) dL_law_219 (fun v219_57 ev219_57 => ?_)
          have q9 : v185_43 = v219_57 := by rw [ev219_57, ev185_43, ev218_56, ev184_42]
          subst q9
          refine z_toM hZ ?_
          refine z_callV (pc := 220) (As := [.int v160_32, .long v214_55, .int v185_43]) (rest := [.int r186_44]) hZ (cM_real l D cR c1 c2 c3 m0 a1 a2 a3 (CX x0 ra v1 v2 v3 cR g_18 [] ++ PL LP f186_44) ka_18 na_18 ea_18 kb_18 nb_18 eb_18 k_18 n_18 e_18 bits_18 scale_18 K_18 N_18 E_18 v160_32 v214_55 v185_43 (by exact hAK_18)) zyM_real (z_goodV ml_L_24 im_M_real se_M_real in_M co_M_real) 0 rfl rfl rfl rfl (by decide) rfl rfl (Nat.le_of_ble_eq_true rfl) (by decide) dL_law_220 (z_ki (fun r220_58 w1 tys1 hp => ?_))
          obtain ⟨k220_58, n220_58, e220_58, K220_58, N220_58, E220_58, rfl, rfl, p220_58⟩ := hp
          refine z_toC hZ ?_
          refine z_icmp_eq (pc := 223) hZ 556 dL_law_223 (by decide) (fun c223_59 => ?_) (fun c223_59 => ?_)
          · exact z_sub (pc := 556) hZ [0, 1, 2, 3] rfl (J556 E220_58 K220_58 N220_58 bits_18 e220_58 ea_18 eb_18 f186_44 g_18 k220_58 ka_18 kb_18 n220_58 na_18 nb_18 scale_18 (by exact hH_18) (by exact p220_58.2))
          · exact absurd (eq_ok p186_44 p220_58.1) c223_59
        by_cases w32_2 : v31_4 = 2
        · refine z_tabAt (pc := 32) hZ 2 228 w32_2 dL_law_32 (by decide) (by decide) rfl (by decide) ?_
          refine z_aload_n (pc := 228) hZ 1 dL_law_228 rfl rfl ?_
          refine z_aload_n (pc := 229) hZ 0 dL_law_229 rfl rfl ?_
          refine z_iload_n (pc := 230) hZ 3 dL_law_230 rfl rfl ?_
          refine z_iconst (pc := 231) hZ 1 dL_law_231 (by decide) ?_
          refine z_iadd (pc := 232) hZ dL_law_232 (fun v232_60 ev232_60 => ?_)
          refine hsd _ _ _ 233 _ _ _ _ (lw_ix 1 hL i18 LI (by decide) ev232_60) dL_law_233 (fun v233_61 ev233_61 => ?_)
          refine z_aload_n (pc := 234) hZ 0 dL_law_234 rfl rfl ?_
          refine z_iload_n (pc := 235) hZ 3 dL_law_235 rfl rfl ?_
          refine z_iconst (pc := 236) hZ 2 dL_law_236 (by decide) ?_
          refine z_iadd (pc := 237) hZ dL_law_237 (fun v237_62 ev237_62 => ?_)
          refine hsd _ _ _ 238 _ _ _ _ (lw_ix 2 hL i18 LI (by decide) ev237_62) dL_law_238 (fun v238_63 ev238_63 => ?_)
          refine z_callV (pc := 239) (As := [.int v233_61, .int v238_63]) (rest := []) hZ (cN_special l D cR c1 c2 c3 x0 ra v1 v2 v3 (MW m0 a1 a2 a3 c1 c2 c3 (ka_18, na_18, ea_18, kb_18, nb_18, eb_18, k_18, n_18, e_18, bits_18, scale_18, K_18, N_18, E_18)) LP f_18 g_18 hH_18 v233_61 v238_63) zyN_special (z_goodV ml_L_25 im_N_special se_N_special in_N co_N_special) 0 rfl rfl rfl rfl (by decide) rfl rfl (Nat.le_of_ble_eq_true rfl) (by decide) dL_law_239 (z_ki (fun r239_64 w1 tys1 hp => ?_))
          obtain ⟨f239_64, rfl, rfl, p239_64⟩ := hp
          refine z_aload_n (pc := 242) hZ 2 dL_law_242 rfl rfl ?_
          refine z_aload_n (pc := 243) hZ 0 dL_law_243 rfl rfl ?_
          refine z_iload_n (pc := 244) hZ 3 dL_law_244 rfl rfl ?_
          refine z_iconst (pc := 245) hZ 1 dL_law_245 (by decide) ?_
          refine z_iadd (pc := 246) hZ dL_law_246 (fun v246_65 ev246_65 => ?_)
          refine hsd _ _ _ 247 _ _ _ _ (lw_ix 1 hL i18 LI (by decide) ev246_65) dL_law_247 (fun v247_66 ev247_66 => ?_)
          have q9 : v233_61 = v247_66 := by rw [ev247_66, ev233_61, ev246_65, ev232_60]
          subst q9
          refine z_aload_n (pc := 248) hZ 0 dL_law_248 rfl rfl ?_
          refine z_iload_n (pc := 249) hZ 3 dL_law_249 rfl rfl ?_
          refine z_iconst (pc := 250) hZ 2 dL_law_250 (by decide) ?_
          refine z_iadd (pc := 251) hZ dL_law_251 (fun v251_67 ev251_67 => ?_)
          refine hsd _ _ _ 252 _ _ _ _ (lw_ix 2 hL i18 LI (by decide) ev251_67) dL_law_252 (fun v252_68 ev252_68 => ?_)
          have q9 : v238_63 = v252_68 := by rw [ev252_68, ev238_63, ev251_67, ev237_62]
          subst q9
          refine z_toM hZ ?_
          refine z_callV (pc := 253) (As := [.int v233_61, .int v238_63]) (rest := [.int r239_64]) hZ (cM_special l D cR c1 c2 c3 m0 a1 a2 a3 (CX x0 ra v1 v2 v3 cR g_18 [] ++ PL LP f239_64) ka_18 na_18 ea_18 kb_18 nb_18 eb_18 k_18 n_18 e_18 bits_18 scale_18 K_18 N_18 E_18 v233_61 v238_63 (by exact hAK_18)) zyM_special (z_goodV ml_L_29 im_M_special se_M_special in_M co_M_special) 0 rfl rfl rfl rfl (by decide) rfl rfl (Nat.le_of_ble_eq_true rfl) (by decide) dL_law_253 (z_ki (fun r253_69 w1 tys1 hp => ?_))
          obtain ⟨k253_69, n253_69, e253_69, K253_69, N253_69, E253_69, rfl, rfl, p253_69⟩ := hp
          refine z_toC hZ ?_
          refine z_icmp_eq (pc := 256) hZ 556 dL_law_256 (by decide) (fun c256_70 => ?_) (fun c256_70 => ?_)
          · exact z_sub (pc := 556) hZ [0, 1, 2, 3] rfl (J556 E253_69 K253_69 N253_69 bits_18 e253_69 ea_18 eb_18 f239_64 g_18 k253_69 ka_18 kb_18 n253_69 na_18 nb_18 scale_18 (by exact hH_18) (by exact p253_69.2))
          · exact absurd (eq_ok p239_64 p253_69.1) c256_70
        by_cases w32_3 : v31_4 = 3
        · refine z_tabAt (pc := 32) hZ 3 261 w32_3 dL_law_32 (by decide) (by decide) rfl (by decide) ?_
          refine z_aload_n (pc := 261) hZ 1 dL_law_261 rfl rfl ?_
          refine z_aload_n (pc := 262) hZ 0 dL_law_262 rfl rfl ?_
          refine z_iload_n (pc := 263) hZ 3 dL_law_263 rfl rfl ?_
          refine z_iconst (pc := 264) hZ 1 dL_law_264 (by decide) ?_
          refine z_iadd (pc := 265) hZ dL_law_265 (fun v265_71 ev265_71 => ?_)
          refine hsd _ _ _ 266 _ _ _ _ (lw_ix 1 hL i18 LI (by decide) ev265_71) dL_law_266 (fun v266_72 ev266_72 => ?_)
          refine z_aload_n (pc := 267) hZ 0 dL_law_267 rfl rfl ?_
          refine z_iload_n (pc := 268) hZ 3 dL_law_268 rfl rfl ?_
          refine z_iconst (pc := 269) hZ 2 dL_law_269 (by decide) ?_
          refine z_iadd (pc := 270) hZ dL_law_270 (fun v270_73 ev270_73 => ?_)
          refine hsd _ _ _ 271 _ _ _ _ (lw_ix 2 hL i18 LI (by decide) ev270_73) dL_law_271 (fun v271_74 ev271_74 => ?_)
          refine z_aload_n (pc := 272) hZ 0 dL_law_272 rfl rfl ?_
          refine z_iload_n (pc := 273) hZ 3 dL_law_273 rfl rfl ?_
          refine z_iconst (pc := 274) hZ 3 dL_law_274 (by decide) ?_
          refine z_iadd (pc := 275) hZ dL_law_275 (fun v275_75 ev275_75 => ?_)
          refine hsd _ _ _ 276 _ _ _ _ (lw_ix 3 hL i18 LI (by decide) ev275_75) dL_law_276 (fun v276_76 ev276_76 => ?_)
          refine z_aload_n (pc := 277) hZ 0 dL_law_277 rfl rfl ?_
          refine z_iload_n (pc := 278) hZ 3 dL_law_278 rfl rfl ?_
          refine z_iconst (pc := 279) hZ 4 dL_law_279 (by decide) ?_
          refine z_iadd (pc := 280) hZ dL_law_280 (fun v280_77 ev280_77 => ?_)
          refine hsd _ _ _ 281 _ _ _ _ (lw_ix 4 hL i18 LI (by decide) ev280_77) dL_law_281 (fun v281_78 ev281_78 => ?_)
          refine z_callV (pc := 282) (As := [.int v266_72, .int v271_74, .int v276_76, .int v281_78]) (rest := []) hZ (cN_operate l D cR c1 c2 c3 x0 ra v1 v2 v3 (MW m0 a1 a2 a3 c1 c2 c3 (ka_18, na_18, ea_18, kb_18, nb_18, eb_18, k_18, n_18, e_18, bits_18, scale_18, K_18, N_18, E_18)) LP f_18 g_18 hH_18 v266_72 v271_74 v276_76 v281_78) zyN_operate (z_goodV ml_L_30 im_N_operate se_N_operate in_N co_N_operate) 0 rfl rfl rfl rfl (by decide) rfl rfl (Nat.le_of_ble_eq_true rfl) (by decide) dL_law_282 (z_ki (fun r282_79 w1 tys1 hp => ?_))
          obtain ⟨f282_79, rfl, rfl, p282_79⟩ := hp
          refine z_aload_n (pc := 285) hZ 2 dL_law_285 rfl rfl ?_
          refine z_aload_n (pc := 286) hZ 0 dL_law_286 rfl rfl ?_
          refine z_iload_n (pc := 287) hZ 3 dL_law_287 rfl rfl ?_
          refine z_iconst (pc := 288) hZ 1 dL_law_288 (by decide) ?_
          refine z_iadd (pc := 289) hZ dL_law_289 (fun v289_80 ev289_80 => ?_)
          refine hsd _ _ _ 290 _ _ _ _ (lw_ix 1 hL i18 LI (by decide) ev289_80) dL_law_290 (fun v290_81 ev290_81 => ?_)
          have q9 : v266_72 = v290_81 := by rw [ev290_81, ev266_72, ev289_80, ev265_71]
          subst q9
          refine z_aload_n (pc := 291) hZ 0 dL_law_291 rfl rfl ?_
          refine z_iload_n (pc := 292) hZ 3 dL_law_292 rfl rfl ?_
          refine z_iconst (pc := 293) hZ 2 dL_law_293 (by decide) ?_
          refine z_iadd (pc := 294) hZ dL_law_294 (fun v294_82 ev294_82 => ?_)
          refine hsd _ _ _ 295 _ _ _ _ (lw_ix 2 hL i18 LI (by decide) ev294_82) dL_law_295 (fun v295_83 ev295_83 => ?_)
          have q9 : v271_74 = v295_83 := by rw [ev295_83, ev271_74, ev294_82, ev270_73]
          subst q9
          refine z_aload_n (pc := 296) hZ 0 dL_law_296 rfl rfl ?_
          refine z_iload_n (pc := 297) hZ 3 dL_law_297 rfl rfl ?_
          refine z_iconst (pc := 298) hZ 3 dL_law_298 (by decide) ?_
          refine z_iadd (pc := 299) hZ dL_law_299 (fun v299_84 ev299_84 => ?_)
          refine hsd _ _ _ 300 _ _ _ _ (lw_ix 3 hL i18 LI (by decide) ev299_84) dL_law_300 (fun v300_85 ev300_85 => ?_)
          have q9 : v276_76 = v300_85 := by rw [ev300_85, ev276_76, ev299_84, ev275_75]
          subst q9
          refine z_aload_n (pc := 301) hZ 0 dL_law_301 rfl rfl ?_
          refine z_iload_n (pc := 302) hZ 3 dL_law_302 rfl rfl ?_
          refine z_iconst (pc := 303) hZ 4 dL_law_303 (by decide) ?_
          refine z_iadd (pc := 304) hZ dL_law_304 (fun v304_86 ev304_86 => ?_)
          refine hsd _ _ _ 305 _ _ _ _ (lw_ix 4 hL i18 LI (by decide) ev304_86) dL_law_305 (fun v305_87 ev305_87 => ?_)
          have q9 : v281_78 = v305_87 := by rw [ev305_87, ev281_78, ev304_86, ev280_77]
          subst q9
          refine z_toM hZ ?_
          refine z_callV (pc := 306) (As := [.int v266_72, .int v271_74, .int v276_76, .int v281_78]) (rest := [.int r282_79]) hZ (cM_operate l D cR c1 c2 c3 m0 a1 a2 a3 (CX x0 ra v1 v2 v3 cR g_18 [] ++ PL LP f282_79) ka_18 na_18 ea_18 kb_18 nb_18 eb_18 k_18 n_18 e_18 bits_18 scale_18 K_18 N_18 E_18 v266_72 v271_74 v276_76 v281_78 (by exact hAK_18)) zyM_operate (z_goodV ml_L_34 im_M_operate se_M_operate in_M co_M_operate) 0 rfl rfl rfl rfl (by decide) rfl rfl (Nat.le_of_ble_eq_true rfl) (by decide) dL_law_306 (z_ki (fun r306_88 w1 tys1 hp => ?_))
          obtain ⟨ka306_88, na306_88, ea306_88, kb306_88, nb306_88, eb306_88, k306_88, n306_88, e306_88, bits306_88, scale306_88, K306_88, N306_88, E306_88, rfl, rfl, p306_88⟩ := hp
          refine z_toC hZ ?_
          refine z_icmp_eq (pc := 309) hZ 556 dL_law_309 (by decide) (fun c309_89 => ?_) (fun c309_89 => ?_)
          · exact z_sub (pc := 556) hZ [0, 1, 2, 3] rfl (J556 E306_88 K306_88 N306_88 bits306_88 e306_88 ea306_88 eb306_88 f282_79 g_18 k306_88 ka306_88 kb306_88 n306_88 na306_88 nb306_88 scale306_88 (by exact hH_18) (by exact p306_88.1))
          · exact absurd (ans_eq p282_79 p306_88.2 FR.1 FR.2) c309_89
        by_cases w32_4 : v31_4 = 4
        · refine z_tabAt (pc := 32) hZ 4 314 w32_4 dL_law_32 (by decide) (by decide) rfl (by decide) ?_
          refine z_aload_n (pc := 314) hZ 1 dL_law_314 rfl rfl ?_
          refine z_aload_n (pc := 315) hZ 0 dL_law_315 rfl rfl ?_
          refine z_iload_n (pc := 316) hZ 3 dL_law_316 rfl rfl ?_
          refine z_iconst (pc := 317) hZ 1 dL_law_317 (by decide) ?_
          refine z_iadd (pc := 318) hZ dL_law_318 (fun v318_90 ev318_90 => ?_)
          refine hsd _ _ _ 319 _ _ _ _ (lw_ix 1 hL i18 LI (by decide) ev318_90) dL_law_319 (fun v319_91 ev319_91 => ?_)
          refine z_aload_n (pc := 320) hZ 0 dL_law_320 rfl rfl ?_
          refine z_iload_n (pc := 321) hZ 3 dL_law_321 rfl rfl ?_
          refine z_iconst (pc := 322) hZ 2 dL_law_322 (by decide) ?_
          refine z_iadd (pc := 323) hZ dL_law_323 (fun v323_92 ev323_92 => ?_)
          refine hsd _ _ _ 324 _ _ _ _ (lw_ix 2 hL i18 LI (by decide) ev323_92) dL_law_324 (fun v324_93 ev324_93 => ?_)
          refine z_aload_n (pc := 325) hZ 0 dL_law_325 rfl rfl ?_
          refine z_iload_n (pc := 326) hZ 3 dL_law_326 rfl rfl ?_
          refine z_iconst (pc := 327) hZ 3 dL_law_327 (by decide) ?_
          refine z_iadd (pc := 328) hZ dL_law_328 (fun v328_94 ev328_94 => ?_)
          refine hsd _ _ _ 329 _ _ _ _ (lw_ix 3 hL i18 LI (by decide) ev328_94) dL_law_329 (fun v329_95 ev329_95 => ?_)
          refine z_callV (pc := 330) (As := [.int v319_91, .int v324_93, .int v329_95]) (rest := []) hZ (cN_compare l D cR c1 c2 c3 x0 ra v1 v2 v3 (MW m0 a1 a2 a3 c1 c2 c3 (ka_18, na_18, ea_18, kb_18, nb_18, eb_18, k_18, n_18, e_18, bits_18, scale_18, K_18, N_18, E_18)) LP f_18 g_18 hH_18 v319_91 v324_93 v329_95) zyN_compare (z_goodV ml_L_35 im_N_compare se_N_compare in_N co_N_compare) 0 rfl rfl rfl rfl (by decide) rfl rfl (Nat.le_of_ble_eq_true rfl) (by decide) dL_law_330 (z_ki (fun r330_96 w1 tys1 hp => ?_))
          obtain ⟨rfl, rfl, p330_96⟩ := hp
          refine z_aload_n (pc := 333) hZ 2 dL_law_333 rfl rfl ?_
          refine z_aload_n (pc := 334) hZ 0 dL_law_334 rfl rfl ?_
          refine z_iload_n (pc := 335) hZ 3 dL_law_335 rfl rfl ?_
          refine z_iconst (pc := 336) hZ 1 dL_law_336 (by decide) ?_
          refine z_iadd (pc := 337) hZ dL_law_337 (fun v337_97 ev337_97 => ?_)
          refine hsd _ _ _ 338 _ _ _ _ (lw_ix 1 hL i18 LI (by decide) ev337_97) dL_law_338 (fun v338_98 ev338_98 => ?_)
          have q9 : v319_91 = v338_98 := by rw [ev338_98, ev319_91, ev337_97, ev318_90]
          subst q9
          refine z_aload_n (pc := 339) hZ 0 dL_law_339 rfl rfl ?_
          refine z_iload_n (pc := 340) hZ 3 dL_law_340 rfl rfl ?_
          refine z_iconst (pc := 341) hZ 2 dL_law_341 (by decide) ?_
          refine z_iadd (pc := 342) hZ dL_law_342 (fun v342_99 ev342_99 => ?_)
          refine hsd _ _ _ 343 _ _ _ _ (lw_ix 2 hL i18 LI (by decide) ev342_99) dL_law_343 (fun v343_100 ev343_100 => ?_)
          have q9 : v324_93 = v343_100 := by rw [ev343_100, ev324_93, ev342_99, ev323_92]
          subst q9
          refine z_aload_n (pc := 344) hZ 0 dL_law_344 rfl rfl ?_
          refine z_iload_n (pc := 345) hZ 3 dL_law_345 rfl rfl ?_
          refine z_iconst (pc := 346) hZ 3 dL_law_346 (by decide) ?_
          refine z_iadd (pc := 347) hZ dL_law_347 (fun v347_101 ev347_101 => ?_)
          refine hsd _ _ _ 348 _ _ _ _ (lw_ix 3 hL i18 LI (by decide) ev347_101) dL_law_348 (fun v348_102 ev348_102 => ?_)
          have q9 : v329_95 = v348_102 := by rw [ev348_102, ev329_95, ev347_101, ev328_94]
          subst q9
          refine z_toM hZ ?_
          refine z_callV (pc := 349) (As := [.int v319_91, .int v324_93, .int v329_95]) (rest := [.int r330_96]) hZ (cM_compare l D cR c1 c2 c3 m0 a1 a2 a3 (CX x0 ra v1 v2 v3 cR g_18 [] ++ PL LP f_18) ka_18 na_18 ea_18 kb_18 nb_18 eb_18 k_18 n_18 e_18 bits_18 scale_18 K_18 N_18 E_18 v319_91 v324_93 v329_95 (by exact hAK_18)) zyM_compare (z_goodV ml_L_39 im_M_compare se_M_compare in_M co_M_compare) 0 rfl rfl rfl rfl (by decide) rfl rfl (Nat.le_of_ble_eq_true rfl) (by decide) dL_law_349 (z_ki (fun r349_103 w1 tys1 hp => ?_))
          obtain ⟨ka349_103, na349_103, ea349_103, kb349_103, nb349_103, eb349_103, k349_103, n349_103, e349_103, rfl, rfl, p349_103⟩ := hp
          refine z_toC hZ ?_
          refine z_icmp_eq (pc := 352) hZ 556 dL_law_352 (by decide) (fun c352_104 => ?_) (fun c352_104 => ?_)
          · exact z_sub (pc := 556) hZ [0, 1, 2, 3] rfl (J556 E_18 K_18 N_18 bits_18 e349_103 ea349_103 eb349_103 f_18 g_18 k349_103 ka349_103 kb349_103 n349_103 na349_103 nb349_103 scale_18 (by exact hH_18) (by exact hAK_18))
          · exact absurd (ans_eq p330_96 p349_103 FR.1 FR.2) c352_104
        by_cases w32_5 : v31_4 = 5
        · refine z_tabAt (pc := 32) hZ 5 357 w32_5 dL_law_32 (by decide) (by decide) rfl (by decide) ?_
          refine z_aload_n (pc := 357) hZ 1 dL_law_357 rfl rfl ?_
          refine z_aload_n (pc := 358) hZ 0 dL_law_358 rfl rfl ?_
          refine z_iload_n (pc := 359) hZ 3 dL_law_359 rfl rfl ?_
          refine z_iconst (pc := 360) hZ 1 dL_law_360 (by decide) ?_
          refine z_iadd (pc := 361) hZ dL_law_361 (fun v361_105 ev361_105 => ?_)
          refine hsd _ _ _ 362 _ _ _ _ (lw_ix 1 hL i18 LI (by decide) ev361_105) dL_law_362 (fun v362_106 ev362_106 => ?_)
          refine z_callV (pc := 363) (As := [.int v362_106]) (rest := []) hZ (cN_kind l D cR c1 c2 c3 x0 ra v1 v2 v3 (MW m0 a1 a2 a3 c1 c2 c3 (ka_18, na_18, ea_18, kb_18, nb_18, eb_18, k_18, n_18, e_18, bits_18, scale_18, K_18, N_18, E_18)) LP f_18 g_18 hH_18 v362_106) zyN_kind (z_goodV ml_L_40 im_N_kind se_N_kind in_N co_N_kind) 0 rfl rfl rfl rfl (by decide) rfl rfl (Nat.le_of_ble_eq_true rfl) (by decide) dL_law_363 (z_ki (fun r363_107 w1 tys1 hp => ?_))
          obtain ⟨rfl, rfl, p363_107⟩ := hp
          refine z_aload_n (pc := 366) hZ 2 dL_law_366 rfl rfl ?_
          refine z_aload_n (pc := 367) hZ 0 dL_law_367 rfl rfl ?_
          refine z_iload_n (pc := 368) hZ 3 dL_law_368 rfl rfl ?_
          refine z_iconst (pc := 369) hZ 1 dL_law_369 (by decide) ?_
          refine z_iadd (pc := 370) hZ dL_law_370 (fun v370_108 ev370_108 => ?_)
          refine hsd _ _ _ 371 _ _ _ _ (lw_ix 1 hL i18 LI (by decide) ev370_108) dL_law_371 (fun v371_109 ev371_109 => ?_)
          have q9 : v362_106 = v371_109 := by rw [ev371_109, ev362_106, ev370_108, ev361_105]
          subst q9
          refine z_toM hZ ?_
          refine z_callV (pc := 372) (As := [.int v362_106]) (rest := [.int r363_107]) hZ (cM_kind l D cR c1 c2 c3 m0 a1 a2 a3 (CX x0 ra v1 v2 v3 cR g_18 [] ++ PL LP f_18) ka_18 na_18 ea_18 kb_18 nb_18 eb_18 k_18 n_18 e_18 bits_18 scale_18 K_18 N_18 E_18 v362_106 ) zyM_kind (z_goodV ml_L_44 im_M_kind se_M_kind in_M co_M_kind) 0 rfl rfl rfl rfl (by decide) rfl rfl (Nat.le_of_ble_eq_true rfl) (by decide) dL_law_372 (z_ki (fun r372_110 w1 tys1 hp => ?_))
          obtain ⟨rfl, rfl, p372_110⟩ := hp
          refine z_toC hZ ?_
          refine z_icmp_eq (pc := 375) hZ 556 dL_law_375 (by decide) (fun c375_111 => ?_) (fun c375_111 => ?_)
          · exact z_sub (pc := 556) hZ [0, 1, 2, 3] rfl (J556 E_18 K_18 N_18 bits_18 e_18 ea_18 eb_18 f_18 g_18 k_18 ka_18 kb_18 n_18 na_18 nb_18 scale_18 (by exact hH_18) (by exact hAK_18))
          · exact absurd (kind_eq p363_107 p372_110 FR.1 FR.2) c375_111
        by_cases w32_6 : v31_4 = 6
        · refine z_tabAt (pc := 32) hZ 6 380 w32_6 dL_law_32 (by decide) (by decide) rfl (by decide) ?_
          refine z_aload_n (pc := 380) hZ 1 dL_law_380 rfl rfl ?_
          refine z_aload_n (pc := 381) hZ 0 dL_law_381 rfl rfl ?_
          refine z_iload_n (pc := 382) hZ 3 dL_law_382 rfl rfl ?_
          refine z_iconst (pc := 383) hZ 1 dL_law_383 (by decide) ?_
          refine z_iadd (pc := 384) hZ dL_law_384 (fun v384_112 ev384_112 => ?_)
          refine hsd _ _ _ 385 _ _ _ _ (lw_ix 1 hL i18 LI (by decide) ev384_112) dL_law_385 (fun v385_113 ev385_113 => ?_)
          refine z_callV (pc := 386) (As := [.int v385_113]) (rest := []) hZ (cN_number l D cR c1 c2 c3 x0 ra v1 v2 v3 (MW m0 a1 a2 a3 c1 c2 c3 (ka_18, na_18, ea_18, kb_18, nb_18, eb_18, k_18, n_18, e_18, bits_18, scale_18, K_18, N_18, E_18)) LP f_18 g_18 hH_18 v385_113) zyN_number (z_goodV ml_L_45 im_N_number se_N_number in_N co_N_number) 0 rfl rfl rfl rfl (by decide) rfl rfl (Nat.le_of_ble_eq_true rfl) (by decide) dL_law_386 (z_kl (fun r386_114 w1 tys1 hp => ?_))
          obtain ⟨rfl, rfl, p386_114⟩ := hp
          refine z_aload_n (pc := 389) hZ 2 dL_law_389 rfl rfl ?_
          refine z_aload_n (pc := 390) hZ 0 dL_law_390 rfl rfl ?_
          refine z_iload_n (pc := 391) hZ 3 dL_law_391 rfl rfl ?_
          refine z_iconst (pc := 392) hZ 1 dL_law_392 (by decide) ?_
          refine z_iadd (pc := 393) hZ dL_law_393 (fun v393_115 ev393_115 => ?_)
          refine hsd _ _ _ 394 _ _ _ _ (lw_ix 1 hL i18 LI (by decide) ev393_115) dL_law_394 (fun v394_116 ev394_116 => ?_)
          have q9 : v385_113 = v394_116 := by rw [ev394_116, ev385_113, ev393_115, ev384_112]
          subst q9
          refine z_toM hZ ?_
          refine z_callV (pc := 395) (As := [.int v385_113]) (rest := [.long r386_114]) hZ (cM_number l D cR c1 c2 c3 m0 a1 a2 a3 (CX x0 ra v1 v2 v3 cR g_18 [] ++ PL LP f_18) ka_18 na_18 ea_18 kb_18 nb_18 eb_18 k_18 n_18 e_18 bits_18 scale_18 K_18 N_18 E_18 v385_113 ) zyM_number (z_goodV ml_L_49 im_M_number se_M_number in_M co_M_number) 0 rfl rfl rfl rfl (by decide) rfl rfl (Nat.le_of_ble_eq_true rfl) (by decide) dL_law_395 (z_kl (fun r395_117 w1 tys1 hp => ?_))
          obtain ⟨rfl, rfl, p395_117⟩ := hp
          refine z_toC hZ ?_
          refine z_lif_eq (pc := 398) hZ 556 dL_law_398 dL_law_399 (by decide) (fun c399_118 => ?_) (fun c399_118 => ?_)
          · exact z_sub (pc := 556) hZ [0, 1, 2, 3] rfl (J556 E_18 K_18 N_18 bits_18 e_18 ea_18 eb_18 f_18 g_18 k_18 ka_18 kb_18 n_18 na_18 nb_18 scale_18 (by exact hH_18) (by exact hAK_18))
          · exact absurd (number_eq p386_114 p395_117 FR.1 FR.2) c399_118
        by_cases w32_7 : v31_4 = 7
        · refine z_tabAt (pc := 32) hZ 7 404 w32_7 dL_law_32 (by decide) (by decide) rfl (by decide) ?_
          refine z_aload_n (pc := 404) hZ 1 dL_law_404 rfl rfl ?_
          refine z_aload_n (pc := 405) hZ 0 dL_law_405 rfl rfl ?_
          refine z_iload_n (pc := 406) hZ 3 dL_law_406 rfl rfl ?_
          refine z_iconst (pc := 407) hZ 1 dL_law_407 (by decide) ?_
          refine z_iadd (pc := 408) hZ dL_law_408 (fun v408_119 ev408_119 => ?_)
          refine hsd _ _ _ 409 _ _ _ _ (lw_ix 1 hL i18 LI (by decide) ev408_119) dL_law_409 (fun v409_120 ev409_120 => ?_)
          refine z_callV (pc := 410) (As := [.int v409_120]) (rest := []) hZ (cN_exponent l D cR c1 c2 c3 x0 ra v1 v2 v3 (MW m0 a1 a2 a3 c1 c2 c3 (ka_18, na_18, ea_18, kb_18, nb_18, eb_18, k_18, n_18, e_18, bits_18, scale_18, K_18, N_18, E_18)) LP f_18 g_18 hH_18 v409_120) zyN_exponent (z_goodV ml_L_50 im_N_exponent se_N_exponent in_N co_N_exponent) 0 rfl rfl rfl rfl (by decide) rfl rfl (Nat.le_of_ble_eq_true rfl) (by decide) dL_law_410 (z_ki (fun r410_121 w1 tys1 hp => ?_))
          obtain ⟨rfl, rfl, p410_121⟩ := hp
          refine z_aload_n (pc := 413) hZ 2 dL_law_413 rfl rfl ?_
          refine z_aload_n (pc := 414) hZ 0 dL_law_414 rfl rfl ?_
          refine z_iload_n (pc := 415) hZ 3 dL_law_415 rfl rfl ?_
          refine z_iconst (pc := 416) hZ 1 dL_law_416 (by decide) ?_
          refine z_iadd (pc := 417) hZ dL_law_417 (fun v417_122 ev417_122 => ?_)
          refine hsd _ _ _ 418 _ _ _ _ (lw_ix 1 hL i18 LI (by decide) ev417_122) dL_law_418 (fun v418_123 ev418_123 => ?_)
          have q9 : v409_120 = v418_123 := by rw [ev418_123, ev409_120, ev417_122, ev408_119]
          subst q9
          refine z_toM hZ ?_
          refine z_callV (pc := 419) (As := [.int v409_120]) (rest := [.int r410_121]) hZ (cM_exponent l D cR c1 c2 c3 m0 a1 a2 a3 (CX x0 ra v1 v2 v3 cR g_18 [] ++ PL LP f_18) ka_18 na_18 ea_18 kb_18 nb_18 eb_18 k_18 n_18 e_18 bits_18 scale_18 K_18 N_18 E_18 v409_120 ) zyM_exponent (z_goodV ml_L_53 im_M_exponent se_M_exponent in_M co_M_exponent) 0 rfl rfl rfl rfl (by decide) rfl rfl (Nat.le_of_ble_eq_true rfl) (by decide) dL_law_419 (z_ki (fun r419_124 w1 tys1 hp => ?_))
          obtain ⟨rfl, rfl, p419_124⟩ := hp
          refine z_toC hZ ?_
          refine z_icmp_eq (pc := 422) hZ 556 dL_law_422 (by decide) (fun c422_125 => ?_) (fun c422_125 => ?_)
          · exact z_sub (pc := 556) hZ [0, 1, 2, 3] rfl (J556 E_18 K_18 N_18 bits_18 e_18 ea_18 eb_18 f_18 g_18 k_18 ka_18 kb_18 n_18 na_18 nb_18 scale_18 (by exact hH_18) (by exact hAK_18))
          · exact absurd (exponent_eq p410_121 p419_124 FR.1 FR.2) c422_125
        by_cases w32_8 : v31_4 = 8
        · refine z_tabAt (pc := 32) hZ 8 427 w32_8 dL_law_32 (by decide) (by decide) rfl (by decide) ?_
          refine z_aload_n (pc := 427) hZ 1 dL_law_427 rfl rfl ?_
          refine z_aload_n (pc := 428) hZ 0 dL_law_428 rfl rfl ?_
          refine z_iload_n (pc := 429) hZ 3 dL_law_429 rfl rfl ?_
          refine z_iconst (pc := 430) hZ 1 dL_law_430 (by decide) ?_
          refine z_iadd (pc := 431) hZ dL_law_431 (fun v431_126 ev431_126 => ?_)
          refine hsd _ _ _ 432 _ _ _ _ (lw_ix 1 hL i18 LI (by decide) ev431_126) dL_law_432 (fun v432_127 ev432_127 => ?_)
          refine z_aload_n (pc := 433) hZ 0 dL_law_433 rfl rfl ?_
          refine z_iload_n (pc := 434) hZ 3 dL_law_434 rfl rfl ?_
          refine z_iconst (pc := 435) hZ 2 dL_law_435 (by decide) ?_
          refine z_iadd (pc := 436) hZ dL_law_436 (fun v436_128 ev436_128 => ?_)
          refine hsd _ _ _ 437 _ _ _ _ (lw_ix 2 hL i18 LI (by decide) ev436_128) dL_law_437 (fun v437_129 ev437_129 => ?_)
          refine z_aload_n (pc := 438) hZ 0 dL_law_438 rfl rfl ?_
          refine z_iload_n (pc := 439) hZ 3 dL_law_439 rfl rfl ?_
          refine z_iconst (pc := 440) hZ 3 dL_law_440 (by decide) ?_
          refine z_iadd (pc := 441) hZ dL_law_441 (fun v441_130 ev441_130 => ?_)
          refine hsd _ _ _ 442 _ _ _ _ (lw_ix 3 hL i18 LI (by decide) ev441_130) dL_law_442 (fun v442_131 ev442_131 => ?_)
          refine z_callV (pc := 443) (As := [.int v432_127, .int v437_129, .int v442_131]) (rest := []) hZ (cN_sum l D cR c1 c2 c3 x0 ra v1 v2 v3 (MW m0 a1 a2 a3 c1 c2 c3 (ka_18, na_18, ea_18, kb_18, nb_18, eb_18, k_18, n_18, e_18, bits_18, scale_18, K_18, N_18, E_18)) LP f_18 g_18 hH_18 v432_127 v437_129 v442_131) zyN_sum (z_goodV ml_L_54 im_N_sum se_N_sum in_N co_N_sum) 0 rfl rfl rfl rfl (by decide) rfl rfl (Nat.le_of_ble_eq_true rfl) (by decide) dL_law_443 (z_ki (fun r443_132 w1 tys1 hp => ?_))
          obtain ⟨f443_132, rfl, rfl, p443_132⟩ := hp
          refine z_aload_n (pc := 446) hZ 2 dL_law_446 rfl rfl ?_
          refine z_aload_n (pc := 447) hZ 0 dL_law_447 rfl rfl ?_
          refine z_iload_n (pc := 448) hZ 3 dL_law_448 rfl rfl ?_
          refine z_iconst (pc := 449) hZ 1 dL_law_449 (by decide) ?_
          refine z_iadd (pc := 450) hZ dL_law_450 (fun v450_133 ev450_133 => ?_)
          refine hsd _ _ _ 451 _ _ _ _ (lw_ix 1 hL i18 LI (by decide) ev450_133) dL_law_451 (fun v451_134 ev451_134 => ?_)
          have q9 : v432_127 = v451_134 := by rw [ev451_134, ev432_127, ev450_133, ev431_126]
          subst q9
          refine z_aload_n (pc := 452) hZ 0 dL_law_452 rfl rfl ?_
          refine z_iload_n (pc := 453) hZ 3 dL_law_453 rfl rfl ?_
          refine z_iconst (pc := 454) hZ 2 dL_law_454 (by decide) ?_
          refine z_iadd (pc := 455) hZ dL_law_455 (fun v455_135 ev455_135 => ?_)
          refine hsd _ _ _ 456 _ _ _ _ (lw_ix 2 hL i18 LI (by decide) ev455_135) dL_law_456 (fun v456_136 ev456_136 => ?_)
          have q9 : v437_129 = v456_136 := by rw [ev456_136, ev437_129, ev455_135, ev436_128]
          subst q9
          refine z_aload_n (pc := 457) hZ 0 dL_law_457 rfl rfl ?_
          refine z_iload_n (pc := 458) hZ 3 dL_law_458 rfl rfl ?_
          refine z_iconst (pc := 459) hZ 3 dL_law_459 (by decide) ?_
          refine z_iadd (pc := 460) hZ dL_law_460 (fun v460_137 ev460_137 => ?_)
          refine hsd _ _ _ 461 _ _ _ _ (lw_ix 3 hL i18 LI (by decide) ev460_137) dL_law_461 (fun v461_138 ev461_138 => ?_)
          have q9 : v442_131 = v461_138 := by rw [ev461_138, ev442_131, ev460_137, ev441_130]
          subst q9
          refine z_toM hZ ?_
          refine z_callV (pc := 462) (As := [.int v432_127, .int v437_129, .int v442_131]) (rest := [.int r443_132]) hZ (cM_sum l D cR c1 c2 c3 m0 a1 a2 a3 (CX x0 ra v1 v2 v3 cR g_18 [] ++ PL LP f443_132) ka_18 na_18 ea_18 kb_18 nb_18 eb_18 k_18 n_18 e_18 bits_18 scale_18 K_18 N_18 E_18 v432_127 v437_129 v442_131 (by exact hAK_18)) zyM_sum (z_goodV ml_L_58 im_M_sum se_M_sum in_M co_M_sum) 0 rfl rfl rfl rfl (by decide) rfl rfl (Nat.le_of_ble_eq_true rfl) (by decide) dL_law_462 (z_ki (fun r462_139 w1 tys1 hp => ?_))
          obtain ⟨ka462_139, na462_139, ea462_139, kb462_139, nb462_139, eb462_139, k462_139, n462_139, e462_139, bits462_139, scale462_139, K462_139, N462_139, E462_139, rfl, rfl, p462_139⟩ := hp
          refine z_toC hZ ?_
          refine z_icmp_eq (pc := 465) hZ 556 dL_law_465 (by decide) (fun c465_140 => ?_) (fun c465_140 => ?_)
          · exact z_sub (pc := 556) hZ [0, 1, 2, 3] rfl (J556 E462_139 K462_139 N462_139 bits462_139 e462_139 ea462_139 eb462_139 f443_132 g_18 k462_139 ka462_139 kb462_139 n462_139 na462_139 nb462_139 scale462_139 (by exact hH_18) (by exact p462_139.2))
          · exact absurd (eq_ok p443_132 p462_139.1) c465_140
        by_cases w32_9 : v31_4 = 9
        · refine z_tabAt (pc := 32) hZ 9 470 w32_9 dL_law_32 (by decide) (by decide) rfl (by decide) ?_
          refine z_aload_n (pc := 470) hZ 1 dL_law_470 rfl rfl ?_
          refine z_aload_n (pc := 471) hZ 0 dL_law_471 rfl rfl ?_
          refine z_iload_n (pc := 472) hZ 3 dL_law_472 rfl rfl ?_
          refine z_iconst (pc := 473) hZ 1 dL_law_473 (by decide) ?_
          refine z_iadd (pc := 474) hZ dL_law_474 (fun v474_141 ev474_141 => ?_)
          refine hsd _ _ _ 475 _ _ _ _ (lw_ix 1 hL i18 LI (by decide) ev474_141) dL_law_475 (fun v475_142 ev475_142 => ?_)
          refine z_aload_n (pc := 476) hZ 0 dL_law_476 rfl rfl ?_
          refine z_iload_n (pc := 477) hZ 3 dL_law_477 rfl rfl ?_
          refine z_iconst (pc := 478) hZ 2 dL_law_478 (by decide) ?_
          refine z_iadd (pc := 479) hZ dL_law_479 (fun v479_143 ev479_143 => ?_)
          refine hsd _ _ _ 480 _ _ _ _ (lw_ix 2 hL i18 LI (by decide) ev479_143) dL_law_480 (fun v480_144 ev480_144 => ?_)
          refine z_aload_n (pc := 481) hZ 0 dL_law_481 rfl rfl ?_
          refine z_iload_n (pc := 482) hZ 3 dL_law_482 rfl rfl ?_
          refine z_iconst (pc := 483) hZ 3 dL_law_483 (by decide) ?_
          refine z_iadd (pc := 484) hZ dL_law_484 (fun v484_145 ev484_145 => ?_)
          refine hsd _ _ _ 485 _ _ _ _ (lw_ix 3 hL i18 LI (by decide) ev484_145) dL_law_485 (fun v485_146 ev485_146 => ?_)
          refine z_aload_n (pc := 486) hZ 0 dL_law_486 rfl rfl ?_
          refine z_iload_n (pc := 487) hZ 3 dL_law_487 rfl rfl ?_
          refine z_iconst (pc := 488) hZ 4 dL_law_488 (by decide) ?_
          refine z_iadd (pc := 489) hZ dL_law_489 (fun v489_147 ev489_147 => ?_)
          refine hsd _ _ _ 490 _ _ _ _ (lw_ix 4 hL i18 LI (by decide) ev489_147) dL_law_490 (fun v490_148 ev490_148 => ?_)
          refine z_callV (pc := 491) (As := [.int v475_142, .int v480_144, .int v485_146, .int v490_148]) (rest := []) hZ (cN_polynomial l D cR c1 c2 c3 x0 ra v1 v2 v3 (MW m0 a1 a2 a3 c1 c2 c3 (ka_18, na_18, ea_18, kb_18, nb_18, eb_18, k_18, n_18, e_18, bits_18, scale_18, K_18, N_18, E_18)) LP f_18 g_18 hH_18 v475_142 v480_144 v485_146 v490_148) zyN_polynomial (z_goodV ml_L_59 im_N_polynomial se_N_polynomial in_N co_N_polynomial) 0 rfl rfl rfl rfl (by decide) rfl rfl (Nat.le_of_ble_eq_true rfl) (by decide) dL_law_491 (z_ki (fun r491_149 w1 tys1 hp => ?_))
          obtain ⟨f491_149, rfl, rfl, p491_149⟩ := hp
          refine z_aload_n (pc := 494) hZ 2 dL_law_494 rfl rfl ?_
          refine z_aload_n (pc := 495) hZ 0 dL_law_495 rfl rfl ?_
          refine z_iload_n (pc := 496) hZ 3 dL_law_496 rfl rfl ?_
          refine z_iconst (pc := 497) hZ 1 dL_law_497 (by decide) ?_
          refine z_iadd (pc := 498) hZ dL_law_498 (fun v498_150 ev498_150 => ?_)
          refine hsd _ _ _ 499 _ _ _ _ (lw_ix 1 hL i18 LI (by decide) ev498_150) dL_law_499 (fun v499_151 ev499_151 => ?_)
          have q9 : v475_142 = v499_151 := by rw [ev499_151, ev475_142, ev498_150, ev474_141]
          subst q9
          refine z_aload_n (pc := 500) hZ 0 dL_law_500 rfl rfl ?_
          refine z_iload_n (pc := 501) hZ 3 dL_law_501 rfl rfl ?_
          refine z_iconst (pc := 502) hZ 2 dL_law_502 (by decide) ?_
          refine z_iadd (pc := 503) hZ dL_law_503 (fun v503_152 ev503_152 => ?_)
          refine hsd _ _ _ 504 _ _ _ _ (lw_ix 2 hL i18 LI (by decide) ev503_152) dL_law_504 (fun v504_153 ev504_153 => ?_)
          have q9 : v480_144 = v504_153 := by rw [ev504_153, ev480_144, ev503_152, ev479_143]
          subst q9
          refine z_aload_n (pc := 505) hZ 0 dL_law_505 rfl rfl ?_
          refine z_iload_n (pc := 506) hZ 3 dL_law_506 rfl rfl ?_
          refine z_iconst (pc := 507) hZ 3 dL_law_507 (by decide) ?_
          refine z_iadd (pc := 508) hZ dL_law_508 (fun v508_154 ev508_154 => ?_)
          refine hsd _ _ _ 509 _ _ _ _ (lw_ix 3 hL i18 LI (by decide) ev508_154) dL_law_509 (fun v509_155 ev509_155 => ?_)
          have q9 : v485_146 = v509_155 := by rw [ev509_155, ev485_146, ev508_154, ev484_145]
          subst q9
          refine z_aload_n (pc := 510) hZ 0 dL_law_510 rfl rfl ?_
          refine z_iload_n (pc := 511) hZ 3 dL_law_511 rfl rfl ?_
          refine z_iconst (pc := 512) hZ 4 dL_law_512 (by decide) ?_
          refine z_iadd (pc := 513) hZ dL_law_513 (fun v513_156 ev513_156 => ?_)
          refine hsd _ _ _ 514 _ _ _ _ (lw_ix 4 hL i18 LI (by decide) ev513_156) dL_law_514 (fun v514_157 ev514_157 => ?_)
          have q9 : v490_148 = v514_157 := by rw [ev514_157, ev490_148, ev513_156, ev489_147]
          subst q9
          refine z_toM hZ ?_
          refine z_callV (pc := 515) (As := [.int v475_142, .int v480_144, .int v485_146, .int v490_148]) (rest := [.int r491_149]) hZ (cM_polynomial l D cR c1 c2 c3 m0 a1 a2 a3 (CX x0 ra v1 v2 v3 cR g_18 [] ++ PL LP f491_149) ka_18 na_18 ea_18 kb_18 nb_18 eb_18 k_18 n_18 e_18 bits_18 scale_18 K_18 N_18 E_18 v475_142 v480_144 v485_146 v490_148 (by exact hAK_18)) zyM_polynomial (z_goodV ml_L_63 im_M_polynomial se_M_polynomial in_M co_M_polynomial) 0 rfl rfl rfl rfl (by decide) rfl rfl (Nat.le_of_ble_eq_true rfl) (by decide) dL_law_515 (z_ki (fun r515_158 w1 tys1 hp => ?_))
          obtain ⟨ka515_158, na515_158, ea515_158, kb515_158, nb515_158, eb515_158, k515_158, n515_158, e515_158, bits515_158, scale515_158, K515_158, N515_158, E515_158, rfl, rfl, p515_158⟩ := hp
          refine z_toC hZ ?_
          refine z_icmp_eq (pc := 518) hZ 556 dL_law_518 (by decide) (fun c518_159 => ?_) (fun c518_159 => ?_)
          · exact z_sub (pc := 556) hZ [0, 1, 2, 3] rfl (J556 E515_158 K515_158 N515_158 bits515_158 e515_158 ea515_158 eb515_158 f491_149 g_18 k515_158 ka515_158 kb515_158 n515_158 na515_158 nb515_158 scale515_158 (by exact hH_18) (by exact p515_158.2))
          · exact absurd (eq_ok p491_149 p515_158.1) c518_159
        by_cases w32_10 : v31_4 = 10
        · refine z_tabAt (pc := 32) hZ 10 523 w32_10 dL_law_32 (by decide) (by decide) rfl (by decide) ?_
          refine z_aload_n (pc := 523) hZ 1 dL_law_523 rfl rfl ?_
          refine z_aload_n (pc := 524) hZ 0 dL_law_524 rfl rfl ?_
          refine z_iload_n (pc := 525) hZ 3 dL_law_525 rfl rfl ?_
          refine z_iconst (pc := 526) hZ 1 dL_law_526 (by decide) ?_
          refine z_iadd (pc := 527) hZ dL_law_527 (fun v527_160 ev527_160 => ?_)
          refine hsd _ _ _ 528 _ _ _ _ (lw_ix 1 hL i18 LI (by decide) ev527_160) dL_law_528 (fun v528_161 ev528_161 => ?_)
          refine z_aload_n (pc := 529) hZ 0 dL_law_529 rfl rfl ?_
          refine z_iload_n (pc := 530) hZ 3 dL_law_530 rfl rfl ?_
          refine z_iconst (pc := 531) hZ 2 dL_law_531 (by decide) ?_
          refine z_iadd (pc := 532) hZ dL_law_532 (fun v532_162 ev532_162 => ?_)
          refine hsd _ _ _ 533 _ _ _ _ (lw_ix 2 hL i18 LI (by decide) ev532_162) dL_law_533 (fun v533_163 ev533_163 => ?_)
          refine z_callV (pc := 534) (As := [.int v528_161, .int v533_163]) (rest := []) hZ (cN_sort l D cR c1 c2 c3 x0 ra v1 v2 v3 (MW m0 a1 a2 a3 c1 c2 c3 (ka_18, na_18, ea_18, kb_18, nb_18, eb_18, k_18, n_18, e_18, bits_18, scale_18, K_18, N_18, E_18)) LP f_18 g_18 hH_18 v528_161 v533_163) zyN_sort (z_goodV ml_L_64 im_N_sort se_N_sort in_N co_N_sort) 0 rfl rfl rfl rfl (by decide) rfl rfl (Nat.le_of_ble_eq_true rfl) (by decide) dL_law_534 (z_ki (fun r534_164 w1 tys1 hp => ?_))
          obtain ⟨f534_164, g534_164, rfl, rfl, hg534_164, p534_164⟩ := hp
          refine z_aload_n (pc := 537) hZ 2 dL_law_537 rfl rfl ?_
          refine z_aload_n (pc := 538) hZ 0 dL_law_538 rfl rfl ?_
          refine z_iload_n (pc := 539) hZ 3 dL_law_539 rfl rfl ?_
          refine z_iconst (pc := 540) hZ 1 dL_law_540 (by decide) ?_
          refine z_iadd (pc := 541) hZ dL_law_541 (fun v541_165 ev541_165 => ?_)
          refine hsd _ _ _ 542 _ _ _ _ (lw_ix 1 hL i18 LI (by decide) ev541_165) dL_law_542 (fun v542_166 ev542_166 => ?_)
          have q9 : v528_161 = v542_166 := by rw [ev542_166, ev528_161, ev541_165, ev527_160]
          subst q9
          refine z_aload_n (pc := 543) hZ 0 dL_law_543 rfl rfl ?_
          refine z_iload_n (pc := 544) hZ 3 dL_law_544 rfl rfl ?_
          refine z_iconst (pc := 545) hZ 2 dL_law_545 (by decide) ?_
          refine z_iadd (pc := 546) hZ dL_law_546 (fun v546_167 ev546_167 => ?_)
          refine hsd _ _ _ 547 _ _ _ _ (lw_ix 2 hL i18 LI (by decide) ev546_167) dL_law_547 (fun v547_168 ev547_168 => ?_)
          have q9 : v533_163 = v547_168 := by rw [ev547_168, ev533_163, ev546_167, ev532_162]
          subst q9
          refine z_toM hZ ?_
          refine z_callV (pc := 548) (As := [.int v528_161, .int v533_163]) (rest := [.int r534_164]) hZ (cM_sort l D cR c1 c2 c3 m0 a1 a2 a3 (CX x0 ra v1 v2 v3 cR g534_164 [] ++ PL LP f534_164) ka_18 na_18 ea_18 kb_18 nb_18 eb_18 k_18 n_18 e_18 bits_18 scale_18 K_18 N_18 E_18 v528_161 v533_163 (by exact hAK_18)) zyM_sort (z_goodV ml_L_67 im_M_sort se_M_sort in_M co_M_sort) 0 rfl rfl rfl rfl (by decide) rfl rfl (Nat.le_of_ble_eq_true rfl) (by decide) dL_law_548 (z_ki (fun r548_169 w1 tys1 hp => ?_))
          obtain ⟨ka548_169, na548_169, ea548_169, kb548_169, nb548_169, eb548_169, k548_169, n548_169, e548_169, K548_169, N548_169, E548_169, rfl, rfl, p548_169⟩ := hp
          refine z_toC hZ ?_
          refine z_icmp_eq (pc := 551) hZ 556 dL_law_551 (by decide) (fun c551_170 => ?_) (fun c551_170 => ?_)
          · exact z_sub (pc := 556) hZ [0, 1, 2, 3] rfl (J556 E548_169 K548_169 N548_169 bits_18 e548_169 ea548_169 eb548_169 f534_164 g534_164 k548_169 ka548_169 kb548_169 n548_169 na548_169 nb548_169 scale_18 (by exact hg534_164) (by exact p548_169.2))
          · exact absurd (eq_ok p534_164 p548_169.1) c551_170
        refine z_tabOut (pc := 32) hZ 556 dL_law_32 (by have n0 := lv_neT w32_0 (a := 0) (by decide); have n1 := lv_neT w32_1 (a := 1) (by decide); have n2 := lv_neT w32_2 (a := 2) (by decide); have n3 := lv_neT w32_3 (a := 3) (by decide); have n4 := lv_neT w32_4 (a := 4) (by decide); have n5 := lv_neT w32_5 (a := 5) (by decide); have n6 := lv_neT w32_6 (a := 6) (by decide); have n7 := lv_neT w32_7 (a := 7) (by decide); have n8 := lv_neT w32_8 (a := 8) (by decide); have n9 := lv_neT w32_9 (a := 9) (by decide); have n10 := lv_neT w32_10 (a := 10) (by decide); omega) (by decide) ?_
        exact z_sub (pc := 556) hZ [0, 1, 2, 3] rfl (J556 E_18 K_18 N_18 bits_18 e_18 ea_18 eb_18 f_18 g_18 k_18 ka_18 kb_18 n_18 na_18 nb_18 scale_18 (by exact hH_18) (by exact hAK_18))
  exact z_sub (pc := 18) hZ [0, 1, 2, 3] rfl (L18 _ 0 E K N bits e ea eb f g k ka kb n na nb scale (Nat.lt_succ_self _) (by exact hH) (by exact hAK) (by exact lw_00) (by exact fun _ => hFR))
set_option maxHeartbeats 8000000 in
set_option maxRecDepth 100000 in
theorem law_walk (l : Launch) (D : va_G) {Z : zZ} (hZ : zI l D vwCl zNF zNM RL bL_law 4 ret wsL_law room_1 600148 7301804 (fun v _ _ => v = some (.int 1)) false Z) {b L : Nat} {xs : Nat → Int32} (hL : L ≤ 2560) (hL5 : L ≤ 5)
    (hsl : ∀ (k n : Nat) (tys : zT) (pc : Nat) (lv : List (Nat × Value)) (st : List Value) (w : va_W), decode bL_law pc = .ok (.arraylength, 1) → Z k n tys (pc + 1) lv (.int (Int32.ofNat L) :: st) w → Z k n tys pc lv (.ref b :: st) w)
    (hsd : ∀ (k n : Nat) (tys : zT) (pc : Nat) (lv : List (Nat × Value)) (st : List Value) (w : va_W) (i : Int32), vp_in i L → decode bL_law pc = .ok (.iaload, 1) → (∀ v : Int32, v = xs i.toNatClampNeg → Z k n tys (pc + 1) lv (.int v :: st) w) → Z k n tys pc lv (.int i :: .ref b :: st) w) :
    Z 0 0 [] 0 [(0, .ref b)] [] [] := by
  refine z_new (pc := 0) (ci := 1) (fs := [.null, .null, .null, .null]) hZ uc_N tyN tyN_ok (zb cl_L_7) (zb ins_N) (zb in_N) rfl (fun j hj => by rcases (show j = 0 ∨ j = 1 ∨ j = 2 ∨ j = 3 by omega) with rfl | rfl | rfl | rfl <;> rfl) (by decide) (by decide) dL_law_0 (fun x0 => ?_)
  refine z_dup (pc := 3) hZ dL_law_3 rfl ?_
  refine z_callI (pc := 4) (As := []) (rest := [.ref x0]) hZ (cN_init l D x0) zyN_init (z_good co_N_init) (zb in_N) (zb ml_L_9) (zb im_N_init) rfl (by decide) rfl rfl (Nat.le_of_ble_eq_true rfl) (by decide) dL_law_4 (z_kv (fun w1 tys1 hp => ?_))
  obtain ⟨ra, v1, v2, v3, cR, g, LP, f, rfl, rfl, hH, hf0⟩ := hp
  refine z_widen (pc := 7) (k' := 37) (n' := 141) hZ (by decide) (by decide) ?_
  refine z_astore_n (pc := 7) hZ [(1, .ref x0), (0, .ref b)] dL_law_7 rfl (by decide) rfl ?_
  refine z_new (pc := 8) (ci := 2) (fs := M0) hZ uc_M tyM tyM_ok (zb cl_L_10) (zb ins_M) (zb in_M) rfl (fun j hj => by rcases (show j = 0 ∨ j = 1 ∨ j = 2 ∨ j = 3 ∨ j = 4 ∨ j = 5 ∨ j = 6 ∨ j = 7 ∨ j = 8 ∨ j = 9 ∨ j = 10 ∨ j = 11 ∨ j = 12 ∨ j = 13 by omega) with rfl | rfl | rfl | rfl | rfl | rfl | rfl | rfl | rfl | rfl | rfl | rfl | rfl | rfl <;> rfl) (by decide) (by decide) dL_law_8 (fun m0 => ?_)
  refine z_swap hZ (a := []) (b := CX x0 ra v1 v2 v3 cR g [] ++ PL LP f) (c := [(m0, .inr (2, M0))]) ?_
  refine z_dup (pc := 11) hZ dL_law_11 rfl ?_
  refine z_callI (pc := 12) (As := []) (rest := [.ref m0]) hZ (cM_init l D cR m0 (CX x0 ra v1 v2 v3 cR g [] ++ PL LP f)) zyM_init (z_good co_M_init) (zb in_M) (zb ml_L_12) (zb im_M_init) rfl (by decide) rfl rfl (Nat.le_of_ble_eq_true rfl) (by decide) dL_law_12 (z_kv (fun w1 tys1 hp => ?_))
  obtain ⟨a1, a2, a3, c1, c2, c3, K, rfl, rfl, hK1⟩ := hp
  refine z_toC hZ ?_
  refine z_widen (pc := 15) (k' := 41) (n' := 251) hZ (by decide) (by decide) ?_
  refine z_astore_n (pc := 15) hZ [(2, .ref m0), (1, .ref x0), (0, .ref b)] dL_law_15 rfl (by decide) rfl ?_
  refine z_iconst (pc := 16) hZ 0 dL_law_16 (by decide) ?_
  refine z_istore_n (pc := 17) hZ [(3, .int 0), (2, .ref m0), (1, .ref x0), (0, .ref b)] dL_law_17 rfl (by decide) rfl ?_
  exact z_sub (pc := 18) hZ [3, 2, 1, 0] rfl (law_loop l D hZ hL hL5 hsl hsd cR c1 c2 c3 x0 ra v1 v2 v3 m0 a1 a2 a3 LP f g hH 0 0 0 0 0 0 0 0 0 0 0 K (fun _ => 0) (fun _ => 0) (AK_0 hK1) ⟨hf0, fun j hj => ⟨hK1 j hj, rfl, rfl⟩⟩)
