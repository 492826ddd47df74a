set_option maxHeartbeats 8000000 in
set_option maxRecDepth 100000 in
theorem law_loop (l : Launch) (D : va_G) {Z : zZ} (hZ : zI l D vwCl zNF zNM RL bL_law 4 ret wsL_law room_1 600000 7302250 (fun v _ _ => v = some (.int 1)) false Z) {b L : Nat} {xs : Nat → Int32} (hL : L ≤ 2560)
    (hsl : ∀ (k n : Nat) (tys : zT) (pc : Nat) (lv : List (Nat × Value)) (st : List Value) (w : va_W), decode bL_law pc = .ok (.arraylength, 1) → Z k n tys (pc + 1) lv (.int (Int32.ofNat L) :: st) w → Z k n tys pc lv (.ref b :: st) w)
    (hsd : ∀ (k n : Nat) (tys : zT) (pc : Nat) (lv : List (Nat × Value)) (st : List Value) (w : va_W) (i : Int32), vp_in i L → decode bL_law pc = .ok (.iaload, 1) → (∀ v : Int32, v = xs i.toNatClampNeg → Z k n tys (pc + 1) lv (.int v :: st) w) → Z k n tys pc lv (.int i :: .ref b :: st) w)
    (cR c1 c2 c3 : ClassId) (x0 ra v1 v2 v3 m0 a1 a2 a3 : Nat) (LP : List Nat) (f : Nat → V3) (g : Nat → Option Nat) (hH : zH LP v1 v2 v3 g) (ka : Int32) (na : Int64) (ea : Int32) (kb : Int32) (nb : Int64) (eb : Int32) (k : Int32) (n : Int64) (e : Int32) (bits : Int64) (scale : Int32) (K : Nat → Int32) (N : Nat → Int64) (E : Nat → Int32) (hAK : AK K N E) (hS : SIM v1 v2 v3 f g K N E) :
    Z 41 251 (TY cR c1 c2 c3) 18 [(0, .ref b), (1, .ref x0), (2, .ref m0), (3, .int 0)] [] (CX x0 ra v1 v2 v3 cR g (MW m0 a1 a2 a3 c1 c2 c3 (ka, na, ea, kb, nb, eb, k, n, e, bits, scale, K, N, E)) ++ PL LP f) := by
  have L18 : ∀ (N18 : Nat) (x3_18 : Int32) (E_18 : Nat → Int32) (K_18 : Nat → Int32) (N_18 : Nat → Int64) (bits_18 : Int64) (e_18 : Int32) (ea_18 : Int32) (eb_18 : Int32) (f_18 : Nat → V3) (g_18 : Nat → Option Nat) (k_18 : Int32) (ka_18 : Int32) (kb_18 : Int32) (n_18 : Int64) (na_18 : Int64) (nb_18 : Int64) (scale_18 : Int32), ((L : Int) - x3_18.toInt).toNat < N18 → (zH LP v1 v2 v3 g_18) → (AK K_18 N_18 E_18) → (SIM v1 v2 v3 f_18 g_18 K_18 N_18 E_18) → (0 ≤ x3_18.toInt ∧ x3_18.toInt ≤ (L : Int)) → Z 41 251 (TY cR c1 c2 c3) 18 [(0, .ref b), (1, .ref x0), (2, .ref m0), (3, .int x3_18)] [] (CX x0 ra v1 v2 v3 cR g_18 (MW m0 a1 a2 a3 c1 c2 c3 (ka_18, na_18, ea_18, kb_18, nb_18, eb_18, k_18, n_18, e_18, bits_18, scale_18, K_18, N_18, E_18)) ++ PL LP f_18) := by
    intro N18
    induction N18 with
    | zero => intro x3_18 E_18 K_18 N_18 bits_18 e_18 ea_18 eb_18 f_18 g_18 k_18 ka_18 kb_18 n_18 na_18 nb_18 scale_18 m18; exact absurd m18 (Nat.not_lt_zero _)
    | succ N18 ih18 =>
      intro x3_18 E_18 K_18 N_18 bits_18 e_18 ea_18 eb_18 f_18 g_18 k_18 ka_18 kb_18 n_18 na_18 nb_18 scale_18 m18 hH_18 hAK_18 hS_18 i18
      refine z_iload_n (pc := 18) hZ 3 dL_law_18 rfl rfl ?_
      refine z_aload_n (pc := 19) hZ 0 dL_law_19 rfl rfl ?_
      refine hsl _ _ _ 20 _ _ _ dL_law_20 ?_
      refine z_iconst (pc := 21) hZ 5 dL_law_21 (by decide) ?_
      refine z_isub (pc := 22) hZ dL_law_22 (fun v22_1 ev22_1 => ?_)
      refine z_icmp_gt (pc := 23) hZ 561 dL_law_23 (by decide) (fun c23_2 => ?_) (fun c23_2 => ?_)
      · refine z_iconst (pc := 561) hZ 1 dL_law_561 (by decide) ?_
        refine z_widen (pc := 562) (k' := 600000) (n' := 7302250) hZ (by decide) (by decide) ?_
        exact z_reti (pc := 562) hZ dL_law_562 .boolean rfl rfl rfl
      · have LI := lw_i hL ev22_1 c23_2
        refine z_aload_n (pc := 26) hZ 0 dL_law_26 rfl rfl ?_
        refine z_iload_n (pc := 27) hZ 3 dL_law_27 rfl rfl ?_
        refine hsd _ _ _ 28 _ _ _ _ (lw_i0 i18 LI) dL_law_28 (fun v28_3 ev28_3 => ?_)
        refine z_bipush (pc := 29) hZ 15 dL_law_29 (by decide) ?_
        refine z_iand (pc := 31) hZ dL_law_31 (fun v31_4 ev31_4 => ?_)
        have J555 : ∀ (E_555 : Nat → Int32) (K_555 : Nat → Int32) (N_555 : Nat → Int64) (bits_555 : Int64) (e_555 : Int32) (ea_555 : Int32) (eb_555 : Int32) (f_555 : Nat → V3) (g_555 : Nat → Option Nat) (k_555 : Int32) (ka_555 : Int32) (kb_555 : Int32) (n_555 : Int64) (na_555 : Int64) (nb_555 : Int64) (scale_555 : Int32), (zH LP v1 v2 v3 g_555) → (AK K_555 N_555 E_555) → (SIM v1 v2 v3 f_555 g_555 K_555 N_555 E_555) → Z 41 251 (TY cR c1 c2 c3) 555 [(0, .ref b), (1, .ref x0), (2, .ref m0), (3, .int x3_18)] [] (CX x0 ra v1 v2 v3 cR g_555 (MW m0 a1 a2 a3 c1 c2 c3 (ka_555, na_555, ea_555, kb_555, nb_555, eb_555, k_555, n_555, e_555, bits_555, scale_555, K_555, N_555, E_555)) ++ PL LP f_555) := by
          intro E_555 K_555 N_555 bits_555 e_555 ea_555 eb_555 f_555 g_555 k_555 ka_555 kb_555 n_555 na_555 nb_555 scale_555 hH_555 hAK_555 hS_555
          refine z_iinc (pc := 555) hZ 3 (fun v9 => [(3, .int v9), (0, .ref b), (1, .ref x0), (2, .ref m0)]) dL_law_555 rfl (by decide) (fun _ => rfl) (fun v555_5 ev555_5 => ?_)
          refine z_goto (pc := 558) hZ 18 dL_law_558 (by decide) ?_
          exact z_sub (pc := 18) hZ [1, 2, 3, 0] rfl (ih18 v555_5 E_555 K_555 N_555 bits_555 e_555 ea_555 eb_555 f_555 g_555 k_555 ka_555 kb_555 n_555 na_555 nb_555 scale_555 (by exact Nat.lt_of_lt_of_le (lw_n hL i18 LI ev555_5).2 (Nat.le_of_lt_succ m18)) (by exact hH_555) (by exact hAK_555) (by exact hS_555) (by exact (lw_n hL i18 LI ev555_5).1))
        by_cases w32_0 : v31_4 = 0
        · refine z_tabAt (pc := 32) hZ 0 92 w32_0 dL_law_32 (by decide) (by decide) rfl (by decide) ?_
          refine z_aload_n (pc := 92) hZ 1 dL_law_92 rfl rfl ?_
          refine z_aload_n (pc := 93) hZ 0 dL_law_93 rfl rfl ?_
          refine z_iload_n (pc := 94) hZ 3 dL_law_94 rfl rfl ?_
          refine z_iconst (pc := 95) hZ 1 dL_law_95 (by decide) ?_
          refine z_iadd (pc := 96) hZ dL_law_96 (fun v96_6 ev96_6 => ?_)
          refine hsd _ _ _ 97 _ _ _ _ (lw_ix 1 hL i18 LI (by decide) ev96_6) dL_law_97 (fun v97_7 ev97_7 => ?_)
          refine z_aload_n (pc := 98) hZ 0 dL_law_98 rfl rfl ?_
          refine z_iload_n (pc := 99) hZ 3 dL_law_99 rfl rfl ?_
          refine z_iconst (pc := 100) hZ 2 dL_law_100 (by decide) ?_
          refine z_iadd (pc := 101) hZ dL_law_101 (fun v101_8 ev101_8 => ?_)
          refine hsd _ _ _ 102 _ _ _ _ (lw_ix 2 hL i18 LI (by decide) ev101_8) dL_law_102 (fun v102_9 ev102_9 => ?_)
          refine z_i2l (pc := 103) hZ dL_law_103 (fun v103_10 ev103_10 => ?_)
          refine z_bipush (pc := 104) hZ 32 dL_law_104 (by decide) ?_
          refine z_lshl (pc := 106) hZ dL_law_106 (fun v106_11 ev106_11 => ?_)
          refine z_aload_n (pc := 107) hZ 0 dL_law_107 rfl rfl ?_
          refine z_iload_n (pc := 108) hZ 3 dL_law_108 rfl rfl ?_
          refine z_iconst (pc := 109) hZ 3 dL_law_109 (by decide) ?_
          refine z_iadd (pc := 110) hZ dL_law_110 (fun v110_12 ev110_12 => ?_)
          refine hsd _ _ _ 111 _ _ _ _ (lw_ix 3 hL i18 LI (by decide) ev110_12) dL_law_111 (fun v111_13 ev111_13 => ?_)
          refine z_i2l (pc := 112) hZ dL_law_112 (fun v112_14 ev112_14 => ?_)
          refine z_ldc2 (pc := 113) hZ 4294967295 (zb kc_L_13) dL_law_113 ?_
          refine z_land (pc := 116) hZ dL_law_116 (fun v116_15 ev116_15 => ?_)
          refine z_lor (pc := 117) hZ dL_law_117 (fun v117_16 ev117_16 => ?_)
          refine z_callV (pc := 118) (As := [.int v97_7, .long v117_16]) (rest := []) hZ (cN_whole l D cR c1 c2 c3 x0 ra v1 v2 v3 (MW m0 a1 a2 a3 c1 c2 c3 (ka_18, na_18, ea_18, kb_18, nb_18, eb_18, k_18, n_18, e_18, bits_18, scale_18, K_18, N_18, E_18)) LP f_18 g_18 hH_18 v97_7 v117_16) zyN_whole (z_goodV ml_L_15 im_N_whole se_N_whole in_N co_N_whole) 0 rfl rfl rfl rfl (by decide) rfl rfl (Nat.le_of_ble_eq_true rfl) (by decide) dL_law_118 (z_ki (fun r118_17 w1 tys1 hp => ?_))
          obtain ⟨f118_17, rfl, rfl, p118_17⟩ := hp
          refine z_pop (pc := 121) hZ dL_law_121 rfl ?_
          refine z_aload_n (pc := 122) hZ 2 dL_law_122 rfl rfl ?_
          refine z_aload_n (pc := 123) hZ 0 dL_law_123 rfl rfl ?_
          refine z_iload_n (pc := 124) hZ 3 dL_law_124 rfl rfl ?_
          refine z_iconst (pc := 125) hZ 1 dL_law_125 (by decide) ?_
          refine z_iadd (pc := 126) hZ dL_law_126 (fun v126_18 ev126_18 => ?_)
          refine hsd _ _ _ 127 _ _ _ _ (lw_ix 1 hL i18 LI (by decide) ev126_18) dL_law_127 (fun v127_19 ev127_19 => ?_)
          have q9 : v97_7 = v127_19 := by rw [ev127_19, ev97_7, ev126_18, ev96_6]
          subst q9
          refine z_aload_n (pc := 128) hZ 0 dL_law_128 rfl rfl ?_
          refine z_iload_n (pc := 129) hZ 3 dL_law_129 rfl rfl ?_
          refine z_iconst (pc := 130) hZ 2 dL_law_130 (by decide) ?_
          refine z_iadd (pc := 131) hZ dL_law_131 (fun v131_20 ev131_20 => ?_)
          refine hsd _ _ _ 132 _ _ _ _ (lw_ix 2 hL i18 LI (by decide) ev131_20) dL_law_132 (fun v132_21 ev132_21 => ?_)
          have q9 : v102_9 = v132_21 := by rw [ev132_21, ev102_9, ev131_20, ev101_8]
          subst q9
          refine z_i2l (pc := 133) hZ dL_law_133 (fun v133_22 ev133_22 => ?_)
          refine z_bipush (pc := 134) hZ 32 dL_law_134 (by decide) ?_
          refine z_lshl (pc := 136) hZ dL_law_136 (fun v136_23 ev136_23 => ?_)
          refine z_aload_n (pc := 137) hZ 0 dL_law_137 rfl rfl ?_
          refine z_iload_n (pc := 138) hZ 3 dL_law_138 rfl rfl ?_
          refine z_iconst (pc := 139) hZ 3 dL_law_139 (by decide) ?_
          refine z_iadd (pc := 140) hZ dL_law_140 (fun v140_24 ev140_24 => ?_)
          refine hsd _ _ _ 141 _ _ _ _ (lw_ix 3 hL i18 LI (by decide) ev140_24) dL_law_141 (fun v141_25 ev141_25 => ?_)
          have q9 : v111_13 = v141_25 := by rw [ev141_25, ev111_13, ev140_24, ev110_12]
          subst q9
          refine z_i2l (pc := 142) hZ dL_law_142 (fun v142_26 ev142_26 => ?_)
          refine z_ldc2 (pc := 143) hZ 4294967295 (zb kc_L_13) dL_law_143 ?_
          refine z_land (pc := 146) hZ dL_law_146 (fun v146_27 ev146_27 => ?_)
          refine z_lor (pc := 147) hZ dL_law_147 (fun v147_28 ev147_28 => ?_)
          have q9 : v117_16 = v147_28 := by simp only [ev103_10, ev106_11, ev112_14, ev116_15, ev117_16, ev133_22, ev136_23, ev142_26, ev146_27, ev147_28]
          subst q9
          refine z_toM hZ ?_
          refine z_callV (pc := 148) (As := [.int v97_7, .long v117_16]) (rest := []) hZ (cM_whole l D cR c1 c2 c3 m0 a1 a2 a3 (CX x0 ra v1 v2 v3 cR g_18 [] ++ PL LP f118_17) ka_18 na_18 ea_18 kb_18 nb_18 eb_18 k_18 n_18 e_18 bits_18 scale_18 K_18 N_18 E_18 v97_7 v117_16 (by exact hAK_18)) zyM_whole (z_goodV ml_L_19 im_M_whole se_M_whole in_M co_M_whole) 0 rfl rfl rfl rfl (by decide) rfl rfl (Nat.le_of_ble_eq_true rfl) (by decide) dL_law_148 (z_ki (fun r148_29 w1 tys1 hp => ?_))
          obtain ⟨k148_29, n148_29, e148_29, K148_29, N148_29, E148_29, rfl, rfl, p148_29⟩ := hp
          have hS148_29 : SIM v1 v2 v3 f118_17 g_18 K148_29 N148_29 E148_29 := SIM_st hS_18 p118_17.2 p148_29.2.2
          refine z_toC hZ ?_
          refine z_pop (pc := 151) hZ dL_law_151 rfl ?_
          refine z_goto (pc := 152) hZ 555 dL_law_152 (by decide) ?_
          exact z_sub (pc := 555) hZ [0, 1, 2, 3] rfl (J555 E148_29 K148_29 N148_29 bits_18 e148_29 ea_18 eb_18 f118_17 g_18 k148_29 ka_18 kb_18 n148_29 na_18 nb_18 scale_18 (by exact hH_18) (by exact p148_29.2.1) (by exact hS148_29))
        by_cases w32_1 : v31_4 = 1
        · refine z_tabAt (pc := 32) hZ 1 155 w32_1 dL_law_32 (by decide) (by decide) rfl (by decide) ?_
          refine z_aload_n (pc := 155) hZ 1 dL_law_155 rfl rfl ?_
          refine z_aload_n (pc := 156) hZ 0 dL_law_156 rfl rfl ?_
          refine z_iload_n (pc := 157) hZ 3 dL_law_157 rfl rfl ?_
          refine z_iconst (pc := 158) hZ 1 dL_law_158 (by decide) ?_
          refine z_iadd (pc := 159) hZ dL_law_159 (fun v159_30 ev159_30 => ?_)
          refine hsd _ _ _ 160 _ _ _ _ (lw_ix 1 hL i18 LI (by decide) ev159_30) dL_law_160 (fun v160_31 ev160_31 => ?_)
          refine z_aload_n (pc := 161) hZ 0 dL_law_161 rfl rfl ?_
          refine z_iload_n (pc := 162) hZ 3 dL_law_162 rfl rfl ?_
          refine z_iconst (pc := 163) hZ 2 dL_law_163 (by decide) ?_
          refine z_iadd (pc := 164) hZ dL_law_164 (fun v164_32 ev164_32 => ?_)
          refine hsd _ _ _ 165 _ _ _ _ (lw_ix 2 hL i18 LI (by decide) ev164_32) dL_law_165 (fun v165_33 ev165_33 => ?_)
          refine z_i2l (pc := 166) hZ dL_law_166 (fun v166_34 ev166_34 => ?_)
          refine z_bipush (pc := 167) hZ 32 dL_law_167 (by decide) ?_
          refine z_lshl (pc := 169) hZ dL_law_169 (fun v169_35 ev169_35 => ?_)
          refine z_aload_n (pc := 170) hZ 0 dL_law_170 rfl rfl ?_
          refine z_iload_n (pc := 171) hZ 3 dL_law_171 rfl rfl ?_
          refine z_iconst (pc := 172) hZ 3 dL_law_172 (by decide) ?_
          refine z_iadd (pc := 173) hZ dL_law_173 (fun v173_36 ev173_36 => ?_)
          refine hsd _ _ _ 174 _ _ _ _ (lw_ix 3 hL i18 LI (by decide) ev173_36) dL_law_174 (fun v174_37 ev174_37 => ?_)
          refine z_i2l (pc := 175) hZ dL_law_175 (fun v175_38 ev175_38 => ?_)
          refine z_ldc2 (pc := 176) hZ 4294967295 (zb kc_L_13) dL_law_176 ?_
          refine z_land (pc := 179) hZ dL_law_179 (fun v179_39 ev179_39 => ?_)
          refine z_lor (pc := 180) hZ dL_law_180 (fun v180_40 ev180_40 => ?_)
          refine z_aload_n (pc := 181) hZ 0 dL_law_181 rfl rfl ?_
          refine z_iload_n (pc := 182) hZ 3 dL_law_182 rfl rfl ?_
          refine z_iconst (pc := 183) hZ 4 dL_law_183 (by decide) ?_
          refine z_iadd (pc := 184) hZ dL_law_184 (fun v184_41 ev184_41 => ?_)
          refine hsd _ _ _ 185 _ _ _ _ (lw_ix 4 hL i18 LI (by decide) ev184_41) dL_law_185 (fun v185_42 ev185_42 => ?_)
          refine z_callV (pc := 186) (As := [.int v160_31, .long v180_40, .int v185_42]) (rest := []) hZ (cN_real l D cR c1 c2 c3 x0 ra v1 v2 v3 (MW m0 a1 a2 a3 c1 c2 c3 (ka_18, na_18, ea_18, kb_18, nb_18, eb_18, k_18, n_18, e_18, bits_18, scale_18, K_18, N_18, E_18)) LP f_18 g_18 hH_18 v160_31 v180_40 v185_42) zyN_real (z_goodV ml_L_20 im_N_real se_N_real in_N co_N_real) 0 rfl rfl rfl rfl (by decide) rfl rfl (Nat.le_of_ble_eq_true rfl) (by decide) dL_law_186 (z_ki (fun r186_43 w1 tys1 hp => ?_))
          obtain ⟨f186_43, rfl, rfl, p186_43⟩ := hp
          refine z_pop (pc := 189) hZ dL_law_189 rfl ?_
          refine z_aload_n (pc := 190) hZ 2 dL_law_190 rfl rfl ?_
          refine z_aload_n (pc := 191) hZ 0 dL_law_191 rfl rfl ?_
          refine z_iload_n (pc := 192) hZ 3 dL_law_192 rfl rfl ?_
          refine z_iconst (pc := 193) hZ 1 dL_law_193 (by decide) ?_
          refine z_iadd (pc := 194) hZ dL_law_194 (fun v194_44 ev194_44 => ?_)
          refine hsd _ _ _ 195 _ _ _ _ (lw_ix 1 hL i18 LI (by decide) ev194_44) dL_law_195 (fun v195_45 ev195_45 => ?_)
          have q9 : v160_31 = v195_45 := by rw [ev195_45, ev160_31, ev194_44, ev159_30]
          subst q9
          refine z_aload_n (pc := 196) hZ 0 dL_law_196 rfl rfl ?_
          refine z_iload_n (pc := 197) hZ 3 dL_law_197 rfl rfl ?_
          refine z_iconst (pc := 198) hZ 2 dL_law_198 (by decide) ?_
          refine z_iadd (pc := 199) hZ dL_law_199 (fun v199_46 ev199_46 => ?_)
          refine hsd _ _ _ 200 _ _ _ _ (lw_ix 2 hL i18 LI (by decide) ev199_46) dL_law_200 (fun v200_47 ev200_47 => ?_)
          have q9 : v165_33 = v200_47 := by rw [ev200_47, ev165_33, ev199_46, ev164_32]
          subst q9
          refine z_i2l (pc := 201) hZ dL_law_201 (fun v201_48 ev201_48 => ?_)
          refine z_bipush (pc := 202) hZ 32 dL_law_202 (by decide) ?_
          refine z_lshl (pc := 204) hZ dL_law_204 (fun v204_49 ev204_49 => ?_)
          refine z_aload_n (pc := 205) hZ 0 dL_law_205 rfl rfl ?_
          refine z_iload_n (pc := 206) hZ 3 dL_law_206 rfl rfl ?_
          refine z_iconst (pc := 207) hZ 3 dL_law_207 (by decide) ?_
          refine z_iadd (pc := 208) hZ dL_law_208 (fun v208_50 ev208_50 => ?_)
          refine hsd _ _ _ 209 _ _ _ _ (lw_ix 3 hL i18 LI (by decide) ev208_50) dL_law_209 (fun v209_51 ev209_51 => ?_)
          have q9 : v174_37 = v209_51 := by rw [ev209_51, ev174_37, ev208_50, ev173_36]
          subst q9
          refine z_i2l (pc := 210) hZ dL_law_210 (fun v210_52 ev210_52 => ?_)
          refine z_ldc2 (pc := 211) hZ 4294967295 (zb kc_L_13) dL_law_211 ?_
          refine z_land (pc := 214) hZ dL_law_214 (fun v214_53 ev214_53 => ?_)
          refine z_lor (pc := 215) hZ dL_law_215 (fun v215_54 ev215_54 => ?_)
          refine z_aload_n (pc := 216) hZ 0 dL_law_216 rfl rfl ?_
          refine z_iload_n (pc := 217) hZ 3 dL_law_217 rfl rfl ?_
          refine z_iconst (pc := 218) hZ 4 dL_law_218 (by decide) ?_
          refine z_iadd (pc := 219) hZ dL_law_219 (fun v219_55 ev219_55 => ?_)
          refine hsd _ _ _ 220 _ _ _ _ (lw_ix 4 hL i18 LI (by decide) ev219_55) dL_law_220 (fun v220_56 ev220_56 => ?_)
          have q9 : v185_42 = v220_56 := by rw [ev220_56, ev185_42, ev219_55, ev184_41]
          subst q9
          have q9 : v180_40 = v215_54 := by simp only [ev166_34, ev169_35, ev175_38, ev179_39, ev180_40, ev201_48, ev204_49, ev210_52, ev214_53, ev215_54]
          subst q9
          refine z_toM hZ ?_
          refine z_callV (pc := 221) (As := [.int v160_31, .long v180_40, .int v185_42]) (rest := []) hZ (cM_real l D cR c1 c2 c3 m0 a1 a2 a3 (CX x0 ra v1 v2 v3 cR g_18 [] ++ PL LP f186_43) ka_18 na_18 ea_18 kb_18 nb_18 eb_18 k_18 n_18 e_18 bits_18 scale_18 K_18 N_18 E_18 v160_31 v180_40 v185_42 (by exact hAK_18)) zyM_real (z_goodV ml_L_24 im_M_real se_M_real in_M co_M_real) 0 rfl rfl rfl rfl (by decide) rfl rfl (Nat.le_of_ble_eq_true rfl) (by decide) dL_law_221 (z_ki (fun r221_57 w1 tys1 hp => ?_))
          obtain ⟨k221_57, n221_57, e221_57, K221_57, N221_57, E221_57, rfl, rfl, p221_57⟩ := hp
          have hS221_57 : SIM v1 v2 v3 f186_43 g_18 K221_57 N221_57 E221_57 := SIM_st hS_18 p186_43.2 p221_57.2.2
          refine z_toC hZ ?_
          refine z_pop (pc := 224) hZ dL_law_224 rfl ?_
          refine z_goto (pc := 225) hZ 555 dL_law_225 (by decide) ?_
          exact z_sub (pc := 555) hZ [0, 1, 2, 3] rfl (J555 E221_57 K221_57 N221_57 bits_18 e221_57 ea_18 eb_18 f186_43 g_18 k221_57 ka_18 kb_18 n221_57 na_18 nb_18 scale_18 (by exact hH_18) (by exact p221_57.2.1) (by exact hS221_57))
        by_cases w32_2 : v31_4 = 2
        · refine z_tabAt (pc := 32) hZ 2 228 w32_2 dL_law_32 (by decide) (by decide) rfl (by decide) ?_
          refine z_aload_n (pc := 228) hZ 1 dL_law_228 rfl rfl ?_
          refine z_aload_n (pc := 229) hZ 0 dL_law_229 rfl rfl ?_
          refine z_iload_n (pc := 230) hZ 3 dL_law_230 rfl rfl ?_
          refine z_iconst (pc := 231) hZ 1 dL_law_231 (by decide) ?_
          refine z_iadd (pc := 232) hZ dL_law_232 (fun v232_58 ev232_58 => ?_)
          refine hsd _ _ _ 233 _ _ _ _ (lw_ix 1 hL i18 LI (by decide) ev232_58) dL_law_233 (fun v233_59 ev233_59 => ?_)
          refine z_aload_n (pc := 234) hZ 0 dL_law_234 rfl rfl ?_
          refine z_iload_n (pc := 235) hZ 3 dL_law_235 rfl rfl ?_
          refine z_iconst (pc := 236) hZ 2 dL_law_236 (by decide) ?_
          refine z_iadd (pc := 237) hZ dL_law_237 (fun v237_60 ev237_60 => ?_)
          refine hsd _ _ _ 238 _ _ _ _ (lw_ix 2 hL i18 LI (by decide) ev237_60) dL_law_238 (fun v238_61 ev238_61 => ?_)
          refine z_callV (pc := 239) (As := [.int v233_59, .int v238_61]) (rest := []) hZ (cN_special l D cR c1 c2 c3 x0 ra v1 v2 v3 (MW m0 a1 a2 a3 c1 c2 c3 (ka_18, na_18, ea_18, kb_18, nb_18, eb_18, k_18, n_18, e_18, bits_18, scale_18, K_18, N_18, E_18)) LP f_18 g_18 hH_18 v233_59 v238_61) zyN_special (z_goodV ml_L_25 im_N_special se_N_special in_N co_N_special) 0 rfl rfl rfl rfl (by decide) rfl rfl (Nat.le_of_ble_eq_true rfl) (by decide) dL_law_239 (z_ki (fun r239_62 w1 tys1 hp => ?_))
          obtain ⟨f239_62, rfl, rfl, p239_62⟩ := hp
          refine z_pop (pc := 242) hZ dL_law_242 rfl ?_
          refine z_aload_n (pc := 243) hZ 2 dL_law_243 rfl rfl ?_
          refine z_aload_n (pc := 244) hZ 0 dL_law_244 rfl rfl ?_
          refine z_iload_n (pc := 245) hZ 3 dL_law_245 rfl rfl ?_
          refine z_iconst (pc := 246) hZ 1 dL_law_246 (by decide) ?_
          refine z_iadd (pc := 247) hZ dL_law_247 (fun v247_63 ev247_63 => ?_)
          refine hsd _ _ _ 248 _ _ _ _ (lw_ix 1 hL i18 LI (by decide) ev247_63) dL_law_248 (fun v248_64 ev248_64 => ?_)
          have q9 : v233_59 = v248_64 := by rw [ev248_64, ev233_59, ev247_63, ev232_58]
          subst q9
          refine z_aload_n (pc := 249) hZ 0 dL_law_249 rfl rfl ?_
          refine z_iload_n (pc := 250) hZ 3 dL_law_250 rfl rfl ?_
          refine z_iconst (pc := 251) hZ 2 dL_law_251 (by decide) ?_
          refine z_iadd (pc := 252) hZ dL_law_252 (fun v252_65 ev252_65 => ?_)
          refine hsd _ _ _ 253 _ _ _ _ (lw_ix 2 hL i18 LI (by decide) ev252_65) dL_law_253 (fun v253_66 ev253_66 => ?_)
          have q9 : v238_61 = v253_66 := by rw [ev253_66, ev238_61, ev252_65, ev237_60]
          subst q9
          refine z_toM hZ ?_
          refine z_callV (pc := 254) (As := [.int v233_59, .int v238_61]) (rest := []) hZ (cM_special l D cR c1 c2 c3 m0 a1 a2 a3 (CX x0 ra v1 v2 v3 cR g_18 [] ++ PL LP f239_62) ka_18 na_18 ea_18 kb_18 nb_18 eb_18 k_18 n_18 e_18 bits_18 scale_18 K_18 N_18 E_18 v233_59 v238_61 (by exact hAK_18)) zyM_special (z_goodV ml_L_29 im_M_special se_M_special in_M co_M_special) 0 rfl rfl rfl rfl (by decide) rfl rfl (Nat.le_of_ble_eq_true rfl) (by decide) dL_law_254 (z_ki (fun r254_67 w1 tys1 hp => ?_))
          obtain ⟨k254_67, n254_67, e254_67, K254_67, N254_67, E254_67, rfl, rfl, p254_67⟩ := hp
          have hS254_67 : SIM v1 v2 v3 f239_62 g_18 K254_67 N254_67 E254_67 := SIM_st hS_18 p239_62.2 p254_67.2.2
          refine z_toC hZ ?_
          refine z_pop (pc := 257) hZ dL_law_257 rfl ?_
          refine z_goto (pc := 258) hZ 555 dL_law_258 (by decide) ?_
          exact z_sub (pc := 555) hZ [0, 1, 2, 3] rfl (J555 E254_67 K254_67 N254_67 bits_18 e254_67 ea_18 eb_18 f239_62 g_18 k254_67 ka_18 kb_18 n254_67 na_18 nb_18 scale_18 (by exact hH_18) (by exact p254_67.2.1) (by exact hS254_67))
        by_cases w32_3 : v31_4 = 3
        · refine z_tabAt (pc := 32) hZ 3 261 w32_3 dL_law_32 (by decide) (by decide) rfl (by decide) ?_
          refine z_aload_n (pc := 261) hZ 1 dL_law_261 rfl rfl ?_
          refine z_aload_n (pc := 262) hZ 0 dL_law_262 rfl rfl ?_
          refine z_iload_n (pc := 263) hZ 3 dL_law_263 rfl rfl ?_
          refine z_iconst (pc := 264) hZ 1 dL_law_264 (by decide) ?_
          refine z_iadd (pc := 265) hZ dL_law_265 (fun v265_68 ev265_68 => ?_)
          refine hsd _ _ _ 266 _ _ _ _ (lw_ix 1 hL i18 LI (by decide) ev265_68) dL_law_266 (fun v266_69 ev266_69 => ?_)
          refine z_aload_n (pc := 267) hZ 0 dL_law_267 rfl rfl ?_
          refine z_iload_n (pc := 268) hZ 3 dL_law_268 rfl rfl ?_
          refine z_iconst (pc := 269) hZ 2 dL_law_269 (by decide) ?_
          refine z_iadd (pc := 270) hZ dL_law_270 (fun v270_70 ev270_70 => ?_)
          refine hsd _ _ _ 271 _ _ _ _ (lw_ix 2 hL i18 LI (by decide) ev270_70) dL_law_271 (fun v271_71 ev271_71 => ?_)
          refine z_aload_n (pc := 272) hZ 0 dL_law_272 rfl rfl ?_
          refine z_iload_n (pc := 273) hZ 3 dL_law_273 rfl rfl ?_
          refine z_iconst (pc := 274) hZ 3 dL_law_274 (by decide) ?_
          refine z_iadd (pc := 275) hZ dL_law_275 (fun v275_72 ev275_72 => ?_)
          refine hsd _ _ _ 276 _ _ _ _ (lw_ix 3 hL i18 LI (by decide) ev275_72) dL_law_276 (fun v276_73 ev276_73 => ?_)
          refine z_aload_n (pc := 277) hZ 0 dL_law_277 rfl rfl ?_
          refine z_iload_n (pc := 278) hZ 3 dL_law_278 rfl rfl ?_
          refine z_iconst (pc := 279) hZ 4 dL_law_279 (by decide) ?_
          refine z_iadd (pc := 280) hZ dL_law_280 (fun v280_74 ev280_74 => ?_)
          refine hsd _ _ _ 281 _ _ _ _ (lw_ix 4 hL i18 LI (by decide) ev280_74) dL_law_281 (fun v281_75 ev281_75 => ?_)
          refine z_callV (pc := 282) (As := [.int v266_69, .int v271_71, .int v276_73, .int v281_75]) (rest := []) hZ (cN_operate l D cR c1 c2 c3 x0 ra v1 v2 v3 (MW m0 a1 a2 a3 c1 c2 c3 (ka_18, na_18, ea_18, kb_18, nb_18, eb_18, k_18, n_18, e_18, bits_18, scale_18, K_18, N_18, E_18)) LP f_18 g_18 hH_18 v266_69 v271_71 v276_73 v281_75) zyN_operate (z_goodV ml_L_30 im_N_operate se_N_operate in_N co_N_operate) 0 rfl rfl rfl rfl (by decide) rfl rfl (Nat.le_of_ble_eq_true rfl) (by decide) dL_law_282 (z_ki (fun r282_76 w1 tys1 hp => ?_))
          obtain ⟨f282_76, rfl, rfl, p282_76⟩ := hp
          refine z_pop (pc := 285) hZ dL_law_285 rfl ?_
          refine z_aload_n (pc := 286) hZ 2 dL_law_286 rfl rfl ?_
          refine z_aload_n (pc := 287) hZ 0 dL_law_287 rfl rfl ?_
          refine z_iload_n (pc := 288) hZ 3 dL_law_288 rfl rfl ?_
          refine z_iconst (pc := 289) hZ 1 dL_law_289 (by decide) ?_
          refine z_iadd (pc := 290) hZ dL_law_290 (fun v290_77 ev290_77 => ?_)
          refine hsd _ _ _ 291 _ _ _ _ (lw_ix 1 hL i18 LI (by decide) ev290_77) dL_law_291 (fun v291_78 ev291_78 => ?_)
          have q9 : v266_69 = v291_78 := by rw [ev291_78, ev266_69, ev290_77, ev265_68]
          subst q9
          refine z_aload_n (pc := 292) hZ 0 dL_law_292 rfl rfl ?_
          refine z_iload_n (pc := 293) hZ 3 dL_law_293 rfl rfl ?_
          refine z_iconst (pc := 294) hZ 2 dL_law_294 (by decide) ?_
          refine z_iadd (pc := 295) hZ dL_law_295 (fun v295_79 ev295_79 => ?_)
          refine hsd _ _ _ 296 _ _ _ _ (lw_ix 2 hL i18 LI (by decide) ev295_79) dL_law_296 (fun v296_80 ev296_80 => ?_)
          have q9 : v271_71 = v296_80 := by rw [ev296_80, ev271_71, ev295_79, ev270_70]
          subst q9
          refine z_aload_n (pc := 297) hZ 0 dL_law_297 rfl rfl ?_
          refine z_iload_n (pc := 298) hZ 3 dL_law_298 rfl rfl ?_
          refine z_iconst (pc := 299) hZ 3 dL_law_299 (by decide) ?_
          refine z_iadd (pc := 300) hZ dL_law_300 (fun v300_81 ev300_81 => ?_)
          refine hsd _ _ _ 301 _ _ _ _ (lw_ix 3 hL i18 LI (by decide) ev300_81) dL_law_301 (fun v301_82 ev301_82 => ?_)
          have q9 : v276_73 = v301_82 := by rw [ev301_82, ev276_73, ev300_81, ev275_72]
          subst q9
          refine z_aload_n (pc := 302) hZ 0 dL_law_302 rfl rfl ?_
          refine z_iload_n (pc := 303) hZ 3 dL_law_303 rfl rfl ?_
          refine z_iconst (pc := 304) hZ 4 dL_law_304 (by decide) ?_
          refine z_iadd (pc := 305) hZ dL_law_305 (fun v305_83 ev305_83 => ?_)
          refine hsd _ _ _ 306 _ _ _ _ (lw_ix 4 hL i18 LI (by decide) ev305_83) dL_law_306 (fun v306_84 ev306_84 => ?_)
          have q9 : v281_75 = v306_84 := by rw [ev306_84, ev281_75, ev305_83, ev280_74]
          subst q9
          refine z_toM hZ ?_
          refine z_callV (pc := 307) (As := [.int v266_69, .int v271_71, .int v276_73, .int v281_75]) (rest := []) hZ (cM_operate l D cR c1 c2 c3 m0 a1 a2 a3 (CX x0 ra v1 v2 v3 cR g_18 [] ++ PL LP f282_76) ka_18 na_18 ea_18 kb_18 nb_18 eb_18 k_18 n_18 e_18 bits_18 scale_18 K_18 N_18 E_18 v266_69 v271_71 v276_73 v281_75 (by exact hAK_18)) zyM_operate (z_goodV ml_L_34 im_M_operate se_M_operate in_M co_M_operate) 0 rfl rfl rfl rfl (by decide) rfl rfl (Nat.le_of_ble_eq_true rfl) (by decide) dL_law_307 (z_ki (fun r307_85 w1 tys1 hp => ?_))
          obtain ⟨ka307_85, na307_85, ea307_85, kb307_85, nb307_85, eb307_85, k307_85, n307_85, e307_85, bits307_85, scale307_85, K307_85, N307_85, E307_85, rfl, rfl, p307_85⟩ := hp
          have hS307_85 : SIM v1 v2 v3 f282_76 g_18 K307_85 N307_85 E307_85 := SIM_op hS_18 p282_76 p307_85.2
          refine z_toC hZ ?_
          refine z_pop (pc := 310) hZ dL_law_310 rfl ?_
          refine z_goto (pc := 311) hZ 555 dL_law_311 (by decide) ?_
          exact z_sub (pc := 555) hZ [0, 1, 2, 3] rfl (J555 E307_85 K307_85 N307_85 bits307_85 e307_85 ea307_85 eb307_85 f282_76 g_18 k307_85 ka307_85 kb307_85 n307_85 na307_85 nb307_85 scale307_85 (by exact hH_18) (by exact p307_85.1) (by exact hS307_85))
        by_cases w32_4 : v31_4 = 4
        · refine z_tabAt (pc := 32) hZ 4 314 w32_4 dL_law_32 (by decide) (by decide) rfl (by decide) ?_
          refine z_aload_n (pc := 314) hZ 1 dL_law_314 rfl rfl ?_
          refine z_aload_n (pc := 315) hZ 0 dL_law_315 rfl rfl ?_
          refine z_iload_n (pc := 316) hZ 3 dL_law_316 rfl rfl ?_
          refine z_iconst (pc := 317) hZ 1 dL_law_317 (by decide) ?_
          refine z_iadd (pc := 318) hZ dL_law_318 (fun v318_86 ev318_86 => ?_)
          refine hsd _ _ _ 319 _ _ _ _ (lw_ix 1 hL i18 LI (by decide) ev318_86) dL_law_319 (fun v319_87 ev319_87 => ?_)
          refine z_aload_n (pc := 320) hZ 0 dL_law_320 rfl rfl ?_
          refine z_iload_n (pc := 321) hZ 3 dL_law_321 rfl rfl ?_
          refine z_iconst (pc := 322) hZ 2 dL_law_322 (by decide) ?_
          refine z_iadd (pc := 323) hZ dL_law_323 (fun v323_88 ev323_88 => ?_)
          refine hsd _ _ _ 324 _ _ _ _ (lw_ix 2 hL i18 LI (by decide) ev323_88) dL_law_324 (fun v324_89 ev324_89 => ?_)
          refine z_aload_n (pc := 325) hZ 0 dL_law_325 rfl rfl ?_
          refine z_iload_n (pc := 326) hZ 3 dL_law_326 rfl rfl ?_
          refine z_iconst (pc := 327) hZ 3 dL_law_327 (by decide) ?_
          refine z_iadd (pc := 328) hZ dL_law_328 (fun v328_90 ev328_90 => ?_)
          refine hsd _ _ _ 329 _ _ _ _ (lw_ix 3 hL i18 LI (by decide) ev328_90) dL_law_329 (fun v329_91 ev329_91 => ?_)
          refine z_callV (pc := 330) (As := [.int v319_87, .int v324_89, .int v329_91]) (rest := []) hZ (cN_compare l D cR c1 c2 c3 x0 ra v1 v2 v3 (MW m0 a1 a2 a3 c1 c2 c3 (ka_18, na_18, ea_18, kb_18, nb_18, eb_18, k_18, n_18, e_18, bits_18, scale_18, K_18, N_18, E_18)) LP f_18 g_18 hH_18 v319_87 v324_89 v329_91) zyN_compare (z_goodV ml_L_35 im_N_compare se_N_compare in_N co_N_compare) 0 rfl rfl rfl rfl (by decide) rfl rfl (Nat.le_of_ble_eq_true rfl) (by decide) dL_law_330 (z_ki (fun r330_92 w1 tys1 hp => ?_))
          obtain ⟨rfl, rfl, p330_92⟩ := hp
          refine z_pop (pc := 333) hZ dL_law_333 rfl ?_
          refine z_aload_n (pc := 334) hZ 2 dL_law_334 rfl rfl ?_
          refine z_aload_n (pc := 335) hZ 0 dL_law_335 rfl rfl ?_
          refine z_iload_n (pc := 336) hZ 3 dL_law_336 rfl rfl ?_
          refine z_iconst (pc := 337) hZ 1 dL_law_337 (by decide) ?_
          refine z_iadd (pc := 338) hZ dL_law_338 (fun v338_93 ev338_93 => ?_)
          refine hsd _ _ _ 339 _ _ _ _ (lw_ix 1 hL i18 LI (by decide) ev338_93) dL_law_339 (fun v339_94 ev339_94 => ?_)
          have q9 : v319_87 = v339_94 := by rw [ev339_94, ev319_87, ev338_93, ev318_86]
          subst q9
          refine z_aload_n (pc := 340) hZ 0 dL_law_340 rfl rfl ?_
          refine z_iload_n (pc := 341) hZ 3 dL_law_341 rfl rfl ?_
          refine z_iconst (pc := 342) hZ 2 dL_law_342 (by decide) ?_
          refine z_iadd (pc := 343) hZ dL_law_343 (fun v343_95 ev343_95 => ?_)
          refine hsd _ _ _ 344 _ _ _ _ (lw_ix 2 hL i18 LI (by decide) ev343_95) dL_law_344 (fun v344_96 ev344_96 => ?_)
          have q9 : v324_89 = v344_96 := by rw [ev344_96, ev324_89, ev343_95, ev323_88]
          subst q9
          refine z_aload_n (pc := 345) hZ 0 dL_law_345 rfl rfl ?_
          refine z_iload_n (pc := 346) hZ 3 dL_law_346 rfl rfl ?_
          refine z_iconst (pc := 347) hZ 3 dL_law_347 (by decide) ?_
          refine z_iadd (pc := 348) hZ dL_law_348 (fun v348_97 ev348_97 => ?_)
          refine hsd _ _ _ 349 _ _ _ _ (lw_ix 3 hL i18 LI (by decide) ev348_97) dL_law_349 (fun v349_98 ev349_98 => ?_)
          have q9 : v329_91 = v349_98 := by rw [ev349_98, ev329_91, ev348_97, ev328_90]
          subst q9
          refine z_toM hZ ?_
          refine z_callV (pc := 350) (As := [.int v319_87, .int v324_89, .int v329_91]) (rest := []) hZ (cM_compare l D cR c1 c2 c3 m0 a1 a2 a3 (CX x0 ra v1 v2 v3 cR g_18 [] ++ PL LP f_18) ka_18 na_18 ea_18 kb_18 nb_18 eb_18 k_18 n_18 e_18 bits_18 scale_18 K_18 N_18 E_18 v319_87 v324_89 v329_91 (by exact hAK_18)) zyM_compare (z_goodV ml_L_39 im_M_compare se_M_compare in_M co_M_compare) 0 rfl rfl rfl rfl (by decide) rfl rfl (Nat.le_of_ble_eq_true rfl) (by decide) dL_law_350 (z_ki (fun r350_99 w1 tys1 hp => ?_))
          obtain ⟨ka350_99, na350_99, ea350_99, kb350_99, nb350_99, eb350_99, k350_99, n350_99, e350_99, rfl, rfl, p350_99⟩ := hp
          refine z_toC hZ ?_
          refine z_pop (pc := 353) hZ dL_law_353 rfl ?_
          refine z_goto (pc := 354) hZ 555 dL_law_354 (by decide) ?_
          exact z_sub (pc := 555) hZ [0, 1, 2, 3] rfl (J555 E_18 K_18 N_18 bits_18 e350_99 ea350_99 eb350_99 f_18 g_18 k350_99 ka350_99 kb350_99 n350_99 na350_99 nb350_99 scale_18 (by exact hH_18) (by exact hAK_18) (by exact hS_18))
        by_cases w32_5 : v31_4 = 5
        · refine z_tabAt (pc := 32) hZ 5 357 w32_5 dL_law_32 (by decide) (by decide) rfl (by decide) ?_
          refine z_aload_n (pc := 357) hZ 1 dL_law_357 rfl rfl ?_
          refine z_aload_n (pc := 358) hZ 0 dL_law_358 rfl rfl ?_
          refine z_iload_n (pc := 359) hZ 3 dL_law_359 rfl rfl ?_
          refine z_iconst (pc := 360) hZ 1 dL_law_360 (by decide) ?_
          refine z_iadd (pc := 361) hZ dL_law_361 (fun v361_100 ev361_100 => ?_)
          refine hsd _ _ _ 362 _ _ _ _ (lw_ix 1 hL i18 LI (by decide) ev361_100) dL_law_362 (fun v362_101 ev362_101 => ?_)
          refine z_callV (pc := 363) (As := [.int v362_101]) (rest := []) hZ (cN_kind l D cR c1 c2 c3 x0 ra v1 v2 v3 (MW m0 a1 a2 a3 c1 c2 c3 (ka_18, na_18, ea_18, kb_18, nb_18, eb_18, k_18, n_18, e_18, bits_18, scale_18, K_18, N_18, E_18)) LP f_18 g_18 hH_18 v362_101) zyN_kind (z_goodV ml_L_40 im_N_kind se_N_kind in_N co_N_kind) 0 rfl rfl rfl rfl (by decide) rfl rfl (Nat.le_of_ble_eq_true rfl) (by decide) dL_law_363 (z_ki (fun r363_102 w1 tys1 hp => ?_))
          obtain ⟨rfl, rfl, p363_102⟩ := hp
          refine z_aload_n (pc := 366) hZ 2 dL_law_366 rfl rfl ?_
          refine z_aload_n (pc := 367) hZ 0 dL_law_367 rfl rfl ?_
          refine z_iload_n (pc := 368) hZ 3 dL_law_368 rfl rfl ?_
          refine z_iconst (pc := 369) hZ 1 dL_law_369 (by decide) ?_
          refine z_iadd (pc := 370) hZ dL_law_370 (fun v370_103 ev370_103 => ?_)
          refine hsd _ _ _ 371 _ _ _ _ (lw_ix 1 hL i18 LI (by decide) ev370_103) dL_law_371 (fun v371_104 ev371_104 => ?_)
          have q9 : v362_101 = v371_104 := by rw [ev371_104, ev362_101, ev370_103, ev361_100]
          subst q9
          refine z_toM hZ ?_
          refine z_callV (pc := 372) (As := [.int v362_101]) (rest := [.int r363_102]) hZ (cM_kind l D cR c1 c2 c3 m0 a1 a2 a3 (CX x0 ra v1 v2 v3 cR g_18 [] ++ PL LP f_18) ka_18 na_18 ea_18 kb_18 nb_18 eb_18 k_18 n_18 e_18 bits_18 scale_18 K_18 N_18 E_18 v362_101 ) zyM_kind (z_goodV ml_L_44 im_M_kind se_M_kind in_M co_M_kind) 0 rfl rfl rfl rfl (by decide) rfl rfl (Nat.le_of_ble_eq_true rfl) (by decide) dL_law_372 (z_ki (fun r372_105 w1 tys1 hp => ?_))
          obtain ⟨rfl, rfl, p372_105⟩ := hp
          refine z_toC hZ ?_
          refine z_icmp_eq (pc := 375) hZ 555 dL_law_375 (by decide) (fun c375_106 => ?_) (fun c375_106 => ?_)
          · exact z_sub (pc := 555) hZ [0, 1, 2, 3] rfl (J555 E_18 K_18 N_18 bits_18 e_18 ea_18 eb_18 f_18 g_18 k_18 ka_18 kb_18 n_18 na_18 nb_18 scale_18 (by exact hH_18) (by exact hAK_18) (by exact hS_18))
          · exact absurd (kd_eq hS_18 p363_102 p372_105) c375_106
        by_cases w32_6 : v31_4 = 6
        · refine z_tabAt (pc := 32) hZ 6 380 w32_6 dL_law_32 (by decide) (by decide) rfl (by decide) ?_
          refine z_aload_n (pc := 380) hZ 1 dL_law_380 rfl rfl ?_
          refine z_aload_n (pc := 381) hZ 0 dL_law_381 rfl rfl ?_
          refine z_iload_n (pc := 382) hZ 3 dL_law_382 rfl rfl ?_
          refine z_iconst (pc := 383) hZ 1 dL_law_383 (by decide) ?_
          refine z_iadd (pc := 384) hZ dL_law_384 (fun v384_107 ev384_107 => ?_)
          refine hsd _ _ _ 385 _ _ _ _ (lw_ix 1 hL i18 LI (by decide) ev384_107) dL_law_385 (fun v385_108 ev385_108 => ?_)
          refine z_callV (pc := 386) (As := [.int v385_108]) (rest := []) hZ (cN_number l D cR c1 c2 c3 x0 ra v1 v2 v3 (MW m0 a1 a2 a3 c1 c2 c3 (ka_18, na_18, ea_18, kb_18, nb_18, eb_18, k_18, n_18, e_18, bits_18, scale_18, K_18, N_18, E_18)) LP f_18 g_18 hH_18 v385_108) zyN_number (z_goodV ml_L_45 im_N_number se_N_number in_N co_N_number) 0 rfl rfl rfl rfl (by decide) rfl rfl (Nat.le_of_ble_eq_true rfl) (by decide) dL_law_386 (z_kl (fun r386_109 w1 tys1 hp => ?_))
          obtain ⟨rfl, rfl, p386_109⟩ := hp
          refine z_pop2 (pc := 389) hZ dL_law_389 rfl ?_
          refine z_aload_n (pc := 390) hZ 2 dL_law_390 rfl rfl ?_
          refine z_aload_n (pc := 391) hZ 0 dL_law_391 rfl rfl ?_
          refine z_iload_n (pc := 392) hZ 3 dL_law_392 rfl rfl ?_
          refine z_iconst (pc := 393) hZ 1 dL_law_393 (by decide) ?_
          refine z_iadd (pc := 394) hZ dL_law_394 (fun v394_110 ev394_110 => ?_)
          refine hsd _ _ _ 395 _ _ _ _ (lw_ix 1 hL i18 LI (by decide) ev394_110) dL_law_395 (fun v395_111 ev395_111 => ?_)
          have q9 : v385_108 = v395_111 := by rw [ev395_111, ev385_108, ev394_110, ev384_107]
          subst q9
          refine z_toM hZ ?_
          refine z_callV (pc := 396) (As := [.int v385_108]) (rest := []) hZ (cM_number l D cR c1 c2 c3 m0 a1 a2 a3 (CX x0 ra v1 v2 v3 cR g_18 [] ++ PL LP f_18) ka_18 na_18 ea_18 kb_18 nb_18 eb_18 k_18 n_18 e_18 bits_18 scale_18 K_18 N_18 E_18 v385_108 ) zyM_number (z_goodV ml_L_49 im_M_number se_M_number in_M co_M_number) 0 rfl rfl rfl rfl (by decide) rfl rfl (Nat.le_of_ble_eq_true rfl) (by decide) dL_law_396 (z_kl (fun r396_112 w1 tys1 hp => ?_))
          obtain ⟨rfl, rfl, p396_112⟩ := hp
          refine z_toC hZ ?_
          refine z_pop2 (pc := 399) hZ dL_law_399 rfl ?_
          refine z_goto (pc := 400) hZ 555 dL_law_400 (by decide) ?_
          exact z_sub (pc := 555) hZ [0, 1, 2, 3] rfl (J555 E_18 K_18 N_18 bits_18 e_18 ea_18 eb_18 f_18 g_18 k_18 ka_18 kb_18 n_18 na_18 nb_18 scale_18 (by exact hH_18) (by exact hAK_18) (by exact hS_18))
        by_cases w32_7 : v31_4 = 7
        · refine z_tabAt (pc := 32) hZ 7 403 w32_7 dL_law_32 (by decide) (by decide) rfl (by decide) ?_
          refine z_aload_n (pc := 403) hZ 1 dL_law_403 rfl rfl ?_
          refine z_aload_n (pc := 404) hZ 0 dL_law_404 rfl rfl ?_
          refine z_iload_n (pc := 405) hZ 3 dL_law_405 rfl rfl ?_
          refine z_iconst (pc := 406) hZ 1 dL_law_406 (by decide) ?_
          refine z_iadd (pc := 407) hZ dL_law_407 (fun v407_113 ev407_113 => ?_)
          refine hsd _ _ _ 408 _ _ _ _ (lw_ix 1 hL i18 LI (by decide) ev407_113) dL_law_408 (fun v408_114 ev408_114 => ?_)
          refine z_callV (pc := 409) (As := [.int v408_114]) (rest := []) hZ (cN_exponent l D cR c1 c2 c3 x0 ra v1 v2 v3 (MW m0 a1 a2 a3 c1 c2 c3 (ka_18, na_18, ea_18, kb_18, nb_18, eb_18, k_18, n_18, e_18, bits_18, scale_18, K_18, N_18, E_18)) LP f_18 g_18 hH_18 v408_114) zyN_exponent (z_goodV ml_L_50 im_N_exponent se_N_exponent in_N co_N_exponent) 0 rfl rfl rfl rfl (by decide) rfl rfl (Nat.le_of_ble_eq_true rfl) (by decide) dL_law_409 (z_ki (fun r409_115 w1 tys1 hp => ?_))
          obtain ⟨rfl, rfl, p409_115⟩ := hp
          refine z_pop (pc := 412) hZ dL_law_412 rfl ?_
          refine z_aload_n (pc := 413) hZ 2 dL_law_413 rfl rfl ?_
          refine z_aload_n (pc := 414) hZ 0 dL_law_414 rfl rfl ?_
          refine z_iload_n (pc := 415) hZ 3 dL_law_415 rfl rfl ?_
          refine z_iconst (pc := 416) hZ 1 dL_law_416 (by decide) ?_
          refine z_iadd (pc := 417) hZ dL_law_417 (fun v417_116 ev417_116 => ?_)
          refine hsd _ _ _ 418 _ _ _ _ (lw_ix 1 hL i18 LI (by decide) ev417_116) dL_law_418 (fun v418_117 ev418_117 => ?_)
          have q9 : v408_114 = v418_117 := by rw [ev418_117, ev408_114, ev417_116, ev407_113]
          subst q9
          refine z_toM hZ ?_
          refine z_callV (pc := 419) (As := [.int v408_114]) (rest := []) hZ (cM_exponent l D cR c1 c2 c3 m0 a1 a2 a3 (CX x0 ra v1 v2 v3 cR g_18 [] ++ PL LP f_18) ka_18 na_18 ea_18 kb_18 nb_18 eb_18 k_18 n_18 e_18 bits_18 scale_18 K_18 N_18 E_18 v408_114 ) zyM_exponent (z_goodV ml_L_53 im_M_exponent se_M_exponent in_M co_M_exponent) 0 rfl rfl rfl rfl (by decide) rfl rfl (Nat.le_of_ble_eq_true rfl) (by decide) dL_law_419 (z_ki (fun r419_118 w1 tys1 hp => ?_))
          obtain ⟨rfl, rfl, p419_118⟩ := hp
          refine z_toC hZ ?_
          refine z_pop (pc := 422) hZ dL_law_422 rfl ?_
          refine z_goto (pc := 423) hZ 555 dL_law_423 (by decide) ?_
          exact z_sub (pc := 555) hZ [0, 1, 2, 3] rfl (J555 E_18 K_18 N_18 bits_18 e_18 ea_18 eb_18 f_18 g_18 k_18 ka_18 kb_18 n_18 na_18 nb_18 scale_18 (by exact hH_18) (by exact hAK_18) (by exact hS_18))
        by_cases w32_8 : v31_4 = 8
        · refine z_tabAt (pc := 32) hZ 8 426 w32_8 dL_law_32 (by decide) (by decide) rfl (by decide) ?_
          refine z_aload_n (pc := 426) hZ 1 dL_law_426 rfl rfl ?_
          refine z_aload_n (pc := 427) hZ 0 dL_law_427 rfl rfl ?_
          refine z_iload_n (pc := 428) hZ 3 dL_law_428 rfl rfl ?_
          refine z_iconst (pc := 429) hZ 1 dL_law_429 (by decide) ?_
          refine z_iadd (pc := 430) hZ dL_law_430 (fun v430_119 ev430_119 => ?_)
          refine hsd _ _ _ 431 _ _ _ _ (lw_ix 1 hL i18 LI (by decide) ev430_119) dL_law_431 (fun v431_120 ev431_120 => ?_)
          refine z_aload_n (pc := 432) hZ 0 dL_law_432 rfl rfl ?_
          refine z_iload_n (pc := 433) hZ 3 dL_law_433 rfl rfl ?_
          refine z_iconst (pc := 434) hZ 2 dL_law_434 (by decide) ?_
          refine z_iadd (pc := 435) hZ dL_law_435 (fun v435_121 ev435_121 => ?_)
          refine hsd _ _ _ 436 _ _ _ _ (lw_ix 2 hL i18 LI (by decide) ev435_121) dL_law_436 (fun v436_122 ev436_122 => ?_)
          refine z_aload_n (pc := 437) hZ 0 dL_law_437 rfl rfl ?_
          refine z_iload_n (pc := 438) hZ 3 dL_law_438 rfl rfl ?_
          refine z_iconst (pc := 439) hZ 3 dL_law_439 (by decide) ?_
          refine z_iadd (pc := 440) hZ dL_law_440 (fun v440_123 ev440_123 => ?_)
          refine hsd _ _ _ 441 _ _ _ _ (lw_ix 3 hL i18 LI (by decide) ev440_123) dL_law_441 (fun v441_124 ev441_124 => ?_)
          refine z_callV (pc := 442) (As := [.int v431_120, .int v436_122, .int v441_124]) (rest := []) hZ (cN_sum l D cR c1 c2 c3 x0 ra v1 v2 v3 (MW m0 a1 a2 a3 c1 c2 c3 (ka_18, na_18, ea_18, kb_18, nb_18, eb_18, k_18, n_18, e_18, bits_18, scale_18, K_18, N_18, E_18)) LP f_18 g_18 hH_18 v431_120 v436_122 v441_124) zyN_sum (z_goodV ml_L_54 im_N_sum se_N_sum in_N co_N_sum) 0 rfl rfl rfl rfl (by decide) rfl rfl (Nat.le_of_ble_eq_true rfl) (by decide) dL_law_442 (z_ki (fun r442_125 w1 tys1 hp => ?_))
          obtain ⟨f442_125, rfl, rfl, p442_125⟩ := hp
          refine z_pop (pc := 445) hZ dL_law_445 rfl ?_
          refine z_aload_n (pc := 446) hZ 2 dL_law_446 rfl rfl ?_
          refine z_aload_n (pc := 447) hZ 0 dL_law_447 rfl rfl ?_
          refine z_iload_n (pc := 448) hZ 3 dL_law_448 rfl rfl ?_
          refine z_iconst (pc := 449) hZ 1 dL_law_449 (by decide) ?_
          refine z_iadd (pc := 450) hZ dL_law_450 (fun v450_126 ev450_126 => ?_)
          refine hsd _ _ _ 451 _ _ _ _ (lw_ix 1 hL i18 LI (by decide) ev450_126) dL_law_451 (fun v451_127 ev451_127 => ?_)
          have q9 : v431_120 = v451_127 := by rw [ev451_127, ev431_120, ev450_126, ev430_119]
          subst q9
          refine z_aload_n (pc := 452) hZ 0 dL_law_452 rfl rfl ?_
          refine z_iload_n (pc := 453) hZ 3 dL_law_453 rfl rfl ?_
          refine z_iconst (pc := 454) hZ 2 dL_law_454 (by decide) ?_
          refine z_iadd (pc := 455) hZ dL_law_455 (fun v455_128 ev455_128 => ?_)
          refine hsd _ _ _ 456 _ _ _ _ (lw_ix 2 hL i18 LI (by decide) ev455_128) dL_law_456 (fun v456_129 ev456_129 => ?_)
          have q9 : v436_122 = v456_129 := by rw [ev456_129, ev436_122, ev455_128, ev435_121]
          subst q9
          refine z_aload_n (pc := 457) hZ 0 dL_law_457 rfl rfl ?_
          refine z_iload_n (pc := 458) hZ 3 dL_law_458 rfl rfl ?_
          refine z_iconst (pc := 459) hZ 3 dL_law_459 (by decide) ?_
          refine z_iadd (pc := 460) hZ dL_law_460 (fun v460_130 ev460_130 => ?_)
          refine hsd _ _ _ 461 _ _ _ _ (lw_ix 3 hL i18 LI (by decide) ev460_130) dL_law_461 (fun v461_131 ev461_131 => ?_)
          have q9 : v441_124 = v461_131 := by rw [ev461_131, ev441_124, ev460_130, ev440_123]
          subst q9
          refine z_toM hZ ?_
          refine z_callV (pc := 462) (As := [.int v431_120, .int v436_122, .int v441_124]) (rest := []) hZ (cM_sum l D cR c1 c2 c3 m0 a1 a2 a3 (CX x0 ra v1 v2 v3 cR g_18 [] ++ PL LP f442_125) ka_18 na_18 ea_18 kb_18 nb_18 eb_18 k_18 n_18 e_18 bits_18 scale_18 K_18 N_18 E_18 v431_120 v436_122 v441_124 (by exact hAK_18)) zyM_sum (z_goodV ml_L_58 im_M_sum se_M_sum in_M co_M_sum) 0 rfl rfl rfl rfl (by decide) rfl rfl (Nat.le_of_ble_eq_true rfl) (by decide) dL_law_462 (z_ki (fun r462_132 w1 tys1 hp => ?_))
          obtain ⟨ka462_132, na462_132, ea462_132, kb462_132, nb462_132, eb462_132, k462_132, n462_132, e462_132, bits462_132, scale462_132, K462_132, N462_132, E462_132, rfl, rfl, p462_132⟩ := hp
          have hS462_132 : SIM v1 v2 v3 f442_125 g_18 K462_132 N462_132 E462_132 := SIM_st hS_18 p442_125.2 p462_132.2.2
          refine z_toC hZ ?_
          refine z_pop (pc := 465) hZ dL_law_465 rfl ?_
          refine z_goto (pc := 466) hZ 555 dL_law_466 (by decide) ?_
          exact z_sub (pc := 555) hZ [0, 1, 2, 3] rfl (J555 E462_132 K462_132 N462_132 bits462_132 e462_132 ea462_132 eb462_132 f442_125 g_18 k462_132 ka462_132 kb462_132 n462_132 na462_132 nb462_132 scale462_132 (by exact hH_18) (by exact p462_132.2.1) (by exact hS462_132))
        by_cases w32_9 : v31_4 = 9
        · refine z_tabAt (pc := 32) hZ 9 469 w32_9 dL_law_32 (by decide) (by decide) rfl (by decide) ?_
          refine z_aload_n (pc := 469) hZ 1 dL_law_469 rfl rfl ?_
          refine z_aload_n (pc := 470) hZ 0 dL_law_470 rfl rfl ?_
          refine z_iload_n (pc := 471) hZ 3 dL_law_471 rfl rfl ?_
          refine z_iconst (pc := 472) hZ 1 dL_law_472 (by decide) ?_
          refine z_iadd (pc := 473) hZ dL_law_473 (fun v473_133 ev473_133 => ?_)
          refine hsd _ _ _ 474 _ _ _ _ (lw_ix 1 hL i18 LI (by decide) ev473_133) dL_law_474 (fun v474_134 ev474_134 => ?_)
          refine z_aload_n (pc := 475) hZ 0 dL_law_475 rfl rfl ?_
          refine z_iload_n (pc := 476) hZ 3 dL_law_476 rfl rfl ?_
          refine z_iconst (pc := 477) hZ 2 dL_law_477 (by decide) ?_
          refine z_iadd (pc := 478) hZ dL_law_478 (fun v478_135 ev478_135 => ?_)
          refine hsd _ _ _ 479 _ _ _ _ (lw_ix 2 hL i18 LI (by decide) ev478_135) dL_law_479 (fun v479_136 ev479_136 => ?_)
          refine z_aload_n (pc := 480) hZ 0 dL_law_480 rfl rfl ?_
          refine z_iload_n (pc := 481) hZ 3 dL_law_481 rfl rfl ?_
          refine z_iconst (pc := 482) hZ 3 dL_law_482 (by decide) ?_
          refine z_iadd (pc := 483) hZ dL_law_483 (fun v483_137 ev483_137 => ?_)
          refine hsd _ _ _ 484 _ _ _ _ (lw_ix 3 hL i18 LI (by decide) ev483_137) dL_law_484 (fun v484_138 ev484_138 => ?_)
          refine z_aload_n (pc := 485) hZ 0 dL_law_485 rfl rfl ?_
          refine z_iload_n (pc := 486) hZ 3 dL_law_486 rfl rfl ?_
          refine z_iconst (pc := 487) hZ 4 dL_law_487 (by decide) ?_
          refine z_iadd (pc := 488) hZ dL_law_488 (fun v488_139 ev488_139 => ?_)
          refine hsd _ _ _ 489 _ _ _ _ (lw_ix 4 hL i18 LI (by decide) ev488_139) dL_law_489 (fun v489_140 ev489_140 => ?_)
          refine z_callV (pc := 490) (As := [.int v474_134, .int v479_136, .int v484_138, .int v489_140]) (rest := []) hZ (cN_polynomial l D cR c1 c2 c3 x0 ra v1 v2 v3 (MW m0 a1 a2 a3 c1 c2 c3 (ka_18, na_18, ea_18, kb_18, nb_18, eb_18, k_18, n_18, e_18, bits_18, scale_18, K_18, N_18, E_18)) LP f_18 g_18 hH_18 v474_134 v479_136 v484_138 v489_140) zyN_polynomial (z_goodV ml_L_59 im_N_polynomial se_N_polynomial in_N co_N_polynomial) 0 rfl rfl rfl rfl (by decide) rfl rfl (Nat.le_of_ble_eq_true rfl) (by decide) dL_law_490 (z_ki (fun r490_141 w1 tys1 hp => ?_))
          obtain ⟨f490_141, rfl, rfl, p490_141⟩ := hp
          refine z_pop (pc := 493) hZ dL_law_493 rfl ?_
          refine z_aload_n (pc := 494) hZ 2 dL_law_494 rfl rfl ?_
          refine z_aload_n (pc := 495) hZ 0 dL_law_495 rfl rfl ?_
          refine z_iload_n (pc := 496) hZ 3 dL_law_496 rfl rfl ?_
          refine z_iconst (pc := 497) hZ 1 dL_law_497 (by decide) ?_
          refine z_iadd (pc := 498) hZ dL_law_498 (fun v498_142 ev498_142 => ?_)
          refine hsd _ _ _ 499 _ _ _ _ (lw_ix 1 hL i18 LI (by decide) ev498_142) dL_law_499 (fun v499_143 ev499_143 => ?_)
          have q9 : v474_134 = v499_143 := by rw [ev499_143, ev474_134, ev498_142, ev473_133]
          subst q9
          refine z_aload_n (pc := 500) hZ 0 dL_law_500 rfl rfl ?_
          refine z_iload_n (pc := 501) hZ 3 dL_law_501 rfl rfl ?_
          refine z_iconst (pc := 502) hZ 2 dL_law_502 (by decide) ?_
          refine z_iadd (pc := 503) hZ dL_law_503 (fun v503_144 ev503_144 => ?_)
          refine hsd _ _ _ 504 _ _ _ _ (lw_ix 2 hL i18 LI (by decide) ev503_144) dL_law_504 (fun v504_145 ev504_145 => ?_)
          have q9 : v479_136 = v504_145 := by rw [ev504_145, ev479_136, ev503_144, ev478_135]
          subst q9
          refine z_aload_n (pc := 505) hZ 0 dL_law_505 rfl rfl ?_
          refine z_iload_n (pc := 506) hZ 3 dL_law_506 rfl rfl ?_
          refine z_iconst (pc := 507) hZ 3 dL_law_507 (by decide) ?_
          refine z_iadd (pc := 508) hZ dL_law_508 (fun v508_146 ev508_146 => ?_)
          refine hsd _ _ _ 509 _ _ _ _ (lw_ix 3 hL i18 LI (by decide) ev508_146) dL_law_509 (fun v509_147 ev509_147 => ?_)
          have q9 : v484_138 = v509_147 := by rw [ev509_147, ev484_138, ev508_146, ev483_137]
          subst q9
          refine z_aload_n (pc := 510) hZ 0 dL_law_510 rfl rfl ?_
          refine z_iload_n (pc := 511) hZ 3 dL_law_511 rfl rfl ?_
          refine z_iconst (pc := 512) hZ 4 dL_law_512 (by decide) ?_
          refine z_iadd (pc := 513) hZ dL_law_513 (fun v513_148 ev513_148 => ?_)
          refine hsd _ _ _ 514 _ _ _ _ (lw_ix 4 hL i18 LI (by decide) ev513_148) dL_law_514 (fun v514_149 ev514_149 => ?_)
          have q9 : v489_140 = v514_149 := by rw [ev514_149, ev489_140, ev513_148, ev488_139]
          subst q9
          refine z_toM hZ ?_
          refine z_callV (pc := 515) (As := [.int v474_134, .int v479_136, .int v484_138, .int v489_140]) (rest := []) hZ (cM_polynomial l D cR c1 c2 c3 m0 a1 a2 a3 (CX x0 ra v1 v2 v3 cR g_18 [] ++ PL LP f490_141) ka_18 na_18 ea_18 kb_18 nb_18 eb_18 k_18 n_18 e_18 bits_18 scale_18 K_18 N_18 E_18 v474_134 v479_136 v484_138 v489_140 (by exact hAK_18)) zyM_polynomial (z_goodV ml_L_63 im_M_polynomial se_M_polynomial in_M co_M_polynomial) 0 rfl rfl rfl rfl (by decide) rfl rfl (Nat.le_of_ble_eq_true rfl) (by decide) dL_law_515 (z_ki (fun r515_150 w1 tys1 hp => ?_))
          obtain ⟨ka515_150, na515_150, ea515_150, kb515_150, nb515_150, eb515_150, k515_150, n515_150, e515_150, bits515_150, scale515_150, K515_150, N515_150, E515_150, rfl, rfl, p515_150⟩ := hp
          have hS515_150 : SIM v1 v2 v3 f490_141 g_18 K515_150 N515_150 E515_150 := SIM_st hS_18 p490_141.2 p515_150.2.2
          refine z_toC hZ ?_
          refine z_pop (pc := 518) hZ dL_law_518 rfl ?_
          refine z_goto (pc := 519) hZ 555 dL_law_519 (by decide) ?_
          exact z_sub (pc := 555) hZ [0, 1, 2, 3] rfl (J555 E515_150 K515_150 N515_150 bits515_150 e515_150 ea515_150 eb515_150 f490_141 g_18 k515_150 ka515_150 kb515_150 n515_150 na515_150 nb515_150 scale515_150 (by exact hH_18) (by exact p515_150.2.1) (by exact hS515_150))
        by_cases w32_10 : v31_4 = 10
        · refine z_tabAt (pc := 32) hZ 10 522 w32_10 dL_law_32 (by decide) (by decide) rfl (by decide) ?_
          refine z_aload_n (pc := 522) hZ 1 dL_law_522 rfl rfl ?_
          refine z_aload_n (pc := 523) hZ 0 dL_law_523 rfl rfl ?_
          refine z_iload_n (pc := 524) hZ 3 dL_law_524 rfl rfl ?_
          refine z_iconst (pc := 525) hZ 1 dL_law_525 (by decide) ?_
          refine z_iadd (pc := 526) hZ dL_law_526 (fun v526_151 ev526_151 => ?_)
          refine hsd _ _ _ 527 _ _ _ _ (lw_ix 1 hL i18 LI (by decide) ev526_151) dL_law_527 (fun v527_152 ev527_152 => ?_)
          refine z_aload_n (pc := 528) hZ 0 dL_law_528 rfl rfl ?_
          refine z_iload_n (pc := 529) hZ 3 dL_law_529 rfl rfl ?_
          refine z_iconst (pc := 530) hZ 2 dL_law_530 (by decide) ?_
          refine z_iadd (pc := 531) hZ dL_law_531 (fun v531_153 ev531_153 => ?_)
          refine hsd _ _ _ 532 _ _ _ _ (lw_ix 2 hL i18 LI (by decide) ev531_153) dL_law_532 (fun v532_154 ev532_154 => ?_)
          refine z_callV (pc := 533) (As := [.int v527_152, .int v532_154]) (rest := []) hZ (cN_sort l D cR c1 c2 c3 x0 ra v1 v2 v3 (MW m0 a1 a2 a3 c1 c2 c3 (ka_18, na_18, ea_18, kb_18, nb_18, eb_18, k_18, n_18, e_18, bits_18, scale_18, K_18, N_18, E_18)) LP f_18 g_18 hH_18 v527_152 v532_154) zyN_sort (z_goodV ml_L_64 im_N_sort se_N_sort in_N co_N_sort) 0 rfl rfl rfl rfl (by decide) rfl rfl (Nat.le_of_ble_eq_true rfl) (by decide) dL_law_533 (z_ki (fun r533_155 w1 tys1 hp => ?_))
          obtain ⟨g533_155, rfl, rfl, hg533_155, p533_155⟩ := hp
          refine z_pop (pc := 536) hZ dL_law_536 rfl ?_
          refine z_aload_n (pc := 537) hZ 2 dL_law_537 rfl rfl ?_
          refine z_aload_n (pc := 538) hZ 0 dL_law_538 rfl rfl ?_
          refine z_iload_n (pc := 539) hZ 3 dL_law_539 rfl rfl ?_
          refine z_iconst (pc := 540) hZ 1 dL_law_540 (by decide) ?_
          refine z_iadd (pc := 541) hZ dL_law_541 (fun v541_156 ev541_156 => ?_)
          refine hsd _ _ _ 542 _ _ _ _ (lw_ix 1 hL i18 LI (by decide) ev541_156) dL_law_542 (fun v542_157 ev542_157 => ?_)
          have q9 : v527_152 = v542_157 := by rw [ev542_157, ev527_152, ev541_156, ev526_151]
          subst q9
          refine z_aload_n (pc := 543) hZ 0 dL_law_543 rfl rfl ?_
          refine z_iload_n (pc := 544) hZ 3 dL_law_544 rfl rfl ?_
          refine z_iconst (pc := 545) hZ 2 dL_law_545 (by decide) ?_
          refine z_iadd (pc := 546) hZ dL_law_546 (fun v546_158 ev546_158 => ?_)
          refine hsd _ _ _ 547 _ _ _ _ (lw_ix 2 hL i18 LI (by decide) ev546_158) dL_law_547 (fun v547_159 ev547_159 => ?_)
          have q9 : v532_154 = v547_159 := by rw [ev547_159, ev532_154, ev546_158, ev531_153]
          subst q9
          refine z_toM hZ ?_
          refine z_callV (pc := 548) (As := [.int v527_152, .int v532_154]) (rest := []) hZ (cM_sort l D cR c1 c2 c3 m0 a1 a2 a3 (CX x0 ra v1 v2 v3 cR g533_155 [] ++ PL LP f_18) ka_18 na_18 ea_18 kb_18 nb_18 eb_18 k_18 n_18 e_18 bits_18 scale_18 K_18 N_18 E_18 v527_152 v532_154 (by exact hAK_18)) zyM_sort (z_goodV ml_L_67 im_M_sort se_M_sort in_M co_M_sort) 0 rfl rfl rfl rfl (by decide) rfl rfl (Nat.le_of_ble_eq_true rfl) (by decide) dL_law_548 (z_ki (fun r548_160 w1 tys1 hp => ?_))
          obtain ⟨ka548_160, na548_160, ea548_160, kb548_160, nb548_160, eb548_160, k548_160, n548_160, e548_160, K548_160, N548_160, E548_160, rfl, rfl, p548_160⟩ := hp
          have hS548_160 : SIM v1 v2 v3 f_18 g533_155 K548_160 N548_160 E548_160 := SIM_st hS_18 p533_155.2 p548_160.2.2
          refine z_toC hZ ?_
          refine z_pop (pc := 551) hZ dL_law_551 rfl ?_
          refine z_goto (pc := 552) hZ 555 dL_law_552 (by decide) ?_
          exact z_sub (pc := 555) hZ [0, 1, 2, 3] rfl (J555 E548_160 K548_160 N548_160 bits_18 e548_160 ea548_160 eb548_160 f_18 g533_155 k548_160 ka548_160 kb548_160 n548_160 na548_160 nb548_160 scale_18 (by exact hg533_155) (by exact p548_160.2.1) (by exact hS548_160))
        refine z_tabOut (pc := 32) hZ 555 dL_law_32 (by have n0 := lv_neT w32_0 (a := 0) (by decide); have n1 := lv_neT w32_1 (a := 1) (by decide); have n2 := lv_neT w32_2 (a := 2) (by decide); have n3 := lv_neT w32_3 (a := 3) (by decide); have n4 := lv_neT w32_4 (a := 4) (by decide); have n5 := lv_neT w32_5 (a := 5) (by decide); have n6 := lv_neT w32_6 (a := 6) (by decide); have n7 := lv_neT w32_7 (a := 7) (by decide); have n8 := lv_neT w32_8 (a := 8) (by decide); have n9 := lv_neT w32_9 (a := 9) (by decide); have n10 := lv_neT w32_10 (a := 10) (by decide); omega) (by decide) ?_
        exact z_sub (pc := 555) hZ [0, 1, 2, 3] rfl (J555 E_18 K_18 N_18 bits_18 e_18 ea_18 eb_18 f_18 g_18 k_18 ka_18 kb_18 n_18 na_18 nb_18 scale_18 (by exact hH_18) (by exact hAK_18) (by exact hS_18))
  exact z_sub (pc := 18) hZ [0, 1, 2, 3] rfl (L18 _ 0 E K N bits e ea eb f g k ka kb n na nb scale (Nat.lt_succ_self _) (by exact hH) (by exact hAK) (by exact hS) (by exact lw_00))
set_option maxHeartbeats 8000000 in
set_option maxRecDepth 100000 in
theorem law_walk (l : Launch) (D : va_G) {Z : zZ} (hZ : zI l D vwCl zNF zNM RL bL_law 4 ret wsL_law room_1 600000 7302250 (fun v _ _ => v = some (.int 1)) false Z) {b L : Nat} {xs : Nat → Int32} (hL : L ≤ 2560)
    (hsl : ∀ (k n : Nat) (tys : zT) (pc : Nat) (lv : List (Nat × Value)) (st : List Value) (w : va_W), decode bL_law pc = .ok (.arraylength, 1) → Z k n tys (pc + 1) lv (.int (Int32.ofNat L) :: st) w → Z k n tys pc lv (.ref b :: st) w)
    (hsd : ∀ (k n : Nat) (tys : zT) (pc : Nat) (lv : List (Nat × Value)) (st : List Value) (w : va_W) (i : Int32), vp_in i L → decode bL_law pc = .ok (.iaload, 1) → (∀ v : Int32, v = xs i.toNatClampNeg → Z k n tys (pc + 1) lv (.int v :: st) w) → Z k n tys pc lv (.int i :: .ref b :: st) w) :
    Z 0 0 [] 0 [(0, .ref b)] [] [] := by
  refine z_new (pc := 0) (ci := 1) (fs := [.null, .null, .null, .null]) hZ uc_N tyN tyN_ok (zb cl_L_7) (zb ins_N) (zb in_N) rfl (fun j hj => by rcases (show j = 0 ∨ j = 1 ∨ j = 2 ∨ j = 3 by omega) with rfl | rfl | rfl | rfl <;> rfl) (by decide) (by decide) dL_law_0 (fun x0 => ?_)
  refine z_dup (pc := 3) hZ dL_law_3 rfl ?_
  refine z_callI (pc := 4) (As := []) (rest := [.ref x0]) hZ (cN_init l D x0) zyN_init (z_good co_N_init) (zb in_N) (zb ml_L_9) (zb im_N_init) rfl (by decide) rfl rfl (Nat.le_of_ble_eq_true rfl) (by decide) dL_law_4 (z_kv (fun w1 tys1 hp => ?_))
  obtain ⟨ra, v1, v2, v3, cR, g, LP, f, rfl, rfl, hH, hf0, hJ0⟩ := hp
  refine z_widen (pc := 7) (k' := 37) (n' := 141) hZ (by decide) (by decide) ?_
  refine z_astore_n (pc := 7) hZ [(1, .ref x0), (0, .ref b)] dL_law_7 rfl (by decide) rfl ?_
  refine z_new (pc := 8) (ci := 2) (fs := M0) hZ uc_M tyM tyM_ok (zb cl_L_10) (zb ins_M) (zb in_M) rfl (fun j hj => by rcases (show j = 0 ∨ j = 1 ∨ j = 2 ∨ j = 3 ∨ j = 4 ∨ j = 5 ∨ j = 6 ∨ j = 7 ∨ j = 8 ∨ j = 9 ∨ j = 10 ∨ j = 11 ∨ j = 12 ∨ j = 13 by omega) with rfl | rfl | rfl | rfl | rfl | rfl | rfl | rfl | rfl | rfl | rfl | rfl | rfl | rfl <;> rfl) (by decide) (by decide) dL_law_8 (fun m0 => ?_)
  refine z_swap hZ (a := []) (b := CX x0 ra v1 v2 v3 cR g [] ++ PL LP f) (c := [(m0, .inr (2, M0))]) ?_
  refine z_dup (pc := 11) hZ dL_law_11 rfl ?_
  refine z_callI (pc := 12) (As := []) (rest := [.ref m0]) hZ (cM_init l D cR m0 (CX x0 ra v1 v2 v3 cR g [] ++ PL LP f)) zyM_init (z_good co_M_init) (zb in_M) (zb ml_L_12) (zb im_M_init) rfl (by decide) rfl rfl (Nat.le_of_ble_eq_true rfl) (by decide) dL_law_12 (z_kv (fun w1 tys1 hp => ?_))
  obtain ⟨a1, a2, a3, c1, c2, c3, K, rfl, rfl, hK1⟩ := hp
  refine z_toC hZ ?_
  refine z_widen (pc := 15) (k' := 41) (n' := 251) hZ (by decide) (by decide) ?_
  refine z_astore_n (pc := 15) hZ [(2, .ref m0), (1, .ref x0), (0, .ref b)] dL_law_15 rfl (by decide) rfl ?_
  refine z_iconst (pc := 16) hZ 0 dL_law_16 (by decide) ?_
  refine z_istore_n (pc := 17) hZ [(3, .int 0), (2, .ref m0), (1, .ref x0), (0, .ref b)] dL_law_17 rfl (by decide) rfl ?_
  exact z_sub (pc := 18) hZ [3, 2, 1, 0] rfl (law_loop l D hZ hL hsl hsd cR c1 c2 c3 x0 ra v1 v2 v3 m0 a1 a2 a3 LP f g hH 0 0 0 0 0 0 0 0 0 0 0 K (fun _ => 0) (fun _ => 0) (AK_0 hK1) (SIM_0 hJ0 hH hf0 hK1))
