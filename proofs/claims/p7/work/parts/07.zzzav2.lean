noncomputable section
def SNC (p : Int64) (u : Int32) : Prop := (un p < 9223372036854775808 ∨ (un p = 9223372036854775808 ∧ u.toInt = 0)) ∧ -5000 ≤ u.toInt ∧ u.toInt ≤ 5000
def RBv (p : Int64) (u : Int32) (st : Bool) : Nat := RT (un p * 2 ^ (u.toInt + (OFF : Int)).toNat) st
def NMM (m : Int64) (e : Int32) (R : Nat) : Prop := un m ≤ 9007199254740992 ∧ -1074 ≤ e.toInt ∧ e.toInt ≤ 6000 ∧ un m * 2 ^ (e.toInt + (OFF : Int)).toNat = R
theorem I_m1074 : (-1074 : Int32).toInt = -1074 := by decide
theorem I_53 : (53 : Int32).toInt = 53 := by decide
theorem I_64 : (64 : Int32).toInt = 64 := by decide
theorem I_971 : (971 : Int32).toInt = 971 := by decide
theorem I_1024 : (1024 : Int32).toInt = 1024 := by decide
theorem bl_64 (p : Int64) : BL (un p) ≤ 64 := BL_le (un_lt p)
theorem bl_of {p : Int64} {r v : Int32} (h : r.toInt = 64 - (BL (un p) : Int)) (e : v = 64 - r) : v.toInt = BL (un p) := by
  have := bl_64 p
  rw [e, I_sub, I_64] <;> (try rw [I_64]) <;> omega
theorem sn_dr {p : Int64} {u r3 v6 v13 v16 v20 v25 : Int32} (hc : SNC p u) (h : r3.toInt = 64 - (BL (un p) : Int)) (e6 : v6 = 64 - r3) (e13 : v13 = u + v6) (e16 : v16 = v13 - 53) (e20 : v20 = if v16 < -1074 then -1074 else v16) (e25 : v25 = v20 - u) : v25.toInt = max (u.toInt + (BL (un p) : Int) - 53) (-1074) - u.toInt ∧ v20.toInt = max (u.toInt + (BL (un p) : Int) - 53) (-1074) := by
  obtain ⟨-, h1, h2⟩ := hc
  have h6 := bl_of h e6
  have hb := bl_64 p
  have h13 : v13.toInt = u.toInt + v6.toInt := by rw [e13, I_add] <;> omega
  have h16 : v16.toInt = v13.toInt - 53 := by rw [e16, I_sub, I_53] <;> (try rw [I_53]) <;> omega
  have h20 : v20.toInt = max (u.toInt + (BL (un p) : Int) - 53) (-1074) := by
    rw [e20]
    split
    · rename_i q
      rw [Int32.lt_iff_toInt_lt, I_m1074] at q
      rw [I_m1074]; omega
    · rename_i q
      rw [Int32.lt_iff_toInt_lt, I_m1074] at q
      omega
  have h25 : v25.toInt = v20.toInt - u.toInt := by rw [e25, I_sub] <;> omega
  exact ⟨by omega, h20⟩
theorem RF_le {s d L : Nat} {st : Bool} (h : s < 2 ^ L) (hd : L ≤ d + 53) : RF s d st ≤ 9007199254740992 := by
  have h1 : s / 2 ^ d < 2 ^ 53 := by
    rw [Nat.div_lt_iff_lt_mul (Nat.two_pow_pos d), ← Nat.pow_add]
    exact Nat.lt_of_lt_of_le h (Nat.pow_le_pow_right (by decide) (by omega))
  rw [show (2 : Nat) ^ 53 = 9007199254740992 by decide] at h1
  unfold RF
  split <;> omega
theorem RF_0 {d : Nat} {st : Bool} : RF 0 d st = 0 := by
  have := Nat.two_pow_pos (d - 1)
  unfold RF
  rw [ifn (by unfold RU; rw [Nat.zero_mod]; omega), Nat.zero_div]
theorem sn_1 {p m : Int64} {u r3 v6 v13 v16 v20 v25 e : Int32} {st : Bool} (hc : SNC p u) (h : r3.toInt = 64 - (BL (un p) : Int)) (e6 : v6 = 64 - r3) (e13 : v13 = u + v6) (e16 : v16 = v13 - 53) (e20 : v20 = if v16 < -1074 then -1074 else v16) (e25 : v25 = v20 - u) (c : ¬ v25 ≤ 0) (hm : DBC p v25 → un m = RF (un p) v25.toInt.toNat st) (ee : e = u + v25) : NMM m e (RBv p u st) := by
  obtain ⟨hd, h20⟩ := sn_dr hc h e6 e13 e16 e20 e25
  obtain ⟨hp, h1, h2⟩ := hc
  have hb := bl_64 p
  rw [Int32.le_iff_toInt_le, I0] at c
  have h3 := hm ⟨by omega, by
    rcases hp with q | q
    · exact Or.inl q
    · refine Or.inr ⟨q.1, ?_⟩
      have : BL (un p) = 63 + 1 := by rw [q.1]; exact BL_eq (by decide) (by decide)
      omega⟩
  have h4 : e.toInt = u.toInt + v25.toInt := by rw [ee, I_add] <;> omega
  have hOF : (OFF : Int) = 6000 := rfl
  refine ⟨?_, by omega, by omega, ?_⟩
  · rw [h3]; exact RF_le (BL_lt (T := un p)) (by omega)
  · by_cases z : un p = 0
    · rw [h3, RBv, z, Nat.zero_mul, RT_0, RF_0, Nat.zero_mul]
    · rw [h3, RBv, RT_d (d := v25.toInt.toNat) (by omega) z]
      · congr 2
        omega
      · have : GL = 4926 := rfl
        omega
theorem sn_2 {p : Int64} {u r3 v6 v13 v16 v20 v25 : Int32} {st : Bool} (hc : SNC p u) (h : r3.toInt = 64 - (BL (un p) : Int)) (e6 : v6 = 64 - r3) (e13 : v13 = u + v6) (e16 : v16 = v13 - 53) (e20 : v20 = if v16 < -1074 then -1074 else v16) (e25 : v25 = v20 - u) (c : v25 ≤ 0) : NMM p u (RBv p u st) := by
  obtain ⟨hd, h20⟩ := sn_dr hc h e6 e13 e16 e20 e25
  obtain ⟨hp, h1, h2⟩ := hc
  rw [Int32.le_iff_toInt_le, I0] at c
  have hb : BL (un p) ≤ 53 := by omega
  have h3 : un p < 2 ^ 53 := Nat.lt_of_lt_of_le (BL_lt (T := un p)) (Nat.pow_le_pow_right (by decide) hb)
  rw [show (2 : Nat) ^ 53 = 9007199254740992 by decide] at h3
  have hOF : (OFF : Int) = 6000 := rfl
  have hG : GL = 4926 := rfl
  refine ⟨by omega, by omega, by omega, ?_⟩
  rw [RBv, RT_e (by omega)]
theorem ca_0 {neg : Bool} : CA (2, 0, 0) (mkR neg 0) := by
  unfold mkR
  rw [ifn (by have := TOP_pos; omega)]
  refine ⟨rfl, Or.inl ⟨rfl, rfl⟩, ?_⟩
  show sc (0 : Int64).toInt (0 : Int32).toInt = _
  rw [L0z, sc, Int.zero_mul]
  cases neg <;> rfl
theorem sn_z {m : Int64} {e : Int32} {R : Nat} {neg : Bool} (h : NMM m e R) (c : m = 0) : CA (2, 0, 0) (mkR neg R) := by
  have : R = 0 := by rw [← h.2.2.2, c, un0, Nat.zero_mul]
  rw [this]; exact ca_0
theorem sn_bl {m : Int64} {e r82 v85 v88 : Int32} {R : Nat} (h : NMM m e R) (h82 : r82.toInt = 64 - (BL (un m) : Int)) (e85 : v85 = 64 - r82) (e88 : v88 = v85 + e) : v88.toInt = BL (un m) + e.toInt := by
  obtain ⟨h1, h2, h3, h4⟩ := h
  have := bl_of h82 e85
  have hb := bl_64 m
  rw [e88, I_add] <;> omega
theorem sn_i {m : Int64} {e r82 v85 v88 p1 : Int32} {R : Nat} (h : NMM m e R) (h82 : r82.toInt = 64 - (BL (un m) : Int)) (e85 : v85 = 64 - r82) (e88 : v88 = v85 + e) (c : ¬ v88 ≤ 1024) (c0 : ¬ m = 0) : CA (if p1 = 0 then 3 else 4, 0, 0) (mkR (bb p1) R) := by
  have hb := sn_bl h h82 e85 e88
  obtain ⟨h1, h2, h3, h4⟩ := h
  rw [Int32.le_iff_toInt_le, I_1024] at c
  have h0 : un m ≠ 0 := fun q => c0 (un_0.mpr q)
  have hs := BL_self h0
  have hOF : (OFF : Int) = 6000 := rfl
  have hOF' : OFF = 6000 := rfl
  have hg : TOP ≤ R := by
    rw [← h4]
    refine Nat.le_trans ?_ (Nat.mul_le_mul_right _ hs)
    rw [← Nat.pow_add]
    exact TOP_le (by omega)
  unfold mkR
  rw [ifp hg]
  by_cases q : p1 = 0
  · rw [ifp q, bb_f q]; rfl
  · rw [ifn q, bb_t q]; rfl
def NN (m : Int64) (e : Int32) (R : Nat) : Prop := un m < 9007199254740992 ∧ ¬ un m = 0 ∧ -1074 ≤ e.toInt ∧ e.toInt ≤ 971 ∧ (un m % 2 = 1 ∨ e.toInt = 971) ∧ un m * 2 ^ (e.toInt + (OFF : Int)).toNat = R ∧ R < TOP
theorem sn_lt {m : Int64} {e v88 : Int32} {R : Nat} (h : NMM m e R) (hb : v88.toInt = BL (un m) + e.toInt) (c : v88 ≤ 1024) : R < TOP := by
  obtain ⟨h1, h2, h3, h4⟩ := h
  rw [Int32.le_iff_toInt_le, I_1024] at c
  have hOF : (OFF : Int) = 6000 := rfl
  have hOF' : OFF = 6000 := rfl
  rw [← h4]
  have hl := BL_lt (T := un m)
  refine Nat.lt_of_lt_of_le (Nat.mul_lt_mul_of_pos_right hl (Nat.two_pow_pos _)) ?_
  rw [← Nat.pow_add]
  exact le_TOP (by omega)
theorem sn_u {m m2 : Int64} {e e2 r82 v85 v88 t v113 up : Int32} {R : Nat} (h : NMM m e R) (h82 : r82.toInt = 64 - (BL (un m) : Int)) (e85 : v85 = 64 - r82) (e88 : v88 = v85 + e) (c : v88 ≤ 1024) (c0 : ¬ m = 0) (ht : ¬ m = 0 → TZL m t) (e113 : v113 = 971 - e) (e114 : up = if v113 < t then v113 else t) (cu : ¬ up < 0) (em : m2 = (m.toUInt64 >>> (up.toInt64.toUInt64 &&& Int64.toUInt64 63)).toInt64) (ee : e2 = e + up) : NN m2 e2 R := by
  have hb := sn_bl h h82 e85 e88
  have hR := sn_lt h hb c
  obtain ⟨h1, h2, h3, h4⟩ := h
  obtain ⟨t', ht1, ht2, ht3, ht4⟩ := ht c0
  rw [Int32.le_iff_toInt_le, I_1024] at c
  rw [Int32.lt_iff_toInt_lt, I0] at cu
  have h0 : un m ≠ 0 := fun q => c0 (un_0.mpr q)
  have h113 : v113.toInt = 971 - e.toInt := by rw [e113, I_sub, I_971] <;> (try rw [I_971]) <;> omega
  have hup : up.toInt = min (971 - e.toInt) t' := by
    rw [e114]
    split
    · rename_i q
      rw [Int32.lt_iff_toInt_lt] at q
      omega
    · rename_i q
      rw [Int32.lt_iff_toInt_lt] at q
      omega
  obtain ⟨k, hk⟩ : ∃ k : Nat, up.toInt = k := ⟨up.toInt.toNat, by omega⟩
  have hm := un_shr hk (by omega) em
  have he : e2.toInt = e.toInt + up.toInt := by rw [ee, I_add] <;> omega
  have hkt : k ≤ t' := by omega
  have hdv : un m % 2 ^ k = 0 := by
    obtain ⟨w, rfl⟩ : ∃ w, t' = k + w := ⟨t' - k, by omega⟩
    rw [Nat.pow_add] at ht3
    have := Nat.mod_mul_right_mod (un m) (2 ^ k) (2 ^ w)
    rw [ht3, Nat.zero_mod] at this
    exact this.symm
  have hmul : un m2 * 2 ^ k = un m := by
    rw [hm]
    have := Nat.div_add_mod (un m) (2 ^ k)
    rw [hdv, Nat.add_zero, Nat.mul_comm] at this
    exact this
  have hOF : (OFF : Int) = 6000 := rfl
  have hbl : BL (un m) ≤ 64 := bl_64 m
  refine ⟨?_, ?_, by omega, by omega, ?_, ?_, hR⟩
  · rcases Nat.lt_or_ge (un m) 9007199254740992 with q | q
    · rw [hm]; exact Nat.lt_of_le_of_lt (Nat.div_le_self _ _) q
    · have em2 : un m = 9007199254740992 := by omega
      have hb2 : BL (un m) = 53 + 1 := by rw [em2]; exact BL_eq (by decide) (by decide)
      have k1 : 1 ≤ k := by
        rcases Nat.eq_zero_or_pos k with z | z
        · exfalso
          have h5 : t' = 0 := by omega
          subst h5
          rw [em2] at ht4
          exact absurd ht4 (by decide)
        · exact z
      have : 2 ^ 1 ≤ 2 ^ k := Nat.pow_le_pow_right (by decide) k1
      have h6 : un m2 * 2 ^ 1 ≤ un m2 * 2 ^ k := Nat.mul_le_mul_left _ this
      rw [Nat.pow_one] at h6
      omega
  · intro q; rw [q, Nat.zero_mul] at hmul; exact h0 hmul.symm
  · by_cases q : k = t'
    · left; rw [hm, q]; exact ht4
    · right; omega
  · rw [← h4, ← hmul, Nat.mul_assoc, ← Nat.pow_add]
    congr 2
    omega
theorem sn_l {m m2 : Int64} {e e2 r82 v85 v88 t v113 up ng : Int32} {R : Nat} (h : NMM m e R) (h82 : r82.toInt = 64 - (BL (un m) : Int)) (e85 : v85 = 64 - r82) (e88 : v88 = v85 + e) (c : v88 ≤ 1024) (c0 : ¬ m = 0) (ht : ¬ m = 0 → TZL m t) (e113 : v113 = 971 - e) (e114 : up = if v113 < t then v113 else t) (cu : up < 0) (en : ng = -up) (em : m2 = m <<< (ng.toInt64 &&& 63)) (ee : e2 = e + up) : NN m2 e2 R := by
  have hb := sn_bl h h82 e85 e88
  have hR := sn_lt h hb c
  obtain ⟨h1, h2, h3, h4⟩ := h
  obtain ⟨t', ht1, ht2, ht3, ht4⟩ := ht c0
  rw [Int32.le_iff_toInt_le, I_1024] at c
  rw [Int32.lt_iff_toInt_lt, I0] at cu
  have h0 : un m ≠ 0 := fun q => c0 (un_0.mpr q)
  have h113 : v113.toInt = 971 - e.toInt := by rw [e113, I_sub, I_971] <;> (try rw [I_971]) <;> omega
  have hup : up.toInt = 971 - e.toInt := by
    rw [e114] at cu ⊢
    split
    · exact h113
    · rename_i q
      rw [ifn q] at cu
      omega
  have hb1 := BL_ge (T := un m) (k := 0) (by rw [Nat.pow_zero]; omega)
  have hng : ng.toInt = -up.toInt := by rw [en, I_neg] <;> omega
  obtain ⟨k, hk⟩ : ∃ k : Nat, ng.toInt = k := ⟨ng.toInt.toNat, by omega⟩
  have hm := un_shl hk (by omega) em
  have he : e2.toInt = e.toInt + up.toInt := by rw [ee, I_add] <;> omega
  have hlt : un m * 2 ^ k < 2 ^ 53 := by
    refine Nat.lt_of_lt_of_le (Nat.mul_lt_mul_of_pos_right (BL_lt (T := un m)) (Nat.two_pow_pos k)) ?_
    rw [← Nat.pow_add]
    exact Nat.pow_le_pow_right (by decide) (by omega)
  rw [show (2 : Nat) ^ 53 = 9007199254740992 by decide] at hlt
  rw [Nat.mod_eq_of_lt (by omega)] at hm
  have hOF : (OFF : Int) = 6000 := rfl
  have hk0 := Nat.two_pow_pos k
  refine ⟨by omega, ?_, by omega, by omega, Or.inr (by omega), ?_, hR⟩
  · rw [hm]
    exact fun q => by
      rcases Nat.mul_eq_zero.mp q with z | z
      · exact h0 z
      · omega
  · rw [← h4, hm, Nat.mul_assoc, ← Nat.pow_add]
    congr 2
    omega
theorem mkR_r {neg : Bool} {R : Nat} (h : R < TOP) : mkR neg R = .inr (.inl (if neg = true then -(R : Int) else R)) := ifn (Nat.not_le.mpr h)
theorem sn_s0 {m : Int64} {e p1 : Int32} {R : Nat} (h : NN m e R) (c : p1 = 0) : CA (2, m, e) (mkR (bb p1) R) := by
  obtain ⟨h1, h2, h3, h4, h5, h6, h7⟩ := h
  rw [mkR_r h7, bb_f c]
  have hm := un_of m
  rw [ifp (by omega)] at hm
  refine ⟨rfl, Or.inr ⟨fun q => h2 (un_0.mp q), ?_, h3, h4, ?_⟩, ?_⟩
  · show m.toInt.natAbs < _
    omega
  · show m.toInt % 2 = 1 ∨ e = 971
    rcases h5 with q | q
    · left; omega
    · right; exact Int32.toInt_inj.mp (by rw [q, I_971])
  · show sc m.toInt e.toInt = _
    rw [sc, hm]
    simp only [Bool.false_eq_true, if_false]
    rw [← h6]; push_cast; rfl
theorem sn_s1 {m n : Int64} {e p1 : Int32} {R : Nat} (h : NN m e R) (c : ¬ p1 = 0) (en : n = -m) : CA (2, n, e) (mkR (bb p1) R) := by
  obtain ⟨h1, h2, h3, h4, h5, h6, h7⟩ := h
  rw [mkR_r h7, bb_t c]
  have hm := un_of m
  rw [ifp (by omega)] at hm
  have hn : n.toInt = -m.toInt := by rw [en, L_neg (by omega)]
  refine ⟨rfl, Or.inr ⟨fun q => ?_, ?_, h3, h4, ?_⟩, ?_⟩
  · have : n = 0 := q
    rw [this, L0z] at hn
    omega
  · show n.toInt.natAbs < _
    omega
  · show n.toInt % 2 = 1 ∨ e = 971
    rcases h5 with q | q
    · left; omega
    · right; exact Int32.toInt_inj.mp (by rw [q, I_971])
  · show sc n.toInt e.toInt = _
    rw [sc, hn, hm]
    simp only [if_true]
    rw [← h6, Int.neg_mul]; push_cast; rfl
end
