noncomputable section
def ui (x : Int32) : Nat := x.toBitVec.toNat
def un (x : Int64) : Nat := x.toBitVec.toNat
theorem ui_lt (x : Int32) : ui x < 4294967296 := x.toBitVec.isLt
theorem un_lt (x : Int64) : un x < 18446744073709551616 := x.toBitVec.isLt
theorem ui_of (x : Int32) : x.toInt = if ui x < 2147483648 then (ui x : Int) else (ui x : Int) - 4294967296 := by
  have e1 : x.toInt = x.toBitVec.toInt := rfl
  have h := ui_lt x
  rw [e1, BitVec.toInt_eq_toNat_bmod, Int.bmod_def]
  show (if ((ui x : Int) % ((2 ^ 32 : Nat) : Int)) < (((2 ^ 32 : Nat) : Int) + 1) / 2 then _ else _) = _
  rw [show ((2 ^ 32 : Nat) : Int) = 4294967296 from rfl]
  show (if ((ui x : Int) % 4294967296) < (4294967296 + 1) / 2 then (ui x : Int) % 4294967296 else (ui x : Int) % 4294967296 - 4294967296) = _
  split <;> split <;> omega
theorem un_of (x : Int64) : x.toInt = if un x < 9223372036854775808 then (un x : Int) else (un x : Int) - 18446744073709551616 := by
  have e1 : x.toInt = x.toBitVec.toInt := rfl
  have h := un_lt x
  rw [e1, BitVec.toInt_eq_toNat_bmod, Int.bmod_def]
  show (if ((un x : Int) % ((2 ^ 64 : Nat) : Int)) < (((2 ^ 64 : Nat) : Int) + 1) / 2 then _ else _) = _
  rw [show ((2 ^ 64 : Nat) : Int) = 18446744073709551616 from rfl]
  show (if ((un x : Int) % 18446744073709551616) < (18446744073709551616 + 1) / 2 then (un x : Int) % 18446744073709551616 else (un x : Int) % 18446744073709551616 - 18446744073709551616) = _
  split <;> split <;> omega
theorem ui_inj {x y : Int32} (h : ui x = ui y) : x = y := Int32.toInt_inj.mp (by rw [ui_of x, ui_of y, h])
theorem un_inj {x y : Int64} (h : un x = un y) : x = y := Int64.toInt_inj.mp (by rw [un_of x, un_of y, h])
theorem un0 : un 0 = 0 := rfl
theorem un1 : un 1 = 1 := rfl
theorem un_0 {x : Int64} : x = 0 ↔ un x = 0 := ⟨fun h => by rw [h]; rfl, fun h => un_inj (by rw [h]; rfl)⟩
theorem amtu : ∀ k : Fin 64, ((nI k.val).toInt64.toUInt64 &&& Int64.toUInt64 63).toBitVec % 64 = BitVec.ofNat 64 k.val := by decide
theorem amtv : ∀ k : Fin 32, ((nI k.val).toUInt32 &&& Int32.toUInt32 31).toBitVec % 32 = BitVec.ofNat 32 k.val := by decide
theorem un_shr {x v : Int64} {y : Int32} {k : Nat} (hy : y.toInt = k) (hk : k < 64) (e : v = (x.toUInt64 >>> (y.toInt64.toUInt64 &&& Int64.toUInt64 63)).toInt64) : un v = un x / 2 ^ k := by
  have h := amtu ⟨k, hk⟩
  subst e
  show ((x.toUInt64 >>> (y.toInt64.toUInt64 &&& Int64.toUInt64 63)).toBitVec).toNat = _
  rw [nI_of_toInt hy hk, UInt64.toBitVec_shiftRight, h, BitVec.ushiftRight_eq', BitVec.toNat_ofNat, Nat.mod_eq_of_lt (Nat.lt_trans hk (by decide)), BitVec.toNat_ushiftRight, Nat.shiftRight_eq_div_pow]
  rfl
theorem ui_shr {x v : Int32} {y : Int32} {k : Nat} (hy : y.toInt = k) (hk : k < 32) (e : v = (x.toUInt32 >>> (y.toUInt32 &&& Int32.toUInt32 31)).toInt32) : ui v = ui x / 2 ^ k := by
  have h := amtv ⟨k, hk⟩
  subst e
  show ((x.toUInt32 >>> (y.toUInt32 &&& Int32.toUInt32 31)).toBitVec).toNat = _
  rw [nI_of_toInt hy (Nat.lt_trans hk (by decide)), UInt32.toBitVec_shiftRight, h, BitVec.ushiftRight_eq', BitVec.toNat_ofNat, Nat.mod_eq_of_lt (Nat.lt_trans hk (by decide)), BitVec.toNat_ushiftRight, Nat.shiftRight_eq_div_pow]
  rfl
theorem un_shl {x v : Int64} {y : Int32} {k : Nat} (hy : y.toInt = k) (hk : k < 64) (e : v = x <<< (y.toInt64 &&& 63)) : un v = un x * 2 ^ k % 18446744073709551616 := by
  have h := L_amt hy hk
  subst e
  show (x.toBitVec <<< ((y.toInt64 &&& 63).toBitVec.smod 64)).toNat = _
  rw [h, BitVec.shiftLeft_eq', BitVec.toNat_ofNat, Nat.mod_eq_of_lt (Nat.lt_trans hk (by decide)), BitVec.toNat_shiftLeft, Nat.shiftLeft_eq]
  rfl
theorem un_l2i {x : Int64} {v : Int32} (e : v = x.toInt32) : ui v = un x % 4294967296 := by
  subst e
  show (x.toBitVec.signExtend 32).toNat = _
  rw [BitVec.signExtend_eq_setWidth_of_le _ (by decide), BitVec.toNat_setWidth]
  rfl
theorem un_add {x y v : Int64} (e : v = x + y) : un v = (un x + un y) % 18446744073709551616 := by subst e; exact BitVec.toNat_add _ _
theorem un_sub {x y v : Int64} (e : v = x - y) (h : un y ≤ un x) : un v = un x - un y := by
  subst e
  have h1 := un_lt x
  show (x.toBitVec - y.toBitVec).toNat = _
  rw [BitVec.toNat_sub]
  show (2 ^ 64 - un y + un x) % 2 ^ 64 = _
  rw [show (2 : Nat) ^ 64 = 18446744073709551616 from rfl]
  omega
theorem un_neg {x v : Int64} (e : v = -x) : un v = (18446744073709551616 - un x) % 18446744073709551616 := by subst e; exact BitVec.toNat_neg _
theorem un_and1 {x v : Int64} (e : v = x &&& 1) : un v = un x % 2 := by
  subst e
  show (x &&& 1).toBitVec.toNat = _
  rw [Int64.toBitVec_and, BitVec.toNat_and, show (1 : Int64).toBitVec.toNat = 1 from rfl, Nat.and_one_is_mod]
  rfl
theorem un_p {x : Int64} (h : 0 ≤ x.toInt) : (un x : Int) = x.toInt := by
  have := un_of x
  have h2 := un_lt x
  split at this <;> omega
theorem ui_p {x : Int32} (h : 0 ≤ x.toInt) : (ui x : Int) = x.toInt := by
  have := ui_of x
  have h2 := ui_lt x
  split at this <;> omega
-- leading zeros
def NZ (p : Int32) (K : Nat) (n i : Int32) : Prop := 0 < ui i ∧ ui i < 2 ^ K ∧ n.toInt + 1 = 32 - (BL (ui p) : Int) + BL (ui i) ∧ n.toInt ≤ 31 ∧ 0 ≤ n.toInt
theorem nz_0 {p : Int32} (c : 0 < p) : ui p < 2147483648 ∧ 0 < ui p := by
  rw [Int32.lt_iff_toInt_lt, I0] at c
  have := ui_of p
  have h2 := ui_lt p
  split at this <;> omega
theorem nz_a {p : Int32} {K : Nat} {a n i : Int32} (h : 0 < ui i ∧ n.toInt + 1 = 32 - (BL (ui p) : Int) + BL (ui i) ∧ n.toInt ≤ 31 ∧ 0 ≤ n.toInt ∧ ui i < 2147483648) (ha : a.toInt = ((2 ^ K : Nat) : Int)) (c : i < a) : NZ p K n i := by
  rw [Int32.lt_iff_toInt_lt, ha] at c
  have := ui_p (x := i) (by have := ui_of i; split at this <;> omega)
  exact ⟨h.1, by omega, h.2.1, h.2.2.1, h.2.2.2.1⟩
theorem nz_b {p : Int32} {K : Nat} {a y n i n2 i2 : Int32} (h : 0 < ui i ∧ n.toInt + 1 = 32 - (BL (ui p) : Int) + BL (ui i) ∧ n.toInt ≤ 31 ∧ 0 ≤ n.toInt ∧ ui i < 2147483648) (hb : ui i < 2 ^ (K + K)) (hK : K ≤ 16) (ha : a.toInt = ((2 ^ K : Nat) : Int)) (hy : y.toInt = K) (c : ¬ i < a) (e1 : n2 = n + Int32.ofInt (-(K : Int))) (e2 : i2 = (i.toUInt32 >>> (y.toUInt32 &&& Int32.toUInt32 31)).toInt32) (hi : (Int32.ofInt (-(K : Int))).toInt = -(K : Int)) : NZ p K n2 i2 := by
  rw [Int32.lt_iff_toInt_lt, ha] at c
  have h1 := ui_p (x := i) (by have := ui_of i; split at this <;> omega)
  have h2 := ui_shr hy (by omega) e2
  have h3 : 2 ^ K ≤ ui i := by omega
  have h4 : BL (ui i / 2 ^ K) + K = BL (ui i) := by
    have h5 : ui i / 2 ^ K ≠ 0 := by
      have := Nat.div_pos h3 (Nat.two_pow_pos K)
      omega
    have e3 : ui i / 2 ^ K * 2 ^ K + ui i % 2 ^ K = ui i := by rw [Nat.mul_comm]; exact Nat.div_add_mod _ _
    exact (BL_s h5 (Nat.mod_lt _ (Nat.two_pow_pos K)) e3).symm
  have h7 := BL_ge h3
  have h8 : BL (ui i) ≤ 31 := BL_le (by omega)
  have h9 : n2.toInt = n.toInt - K := by rw [e1, I_add, hi] <;> (try rw [hi]) <;> omega
  refine ⟨?_, ?_, ?_, ?_, ?_⟩
  · rw [h2]; exact Nat.div_pos h3 (Nat.two_pow_pos K)
  · rw [h2, Nat.div_lt_iff_lt_mul (Nat.two_pow_pos K), ← Nat.pow_add]; exact hb
  · rw [h2]; omega
  · omega
  · have := BL_ge (T := ui i2) (k := 0) (by rw [h2, Nat.pow_zero]; exact Nat.div_pos h3 (Nat.two_pow_pos K))
    rw [h2] at this
    have h10 : BL (ui p) ≤ 32 := BL_le (ui_lt p)
    omega
theorem nz_w {p : Int32} {K : Nat} {n i : Int32} (h : NZ p K n i) (hK : K ≤ 16) : 0 < ui i ∧ n.toInt + 1 = 32 - (BL (ui p) : Int) + BL (ui i) ∧ n.toInt ≤ 31 ∧ 0 ≤ n.toInt ∧ ui i < 2147483648 := by
  obtain ⟨h1, h2, h3, h4, h5⟩ := h
  have : 2 ^ K ≤ 2 ^ 16 := Nat.pow_le_pow_right (by decide) hK
  rw [show (2 : Nat) ^ 16 = 65536 by decide] at this
  exact ⟨h1, h3, h4, h5, by omega⟩
theorem nz_s {p : Int32} (c : 0 < p) : 0 < ui p ∧ (31 : Int32).toInt + 1 = 32 - (BL (ui p) : Int) + BL (ui p) ∧ (31 : Int32).toInt ≤ 31 ∧ 0 ≤ (31 : Int32).toInt ∧ ui p < 2147483648 := by
  have := nz_0 c
  have h : (31 : Int32).toInt = 31 := by decide
  exact ⟨this.2, by rw [h]; omega, by decide, by decide, this.1⟩
theorem nz_e {p n i v r : Int32} (h : NZ p 2 n i) (e1 : v = (i.toUInt32 >>> ((1 : Int32).toUInt32 &&& Int32.toUInt32 31)).toInt32) (e2 : r = n - v) : r.toInt = 32 - (BL (ui p) : Int) := by
  obtain ⟨h1, h2, h3, h4, h5⟩ := h
  have h6 := ui_shr (y := 1) (k := 1) (by decide) (by decide) e1
  rw [show (2 : Nat) ^ 2 = 4 by decide] at h2
  rw [Nat.pow_one] at h6
  have h7 := ui_of v
  rw [ifp (by omega)] at h7
  have h8 : r.toInt = n.toInt - v.toInt := by rw [e2, I_sub] <;> omega
  have h9 : (ui i = 1 ∧ BL (ui i) = 1) ∨ (ui i = 2 ∧ BL (ui i) = 2) ∨ (ui i = 3 ∧ BL (ui i) = 2) := by
    rcases (show ui i = 1 ∨ ui i = 2 ∨ ui i = 3 by omega) with q | q | q <;> rw [q]
    · exact Or.inl ⟨rfl, by decide⟩
    · exact Or.inr (Or.inl ⟨rfl, by decide⟩)
    · exact Or.inr (Or.inr ⟨rfl, by decide⟩)
  omega
theorem nz_32 {p : Int32} (c : p = 0) : (32 : Int32).toInt = 32 - (BL (ui p) : Int) := by rw [c]; decide
theorem nz_n {p : Int32} (c1 : ¬ 0 < p) (c2 : ¬ p = 0) : (0 : Int32).toInt = 32 - (BL (ui p) : Int) := by
  rw [Int32.lt_iff_toInt_lt, I0] at c1
  have h1 := ui_of p
  have h2 := ui_lt p
  have h3 : ¬ ui p = 0 := fun q => c2 (ui_inj (by rw [q]; rfl))
  have h4 : 2147483648 ≤ ui p := by split at h1 <;> omega
  have h5 : BL (ui p) = 31 + 1 := BL_eq h4 h2
  rw [I0, h5]; rfl
theorem nl_a {p v : Int64} {x y r : Int32} (e1 : v = (p.toUInt64 >>> ((32 : Int32).toInt64.toUInt64 &&& Int64.toUInt64 63)).toInt64) (e2 : x = v.toInt32) (c : x = 0) (e3 : y = p.toInt32) {z : Int32} (h : z.toInt = 32 - (BL (ui y) : Int)) (e4 : r = 32 + z) : r.toInt = 64 - (BL (un p) : Int) := by
  have h1 := un_shr (y := 32) (k := 32) (by decide) (by decide) e1
  have h2 := un_l2i e2
  have h3 := un_l2i e3
  have h4 := un_lt p
  have h5 : ui x = 0 := by rw [c]; rfl
  have h6 : un p < 4294967296 := by
    rw [show (2 : Nat) ^ 32 = 4294967296 by decide] at h1
    omega
  rw [Nat.mod_eq_of_lt h6] at h3
  rw [h3] at h
  have h7 : BL (un p) ≤ 32 := BL_le h6
  have t : (32 : Int32).toInt = 32 := by decide
  rw [e4, I_add, t] <;> (try rw [t]) <;> omega
theorem nl_b {p v : Int64} {x r : Int32} (e1 : v = (p.toUInt64 >>> ((32 : Int32).toInt64.toUInt64 &&& Int64.toUInt64 63)).toInt64) (e2 : x = v.toInt32) (c : ¬ x = 0) (h : r.toInt = 32 - (BL (ui x) : Int)) : r.toInt = 64 - (BL (un p) : Int) := by
  have h1 := un_shr (y := 32) (k := 32) (by decide) (by decide) e1
  have h2 := un_l2i e2
  have h4 := un_lt p
  rw [show (2 : Nat) ^ 32 = 4294967296 by decide] at h1
  have h5 : ¬ ui x = 0 := fun q => c (ui_inj (by rw [q]; rfl))
  have h6 : ui x = un p / 2 ^ 32 := by rw [show (2 : Nat) ^ 32 = 4294967296 by decide]; omega
  have h7 : BL (un p) = BL (ui x) + 32 := BL_s (r := un p % 2 ^ 32) (by omega) (Nat.mod_lt _ (by decide)) (by rw [h6, Nat.mul_comm]; exact Nat.div_add_mod _ _)
  omega
-- trailing zeros
theorem odd_split {n : Nat} (h : n ≠ 0) : ∃ t q, n = 2 ^ (t + 1) * q + 2 ^ t := by
  induction n using Nat.strongRecOn with
  | _ n ih =>
    rcases (show n % 2 = 0 ∨ n % 2 = 1 by omega) with q | q
    · obtain ⟨t, q2, e⟩ := ih (n / 2) (by omega) (by omega)
      refine ⟨t + 1, q2, ?_⟩
      have : n = 2 * (n / 2) := by omega
      rw [this, e, Nat.mul_add, Nat.pow_succ 2 (t + 1), Nat.pow_succ 2 t]
      simp only [Nat.mul_comm, Nat.mul_left_comm]
    · exact ⟨0, n / 2, by simp; omega⟩
theorem tz_bv {t q : Nat} {x : BitVec 32} (ht : t < 32) (e : x.toNat = 2 ^ (t + 1) * q + 2 ^ t) : ((x ^^^ BitVec.allOnes 32) &&& (x - 1#32)).toNat = 2 ^ t - 1 := by
  have hp := Nat.two_pow_pos t
  have hx : x.toNat < 2 ^ 32 := x.isLt
  have e1 : (x - 1#32).toNat = 2 ^ (t + 1) * q + (2 ^ t - 1) := by
    rw [BitVec.toNat_sub, show (1#32).toNat = 1 from rfl]
    rw [show (2 : Nat) ^ 32 - 1 + x.toNat = (x.toNat - 1) + 2 ^ 32 by omega, Nat.add_mod_right, Nat.mod_eq_of_lt (by omega)]
    omega
  have e2 : x ^^^ BitVec.allOnes 32 = ~~~ x := by rw [BitVec.xor_allOnes]
  rw [e2, BitVec.toNat_and, e1]
  apply Nat.eq_of_testBit_eq
  intro i
  rw [Nat.testBit_and, Nat.testBit_two_pow_sub_one]
  have h1 : (~~~ x).toNat.testBit i = (decide (i < 32) && !x.toNat.testBit i) := by
    have := BitVec.getLsbD_not (x := x) (i := i)
    exact this
  have s1 : 2 ^ t < 2 ^ (t + 1) := by rw [Nat.pow_succ]; omega
  rw [h1, e, Nat.testBit_two_pow_mul_add _ s1, Nat.testBit_two_pow_mul_add _ (show 2 ^ t - 1 < 2 ^ (t + 1) by omega)]
  by_cases q1 : i < t + 1
  · rw [ifp q1, ifp q1, Nat.testBit_two_pow, Nat.testBit_two_pow_sub_one]
    by_cases q2 : i < t
    · simp [q2]; omega
    · simp [q2]
  · rw [ifn q1, ifn q1]
    have q2 : ¬ i < t := by omega
    simp [q2]
def TI (p : Int32) (K : Nat) (n i : Int32) : Prop := ∃ t u : Nat, t < 32 ∧ ui p % 2 ^ t = 0 ∧ ui p / 2 ^ t % 2 = 1 ∧ 1 ≤ u ∧ u ≤ K ∧ ui i = 2 ^ u - 1 ∧ n.toInt + u = t + 1 ∧ 1 ≤ n.toInt ∧ n.toInt ≤ 32
theorem tz_0 {p v5 v6 v2 : Int32} (e2 : v2 = p ^^^ -1) (e5 : v5 = p - 1) (e6 : v6 = v2 &&& v5) (h : ¬ p = 0) : ∃ t, t < 32 ∧ ui p % 2 ^ t = 0 ∧ ui p / 2 ^ t % 2 = 1 ∧ ui v6 = 2 ^ t - 1 := by
  have h0 : ui p ≠ 0 := fun q => h (ui_inj (by rw [q]; rfl))
  obtain ⟨t, q, e⟩ := odd_split h0
  have hl := ui_lt p
  have ht : t < 32 := by
    have : 2 ^ t ≤ ui p := by rw [e]; omega
    exact (Nat.pow_lt_pow_iff_right (a := 2) (by decide)).mp (Nat.lt_of_le_of_lt this (by rw [show (2 : Nat) ^ 32 = 4294967296 by decide]; exact hl))
  have e' : ui p = 2 ^ t * (2 * q + 1) := by rw [e, Nat.pow_succ, Nat.mul_add, Nat.mul_assoc, Nat.mul_one]
  refine ⟨t, ht, ?_, ?_, ?_⟩
  · rw [e', Nat.mul_mod_right]
  · rw [e', Nat.mul_div_cancel_left _ (Nat.two_pow_pos t)]; omega
  · rw [e6, e2, e5]; exact tz_bv ht e
theorem tz_c {p v5 v6 v2 : Int32} (e2 : v2 = p ^^^ -1) (e5 : v5 = p - 1) (e6 : v6 = v2 &&& v5) (c : 0 < v6) : ∃ t, t < 32 ∧ ui p % 2 ^ t = 0 ∧ ui p / 2 ^ t % 2 = 1 ∧ ui v6 = 2 ^ t - 1 ∧ 1 ≤ t := by
  have h : ¬ p = 0 := fun q => by subst q; subst e2; subst e5; subst e6; exact absurd c (by decide)
  obtain ⟨t, h1, h2, h3, h4⟩ := tz_0 e2 e5 e6 h
  refine ⟨t, h1, h2, h3, h4, ?_⟩
  rcases Nat.eq_zero_or_pos t with q | q
  · subst q
    have := (nz_0 c).2
    rw [h4] at this
    exact absurd this (by decide)
  · exact q
theorem tz_s {p v5 v6 v2 : Int32} (e2 : v2 = p ^^^ -1) (e5 : v5 = p - 1) (e6 : v6 = v2 &&& v5) (c : 0 < v6) : TI p 31 1 v6 := by
  obtain ⟨t, h1, h2, h3, h4, h5⟩ := tz_c e2 e5 e6 c
  exact ⟨t, t, h1, h2, h3, h5, by omega, h4, by rw [I1]; omega, by decide, by decide⟩
theorem ti_i {p : Int32} {K : Nat} {n i : Int32} (h : TI p K n i) (hK : K ≤ 31) : ui i < 2147483648 := by
  obtain ⟨t, u, h1, h2, h3, h4, h5, h6, h7, h8⟩ := h
  have : 2 ^ u ≤ 2 ^ 31 := Nat.pow_le_pow_right (by decide) (by omega)
  rw [show (2 : Nat) ^ 31 = 2147483648 by decide] at this
  have := Nat.two_pow_pos u
  omega
theorem ti_a {p : Int32} {J K : Nat} {a n i : Int32} (h : TI p J n i) (hJ : J ≤ 31) (hK : 1 ≤ K) (ha : a.toInt = ((2 ^ K : Nat) : Int)) (c : i ≤ a) : TI p K n i := by
  have hi := ti_i h hJ
  obtain ⟨t, u, h1, h2, h3, h4, h5, h6, h7, h8⟩ := h
  rw [Int32.le_iff_toInt_le, ha] at c
  have e := ui_of i
  rw [ifp hi] at e
  refine ⟨t, u, h1, h2, h3, h4, ?_, h6, h7, h8⟩
  rcases Nat.lt_or_ge K u with q | q
  · exfalso
    have : 2 ^ (K + 1) ≤ 2 ^ u := Nat.pow_le_pow_right (by decide) q
    have h9 : 2 ^ 1 ≤ 2 ^ K := Nat.pow_le_pow_right (by decide) hK
    rw [Nat.pow_succ] at this
    omega
  · exact q
theorem ti_b {p : Int32} {J K : Nat} {a y n i n2 i2 : Int32} (h : TI p J n i) (hJ : J ≤ 31) (hJK : J ≤ K + K) (hK : 1 ≤ K) (hK2 : K ≤ 16) (ha : a.toInt = ((2 ^ K : Nat) : Int)) (hy : y.toInt = K) (c : ¬ i ≤ a) (e1 : n2 = n + Int32.ofInt K) (e2 : i2 = (i.toUInt32 >>> (y.toUInt32 &&& Int32.toUInt32 31)).toInt32) (hi2 : (Int32.ofInt (K : Int)).toInt = K) : TI p K n2 i2 := by
  have hi := ti_i h hJ
  obtain ⟨t, u, h1, h2, h3, h4, h5, h6, h7, h8, h10⟩ := h
  rw [Int32.le_iff_toInt_le, ha] at c
  have e := ui_of i
  rw [ifp hi] at e
  have hs := ui_shr hy (by omega) e2
  have hu : K + 1 ≤ u := by
    rcases Nat.lt_or_ge K u with q | q
    · exact q
    · exfalso
      have : 2 ^ u ≤ 2 ^ K := Nat.pow_le_pow_right (by decide) q
      have w1 := Nat.two_pow_pos u
      have w2 := Nat.two_pow_pos K
      omega
  have h9 : n2.toInt = n.toInt + K := by rw [e1, I_add, hi2] <;> (try rw [hi2]) <;> omega
  refine ⟨t, u - K, h1, h2, h3, by omega, by omega, ?_, by omega, by omega, by omega⟩
  rw [hs, h6]
  obtain ⟨w, rfl⟩ : ∃ w, u = w + K := ⟨u - K, by omega⟩
  have hw := Nat.two_pow_pos w
  have hk := Nat.two_pow_pos K
  rw [Nat.add_sub_cancel, Nat.pow_add]
  have e3 : 2 ^ w * 2 ^ K - 1 = 2 ^ K * (2 ^ w - 1) + (2 ^ K - 1) := by
    rw [Nat.mul_sub, Nat.mul_one, Nat.mul_comm (2 ^ w)]
    have : 2 ^ K * 1 ≤ 2 ^ K * 2 ^ w := Nat.mul_le_mul_left _ hw
    omega
  rw [e3, Nat.mul_add_div hk, Nat.div_eq_of_lt (by omega), Nat.add_zero]
def TZ (p r : Int32) : Prop := ∃ t : Nat, r.toInt = t ∧ t < 32 ∧ ui p % 2 ^ t = 0 ∧ ui p / 2 ^ t % 2 = 1
theorem tz_e {p n i v r : Int32} (h : TI p 2 n i) (e1 : v = (i.toUInt32 >>> ((1 : Int32).toUInt32 &&& Int32.toUInt32 31)).toInt32) (e2 : r = n + v) : TZ p r := by
  obtain ⟨t, u, h1, h2, h3, h4, h5, h6, h7, h8, h9⟩ := h
  have hs := ui_shr (y := 1) (k := 1) (by decide) (by decide) e1
  rw [Nat.pow_one] at hs
  have hv := ui_of v
  have hu : (u = 1 ∧ ui v = 0) ∨ (u = 2 ∧ ui v = 1) := by
    rcases (show u = 1 ∨ u = 2 by omega) with q | q
    · subst q; left; exact ⟨rfl, by rw [hs, h6]⟩
    · subst q; right; exact ⟨rfl, by rw [hs, h6]⟩
  rw [ifp (by omega)] at hv
  have h10 : r.toInt = n.toInt + v.toInt := by rw [e2, I_add] <;> omega
  exact ⟨t, by omega, h1, h2, h3⟩
theorem tz_z {p v5 v6 v2 r : Int32} (e2 : v2 = p ^^^ -1) (e5 : v5 = p - 1) (e6 : v6 = v2 &&& v5) (c : ¬ 0 < v6) (er : r = v6 &&& 32) (h : ¬ p = 0) : TZ p r := by
  obtain ⟨t, h1, h2, h3, h4⟩ := tz_0 e2 e5 e6 h
  rw [Int32.lt_iff_toInt_lt, I0] at c
  have e := ui_of v6
  have hp := Nat.two_pow_pos t
  have h5 : 2 ^ t ≤ 2 ^ 31 := Nat.pow_le_pow_right (by decide) (by omega)
  rw [show (2 : Nat) ^ 31 = 2147483648 by decide] at h5
  rw [ifp (by omega)] at e
  have h6 : ui v6 = 0 := by omega
  have h7 : v6 = 0 := ui_inj (by rw [h6]; rfl)
  have h8 : t = 0 := by
    rcases Nat.eq_zero_or_pos t with q | q
    · exact q
    · have : 2 ^ 1 ≤ 2 ^ t := Nat.pow_le_pow_right (by decide) q
      omega
  subst h8
  exact ⟨0, by rw [er, h7]; decide, by decide, h2, h3⟩
def TZL (p : Int64) (r : Int32) : Prop := ∃ t : Nat, r.toInt = t ∧ t < 64 ∧ un p % 2 ^ t = 0 ∧ un p / 2 ^ t % 2 = 1
theorem tl_a {p : Int64} {x r : Int32} (e : x = p.toInt32) (c : ¬ x = 0) (h : ¬ x = 0 → TZ x r) : TZL p r := by
  obtain ⟨t, h1, h2, h3, h4⟩ := h c
  have h5 := un_l2i e
  refine ⟨t, h1, by omega, ?_, ?_⟩
  · obtain ⟨w, hw⟩ : ∃ w, 32 = t + w := ⟨32 - t, by omega⟩
    have h6 : un p % 2 ^ t = ui x % 2 ^ t := by
      rw [h5, show 4294967296 = 2 ^ t * 2 ^ w by rw [← Nat.pow_add, ← hw]]
      rw [Nat.mod_mul_right_mod]
    rw [h6]; exact h3
  · obtain ⟨w, hw⟩ : ∃ w, 32 = t + 1 + w := ⟨31 - t, by omega⟩
    have h6 : un p / 2 ^ t % 2 = ui x / 2 ^ t % 2 := by
      rw [← Nat.mod_mul_right_div_self, ← Nat.mod_mul_right_div_self (ui x), h5, show 4294967296 = 2 ^ t * 2 * 2 ^ w by rw [← Nat.pow_succ, ← Nat.pow_add, ← hw], Nat.mod_mul_right_mod]
    rw [h6]; exact h4
theorem tl_b {p v : Int64} {x y z r : Int32} (e : x = p.toInt32) (c : x = 0) (e1 : v = (p.toUInt64 >>> ((32 : Int32).toInt64.toUInt64 &&& Int64.toUInt64 63)).toInt64) (e2 : y = v.toInt32) (h : ¬ y = 0 → TZ y z) (er : r = 32 + z) (hp : ¬ p = 0) : TZL p r := by
  have h1 := un_shr (y := 32) (k := 32) (by decide) (by decide) e1
  have h2 := un_l2i e2
  have h3 := un_l2i e
  have h4 := un_lt p
  have h0 : un p ≠ 0 := fun q => hp (un_0.mpr q)
  rw [c, show ui 0 = 0 from rfl] at h3
  rw [show (2 : Nat) ^ 32 = 4294967296 by decide] at h1
  have h5 : ui y = un p / 4294967296 := by omega
  have h6 : ¬ y = 0 := fun q => by rw [q, show ui 0 = 0 from rfl] at h5; omega
  obtain ⟨t, g1, g2, g3, g4⟩ := h h6
  have t32 : (32 : Int32).toInt = 32 := by decide
  have g5 : r.toInt = 32 + z.toInt := by rw [er, I_add, t32] <;> (try rw [t32]) <;> omega
  have e3 : un p = 4294967296 * ui y := by omega
  refine ⟨32 + t, by omega, by omega, ?_, ?_⟩
  · rw [Nat.pow_add, show (2 : Nat) ^ 32 = 4294967296 by decide, e3, Nat.mul_mod_mul_left, g3]
  · rw [Nat.pow_add, show (2 : Nat) ^ 32 = 4294967296 by decide, e3, Nat.mul_div_mul_left _ _ (by decide)]; exact g4
end
