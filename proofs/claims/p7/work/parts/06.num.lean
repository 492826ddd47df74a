theorem n_bm {x : Int} (h1 : -9223372036854775808 ≤ x) (h2 : x < 9223372036854775808) : x.bmod (2 ^ 64) = x := by
  rw [show (2 ^ 64 : Nat) = 18446744073709551616 from rfl, Int.bmod_def]
  split <;> omega
theorem n_bi {x : Int} (h1 : -2147483648 ≤ x) (h2 : x < 2147483648) : x.bmod (2 ^ 32) = x := by
  rw [show (2 ^ 32 : Nat) = 4294967296 from rfl, Int.bmod_def]
  split <;> omega
theorem L_rg (a : Int64) : -9223372036854775808 ≤ a.toInt ∧ a.toInt < 9223372036854775808 := by
  have h1 := Int64.le_toInt a
  have h2 := Int64.toInt_lt a
  omega
theorem I_rg (a : Int32) : -2147483648 ≤ a.toInt ∧ a.toInt < 2147483648 := by
  have h1 := Int32.le_toInt a
  have h2 := Int32.toInt_lt a
  omega
theorem L_add {a b : Int64} (h1 : -9223372036854775808 ≤ a.toInt + b.toInt) (h2 : a.toInt + b.toInt < 9223372036854775808) : (a + b).toInt = a.toInt + b.toInt := by
  rw [Int64.toInt_add]; exact n_bm h1 h2
theorem L_sub {a b : Int64} (h1 : -9223372036854775808 ≤ a.toInt - b.toInt) (h2 : a.toInt - b.toInt < 9223372036854775808) : (a - b).toInt = a.toInt - b.toInt := by
  rw [Int64.toInt_sub]; exact n_bm h1 h2
theorem L_neg {a : Int64} (h1 : -9223372036854775808 < a.toInt) : (-a).toInt = -a.toInt := by
  have h2 := L_rg a
  rw [Int64.toInt_neg]; exact n_bm (by omega) (by omega)
theorem L_mul {a b : Int64} (h1 : -9223372036854775808 ≤ a.toInt * b.toInt) (h2 : a.toInt * b.toInt < 9223372036854775808) : (a * b).toInt = a.toInt * b.toInt := by
  rw [Int64.toInt_mul]; exact n_bm h1 h2
theorem I_add {a b : Int32} (h1 : -2147483648 ≤ a.toInt + b.toInt) (h2 : a.toInt + b.toInt < 2147483648) : (a + b).toInt = a.toInt + b.toInt := by
  rw [Int32.toInt_add]; exact n_bi h1 h2
theorem I_sub {a b : Int32} (h1 : -2147483648 ≤ a.toInt - b.toInt) (h2 : a.toInt - b.toInt < 2147483648) : (a - b).toInt = a.toInt - b.toInt := by
  rw [Int32.toInt_sub]; exact n_bi h1 h2
theorem I_neg {a : Int32} (h1 : -2147483648 < a.toInt) : (-a).toInt = -a.toInt := by
  have h2 := I_rg a
  rw [Int32.toInt_neg]; exact n_bi (by omega) (by omega)
theorem I_i2l (a : Int32) : a.toInt64.toInt = a.toInt := Int32.toInt_toInt64 a
theorem amt0 : ∀ k : Fin 64, ((nI k.val).toInt64 &&& 63).toBitVec.smod 64 = BitVec.ofNat 64 k.val := by decide
theorem nI_of_toInt {y : Int32} {k : Nat} (hy : y.toInt = k) (hk : k < 64) : y = nI k := Int32.toInt_inj.mp (by rw [hy, nI_toInt (by omega)])
theorem L_amt {y : Int32} {k : Nat} (hy : y.toInt = k) (hk : k < 64) : (y.toInt64 &&& 63).toBitVec.smod 64 = BitVec.ofNat 64 k := by
  rw [nI_of_toInt hy hk]
  exact amt0 ⟨k, hk⟩
theorem L_shr (x : Int64) {y : Int32} {k : Nat} (hy : y.toInt = k) (hk : k < 64) : (x >>> (y.toInt64 &&& 63)).toInt = x.toInt / 2 ^ k := by
  have h := L_amt hy hk
  show (BitVec.sshiftRight' x.toBitVec ((y.toInt64 &&& 63).toBitVec.smod 64)).toInt = _
  rw [h, BitVec.toInt_sshiftRight', BitVec.toNat_ofNat, Nat.mod_eq_of_lt (Nat.lt_trans hk (by decide)), Int.shiftRight_eq_div_pow]
  rfl
theorem L_shlm (x : Int64) {y : Int32} {k : Nat} (hy : y.toInt = k) (hk : k < 64) : (x <<< (y.toInt64 &&& 63)).toInt = (x.toInt * 2 ^ k).bmod (2 ^ 64) := by
  have h := L_amt hy hk
  show (x.toBitVec <<< ((y.toInt64 &&& 63).toBitVec.smod 64)).toInt = _
  rw [h, BitVec.shiftLeft_eq', BitVec.toNat_ofNat, Nat.mod_eq_of_lt (Nat.lt_trans hk (by decide)), BitVec.toInt_shiftLeft, Nat.shiftLeft_eq]
  have e1 : x.toInt = (x.toBitVec.toNat : Int).bmod (2 ^ 64) := BitVec.toInt_eq_toNat_bmod x.toBitVec
  rw [e1, Int.bmod_mul_bmod]
  simp
theorem L_shl (x : Int64) {y : Int32} {k : Nat} (hy : y.toInt = k) (hk : k < 64) (h1 : -9223372036854775808 ≤ x.toInt * 2 ^ k) (h2 : x.toInt * 2 ^ k < 9223372036854775808) : (x <<< (y.toInt64 &&& 63)).toInt = x.toInt * 2 ^ k := by
  rw [L_shlm x hy hk]; exact n_bm h1 h2
theorem N_or1 (n : Nat) : n ||| 1 = n + (1 - n % 2) := by
  have h : ∀ a r : Nat, r < 2 → 2 * a + r = 2 * a ||| r := fun a r hr => Nat.two_pow_add_eq_or_of_lt (i := 1) (by simpa using hr) a
  have e1 : n = 2 * (n / 2) ||| n % 2 := by rw [← h _ _ (by omega)]; omega
  have e2 : (n % 2) ||| 1 = 1 := by rcases (show n % 2 = 0 ∨ n % 2 = 1 by omega) with q | q <;> rw [q] <;> rfl
  calc n ||| 1 = (2 * (n / 2) ||| n % 2) ||| 1 := by rw [← e1]
    _ = 2 * (n / 2) ||| 1 := by rw [Nat.or_assoc, e2]
    _ = 2 * (n / 2) + 1 := (h _ _ (by omega)).symm
    _ = n + (1 - n % 2) := by omega
theorem L_tn {x : Int64} (h : 0 ≤ x.toInt) : (x.toBitVec.toNat : Int) = x.toInt := by
  have e1 : x.toInt = x.toBitVec.toInt := rfl
  rw [e1] at h ⊢
  have := BitVec.toInt_eq_toNat_of_msb (x := x.toBitVec) (by
    cases hm : x.toBitVec.msb
    · rfl
    · have := BitVec.toInt_neg_of_msb_true hm
      omega)
  exact this.symm
theorem L_of_nat {x : Int64} {n : Nat} (h : x.toBitVec.toNat = n) (hn : n < 9223372036854775808) : x.toInt = n := by
  have e1 : x.toInt = x.toBitVec.toInt := rfl
  rw [e1, BitVec.toInt_eq_toNat_bmod, h]
  exact n_bm (by omega) (by omega)
theorem L_or1 {x : Int64} (h : 0 ≤ x.toInt) : (x ||| 1).toInt = x.toInt + (1 - x.toInt % 2) := by
  have h1 := L_tn h
  have h2 := L_rg x
  have h3 : (x ||| 1).toBitVec.toNat = x.toBitVec.toNat ||| 1 := by
    rw [Int64.toBitVec_or, BitVec.toNat_or]; rfl
  rw [N_or1] at h3
  rw [L_of_nat h3 (by omega)]
  omega
theorem L_and1 {x : Int64} : x &&& 1 = 0 ↔ x.toInt % 2 = 0 := by
  have h3 : (x &&& 1).toBitVec.toNat = x.toBitVec.toNat % 2 := by
    rw [Int64.toBitVec_and, BitVec.toNat_and, show (1 : Int64).toBitVec.toNat = 1 from rfl, Nat.and_one_is_mod]
  have e1 : x.toInt = (x.toBitVec.toNat : Int).bmod (2 ^ 64) := BitVec.toInt_eq_toNat_bmod x.toBitVec
  have h4 : x.toInt % 2 = (x.toBitVec.toNat : Int) % 2 := by
    rw [e1, show (2 ^ 64 : Nat) = 18446744073709551616 from rfl, Int.bmod_def]
    split <;> omega
  rw [h4]
  constructor
  · intro q
    rw [q] at h3
    have : (0 : Int64).toBitVec.toNat = 0 := rfl
    omega
  · intro q
    apply Int64.toInt_inj.mp
    rw [L_of_nat (n := 0) (by omega) (by omega)]
    rfl
theorem dec_up {x b y : Int32} (h : ¬ b ≤ x) (e : y = x + Int32.ofInt 1) : (b.toInt - y.toInt).toNat < (b.toInt - x.toInt).toNat := by
  rw [Int32.le_iff_toInt_le] at h
  have h1 := I_rg b
  have h2 := I_rg x
  have h3 : (Int32.ofInt 1).toInt = 1 := by decide
  have h4 : (x + Int32.ofInt 1).toInt = x.toInt + 1 := by rw [I_add, h3] <;> omega
  rw [e, h4]
  omega
theorem dec_dn {x y : Int32} (z : Int) (hz : (Int32.ofInt z).toInt = z) (hz2 : z < 0 ∧ -1000 < z) (h : ¬ x ≤ 0) (e : y = x + Int32.ofInt z) : y.toInt.toNat < x.toInt.toNat := by
  rw [Int32.le_iff_toInt_le] at h
  have h1 := I_rg x
  have h3 : (0 : Int32).toInt = 0 := by decide
  have h4 : (x + Int32.ofInt z).toInt = x.toInt + z := by rw [I_add, hz] <;> omega
  rw [e, h4]
  omega
