theorem sg_n {p : Int64} (c : ¬ 0 ≤ p) : ¬ p = 0 := fun q => c (by rw [q]; decide)
theorem sg_p {p : Int64} (c : ¬ p ≤ 0) : ¬ p = 0 := fun q => c (by rw [q]; decide)
theorem L_and1' (x : Int64) : x &&& 1 = 0 ∨ x &&& 1 = 1 := by
  have h3 : (x &&& 1).toBitVec.toNat = x.toBitVec.toNat % 2 := by
    rw [Int64.toBitVec_and, BitVec.toNat_and, show (1 : Int64).toBitVec.toNat = 1 from rfl, Nat.and_one_is_mod]
  rcases (show x.toBitVec.toNat % 2 = 0 ∨ x.toBitVec.toNat % 2 = 1 by omega) with q | q
  · left; apply Int64.toInt_inj.mp; rw [L_of_nat (n := 0) (by omega) (by omega)]; rfl
  · right; apply Int64.toInt_inj.mp; rw [L_of_nat (n := 1) (by omega) (by omega)]; rfl
theorem no_m {p : Int64} (c : ¬ p = -9223372036854775808) : -9223372036854775808 < p.toInt := by
  have h := L_rg p
  rcases (show -9223372036854775808 < p.toInt ∨ p.toInt ≤ -9223372036854775808 by omega) with q | q
  · exact q
  · exact absurd (Int64.toInt_inj.mp (show p.toInt = (-9223372036854775808 : Int64).toInt by rw [show (-9223372036854775808 : Int64).toInt = -9223372036854775808 by decide]; omega)) c
theorem no_63 {p v : Int32} (hx : -4000 ≤ p.toInt ∧ p.toInt ≤ 4000) (e : v = p + 63) : -5000 ≤ v.toInt ∧ v.toInt ≤ 5000 := by
  have h : v.toInt = p.toInt + 63 := by rw [e, I_add, show (63 : Int32).toInt = 63 by decide] <;> rw [show (63 : Int32).toInt = 63 by decide] <;> omega
  omega
theorem no_1 {p v : Int32} (hx : -4000 ≤ p.toInt ∧ p.toInt ≤ 4000) (e : v = p + 1) : -5000 ≤ v.toInt ∧ v.toInt ≤ 5000 := by
  have h : v.toInt = p.toInt + 1 := by rw [e, I_add, I1] <;> rw [I1] <;> omega
  omega
theorem no_a {p r a b v : Int64} (c : ¬ p = -9223372036854775808) (hs : -9223372036854775808 < p.toInt → r.toInt = p.toInt.natAbs) (ea : a = r >>> ((1 : Int32).toInt64 &&& 63)) (eb : b = r &&& 1) (ev : v = a ||| b) : 0 ≤ v.toInt ∧ v.toInt < 4611686018427387904 := by
  have h1 := hs (no_m c)
  have h0 := L_rg p
  have h0' := L_rg r
  have h2 : a.toInt = ((r.toInt.toNat / 2 ^ 1 : Nat) : Int) := by rw [ea]; exact L_shrN (L_natP (by omega)) (y := 1) (by decide) (by decide)
  have h3 : 0 ≤ a.toInt ∧ a.toInt < 4611686018427387904 := by omega
  rcases L_and1' r with q | q
  · rw [ev, eb, q, show a ||| 0 = a from by simp]; exact h3
  · rw [ev, eb, q, L_or1 h3.1]; omega
theorem no_b {p r v : Int64} (c : ¬ p = -9223372036854775808) (hs : -9223372036854775808 < p.toInt → r.toInt = p.toInt.natAbs) (ev : v = r >>> ((62 : Int32).toInt64 &&& 63)) (z : v = 0) : 0 ≤ r.toInt ∧ r.toInt < 4611686018427387904 := by
  have h1 := hs (no_m c)
  have h2 : v.toInt = ((r.toInt.toNat / 2 ^ 62 : Nat) : Int) := by rw [ev]; exact L_shrN (L_natP (by omega)) (y := 62) (by decide) (by decide)
  rw [z, L0] at h2
  omega
theorem L_or_lt {x y : Int64} (hx : 0 ≤ x.toInt ∧ x.toInt < 4611686018427387904) (hy : 0 ≤ y.toInt ∧ y.toInt < 4611686018427387904) : 0 ≤ (x ||| y).toInt ∧ (x ||| y).toInt < 4611686018427387904 := by
  have h1 := L_tn hx.1
  have h2 := L_tn hy.1
  have h3 : (x ||| y).toBitVec.toNat = x.toBitVec.toNat ||| y.toBitVec.toNat := by rw [Int64.toBitVec_or, BitVec.toNat_or]
  have h4 : x.toBitVec.toNat ||| y.toBitVec.toNat < 2 ^ 62 := Nat.or_lt_two_pow (by rw [show (2 : Nat) ^ 62 = 4611686018427387904 by decide]; omega) (by rw [show (2 : Nat) ^ 62 = 4611686018427387904 by decide]; omega)
  rw [show (2 : Nat) ^ 62 = 4611686018427387904 by decide] at h4
  rw [L_of_nat h3 (by omega)]
  omega
theorem L_mask {x v : Int64} (h : 0 ≤ x.toInt) (e : v = x &&& 134217727) : v.toInt = x.toInt % 134217728 := by
  have h1 := L_tn h
  have h3 : v.toBitVec.toNat = x.toBitVec.toNat % 2 ^ 27 := by
    rw [e, Int64.toBitVec_and, BitVec.toNat_and, show (134217727 : Int64).toBitVec.toNat = 2 ^ 27 - 1 from rfl, Nat.and_two_pow_sub_one_eq_mod]
  rw [L_of_nat h3 (by have := Nat.mod_lt x.toBitVec.toNat (show 2 ^ 27 > 0 by decide); omega)]
  omega
theorem mul_b {x y A B : Int} (h1 : 0 ≤ x) (h2 : x ≤ A) (h3 : 0 ≤ y) (h4 : y ≤ B) : 0 ≤ x * y ∧ x * y ≤ A * B := ⟨Int.mul_nonneg h1 h3, Int.mul_le_mul h2 h4 h3 (by omega)⟩
theorem L_mulb {x y v : Int64} (A B : Int) (h1 : 0 ≤ x.toInt) (h2 : x.toInt ≤ A) (h3 : 0 ≤ y.toInt) (h4 : y.toInt ≤ B) (hb : A * B < 9223372036854775808) (e : v = x * y) : 0 ≤ v.toInt ∧ v.toInt ≤ A * B := by
  have h := mul_b h1 h2 h3 h4
  rw [e, L_mul (by omega) (by omega)]
  exact h
theorem L_s27 {x v : Int64} (h : 0 ≤ x.toInt) (e : v = x >>> ((27 : Int32).toInt64 &&& 63)) : v.toInt = x.toInt / 134217728 := by
  rw [e, L_shr x (y := 27) (k := 27) (by decide) (by decide)]; rfl
theorem L_addb {x y v : Int64} (h1 : 0 ≤ x.toInt) (h2 : 0 ≤ y.toInt) (h3 : x.toInt + y.toInt < 9223372036854775808) (e : v = x + y) : v.toInt = x.toInt + y.toInt := by rw [e, L_add] <;> omega
def UP (h : Int64) (u : Int32) : Prop := 0 ≤ u.toInt ∧ u.toInt ≤ 27 ∧ h.toInt.toNat * 2 ^ u.toInt.toNat < 4611686018427387904
theorem I27 : (27 : Int32).toInt = 27 := by decide
theorem up_0 {h : Int64} (c : h = 0) : UP h 27 := ⟨by decide, by decide, by rw [c]; decide⟩
theorem up_r {h : Int64} {r : Int32} (q : RMX h r) (c : r ≤ 27) : UP h r := by
  rw [Int32.le_iff_toInt_le, I27] at c
  obtain ⟨u, h1, h2, h3, h4⟩ := q
  refine ⟨by omega, c, ?_⟩
  rw [show r.toInt.toNat = u by omega]; exact h3
theorem up_27 {h : Int64} {r : Int32} (q : RMX h r) (c : ¬ r ≤ 27) : UP h 27 := by
  rw [Int32.le_iff_toInt_le, I27] at c
  obtain ⟨u, h1, h2, h3, h4⟩ := q
  refine ⟨by decide, by decide, ?_⟩
  rw [show (27 : Int32).toInt.toNat = 27 by decide]
  exact Nat.lt_of_le_of_lt (Nat.mul_le_mul_left _ (Nat.pow_le_pow_right (by decide) (by omega))) h3
theorem pr_b {h r a b v : Int64} {u d : Int32} (q : UP h u) (hh : 0 ≤ h.toInt) (hr : 0 ≤ r.toInt ∧ r.toInt < 134217728) (ea : a = h <<< (u.toInt64 &&& 63)) (ed : d = 27 - u) (eb : b = r >>> (d.toInt64 &&& 63)) (ev : v = a ||| b) : 0 ≤ v.toInt ∧ v.toInt < 4611686018427387904 := by
  obtain ⟨h1, h2, h3⟩ := q
  have a1 : a.toInt = ((h.toInt.toNat * 2 ^ u.toInt.toNat : Nat) : Int) := by rw [ea]; exact L_shlN (L_natP hh) (by omega) (by omega) (by omega)
  have d1 : d.toInt = 27 - u.toInt := by rw [ed, I_sub, I27] <;> rw [I27] <;> omega
  have b1 : b.toInt = ((r.toInt.toNat / 2 ^ d.toInt.toNat : Nat) : Int) := by rw [eb]; exact L_shrN (L_natP hr.1) (by omega) (by omega)
  have b2 : r.toInt.toNat / 2 ^ d.toInt.toNat ≤ r.toInt.toNat := Nat.div_le_self _ _
  rw [ev]
  generalize h.toInt.toNat * 2 ^ u.toInt.toNat = w1 at a1 h3
  generalize r.toInt.toNat / 2 ^ d.toInt.toNat = w2 at b1 b2
  exact L_or_lt (by omega) (by omega)
theorem pr_s {u s v : Int32} {h : Int64} (q : UP h u) (hs : 27 ≤ s.toInt ∧ s.toInt ≤ 54) (e : v = s - u) : 0 ≤ v.toInt ∧ v.toInt ≤ 54 := by
  obtain ⟨h1, h2, -⟩ := q
  have : v.toInt = s.toInt - u.toInt := by rw [e, I_sub] <;> omega
  omega
theorem pr_s1 {u v : Int32} {h : Int64} (q : UP h u) (e : v = 54 - u) : 27 ≤ v.toInt ∧ v.toInt ≤ 54 := by
  obtain ⟨h1, h2, -⟩ := q
  have h5 : (54 : Int32).toInt = 54 := by decide
  have : v.toInt = 54 - u.toInt := by rw [e, I_sub, h5] <;> rw [h5] <;> omega
  omega
theorem pr_o {x v : Int64} (h : 0 ≤ x.toInt ∧ x.toInt < 4611686018427387904) (e : v = x ||| 1) : 0 ≤ v.toInt ∧ v.toInt < 4611686018427387904 := by rw [e]; exact L_or_lt h ⟨by decide, by decide⟩
theorem pr_hi {a b x1 x2 m1 s1 x3 m2 x4 s2 m3 y1 s3 y2 y3 s4 m4 s5 hi : Int64}
    (ha : 0 ≤ a.toInt ∧ a.toInt ≤ 9007199254740992) (hb : 0 ≤ b.toInt ∧ b.toInt ≤ 9007199254740992)
    (e4 : x1 = a &&& 134217727) (e9 : x2 = b &&& 134217727) (e10 : m1 = x1 * x2) (e16 : s1 = a >>> ((27 : Int32).toInt64 &&& 63)) (e21 : x3 = b &&& 134217727) (e22 : m2 = s1 * x3)
    (e27 : x4 = a &&& 134217727) (e31 : s2 = b >>> ((27 : Int32).toInt64 &&& 63)) (e32 : m3 = x4 * s2) (e33 : y1 = m2 + m3) (e38 : s3 = m1 >>> ((27 : Int32).toInt64 &&& 63)) (e39 : y2 = y1 + s3)
    (e45 : s4 = a >>> ((27 : Int32).toInt64 &&& 63)) (e49 : s5 = b >>> ((27 : Int32).toInt64 &&& 63)) (e50 : m4 = s4 * s5) (e55 : y3 = y2 >>> ((27 : Int32).toInt64 &&& 63)) (e56 : hi = m4 + y3) :
    0 ≤ hi.toInt ∧ hi.toInt < 4611686018427387904 ∧ 0 ≤ y2.toInt ∧ 0 ≤ m1.toInt := by
  have q1 := L_mask ha.1 e4
  have q2 := L_mask hb.1 e9
  have q3 := L_mulb 134217727 134217727 (by omega) (by omega) (by omega) (by omega) (by decide) e10
  have q4 := L_s27 ha.1 e16
  have q5 := L_mask hb.1 e21
  have q6 := L_mulb 67108864 134217727 (by omega) (by omega) (by omega) (by omega) (by decide) e22
  have q7 := L_mask ha.1 e27
  have q8 := L_s27 hb.1 e31
  have q9 := L_mulb 134217727 67108864 (by omega) (by omega) (by omega) (by omega) (by decide) e32
  have q10 := L_addb q6.1 q9.1 (by omega) e33
  have q11 := L_s27 q3.1 e38
  have q12 := L_addb (by omega) (by omega) (by omega) e39
  have q13 := L_s27 ha.1 e45
  have q14 := L_s27 hb.1 e49
  have q15 := L_mulb 67108864 67108864 (by omega) (by omega) (by omega) (by omega) (by decide) e50
  have q16 := L_s27 (by omega) e55
  have q17 := L_addb q15.1 (by omega) (by omega) e56
  omega
theorem pr_m {x v : Int64} (h : 0 ≤ x.toInt) (e : v = x &&& 134217727) : 0 ≤ v.toInt ∧ v.toInt < 134217728 := by
  have := L_mask h e
  omega
theorem pos_ne {x : Int64} (h : 0 ≤ x.toInt) (c : ¬ x = 0) : 0 < x.toInt := by have := L_ne0 c; omega
