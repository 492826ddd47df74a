noncomputable section
theorem core1 {M1 M2 g U : Nat} (h : 2 ^ 53 ≤ M1 + M2 / 2 ^ g) : RT (M1 * 2 ^ (U + g) + M2 * 2 ^ U) false = RT ((M1 + M2 / 2 ^ g) * 2 ^ (U + g)) (decide (M2 % 2 ^ g ≠ 0)) := by
  have e : M1 * 2 ^ (U + g) + M2 * 2 ^ U = (M1 + M2 / 2 ^ g) * 2 ^ (U + g) + M2 % 2 ^ g * 2 ^ U := by
    have h1 := Nat.div_add_mod M2 (2 ^ g)
    conv => lhs; rw [← h1]
    rw [Nat.pow_add, Nat.add_mul, Nat.add_mul]
    simp only [Nat.mul_assoc, Nat.mul_comm, Nat.mul_left_comm, Nat.add_assoc]
  rw [e]
  refine RT_st h ?_ ?_
  · rw [Nat.pow_add, Nat.mul_comm (2 ^ U)]
    exact Nat.mul_lt_mul_of_pos_right (Nat.mod_lt _ (Nat.two_pow_pos g)) (Nat.two_pow_pos U)
  · have hU := Nat.two_pow_pos U
    rw [decide_eq_true_iff]
    constructor
    · intro q
      left
      intro z
      rcases Nat.mul_eq_zero.mp z with y | y
      · exact q y
      · omega
    · intro q z
      rcases q with q | q
      · rw [z, Nat.zero_mul] at q; exact q rfl
      · exact absurd q (by decide)
theorem core2 {M1 M2 g U : Nat} (h : M2 % 2 ^ g = 0) : M1 * 2 ^ (U + g) - M2 * 2 ^ U = (M1 - M2 / 2 ^ g) * 2 ^ (U + g) := by
  have h1 := Nat.div_add_mod M2 (2 ^ g)
  rw [h, Nat.add_zero] at h1
  conv => lhs; rw [← h1]
  rw [Nat.sub_mul, Nat.pow_add]
  simp only [Nat.mul_assoc, Nat.mul_comm, Nat.mul_left_comm]
theorem core3 {M1 M2 g U : Nat} (h : M2 % 2 ^ g ≠ 0) (h2 : 2 ^ 53 ≤ M1 - (M2 / 2 ^ g + 1)) : RT (M1 * 2 ^ (U + g) - M2 * 2 ^ U) false = RT ((M1 - (M2 / 2 ^ g + 1)) * 2 ^ (U + g)) true := by
  have hU := Nat.two_pow_pos U
  have hm := Nat.mod_lt M2 (Nat.two_pow_pos g)
  have hle : M2 / 2 ^ g + 1 ≤ M1 := by
    have := Nat.two_pow_pos 53
    omega
  have e : M1 * 2 ^ (U + g) - M2 * 2 ^ U = (M1 - (M2 / 2 ^ g + 1)) * 2 ^ (U + g) + (2 ^ g - M2 % 2 ^ g) * 2 ^ U := by
    have h1 := Nat.div_add_mod M2 (2 ^ g)
    obtain ⟨c, rfl⟩ : ∃ c, M1 = c + (M2 / 2 ^ g + 1) := ⟨M1 - (M2 / 2 ^ g + 1), by omega⟩
    rw [Nat.add_sub_cancel]
    generalize M2 / 2 ^ g = q at *
    generalize M2 % 2 ^ g = r at *
    have hg : (2 : Nat) ^ (U + g) = 2 ^ g * 2 ^ U := by rw [Nat.pow_add, Nat.mul_comm]
    rw [hg]
    generalize (2 : Nat) ^ g = b at *
    generalize (2 : Nat) ^ U = u at *
    have e2 : (c + (q + 1)) * (b * u) = c * (b * u) + (b * q * u + b * u) := by
      rw [Nat.add_mul, Nat.add_mul, Nat.one_mul]
      simp only [Nat.mul_assoc, Nat.mul_comm, Nat.mul_left_comm]
    have e3 : M2 * u = b * q * u + r * u := by rw [← h1, Nat.add_mul]
    have e4 : (b - r) * u = b * u - r * u := Nat.sub_mul _ _ _
    have e5 : r * u ≤ b * u := Nat.mul_le_mul_right _ (by omega)
    rw [e2, e3, e4]
    omega
  rw [e]
  refine RT_st h2 ?_ ?_
  · rw [Nat.pow_add, Nat.mul_comm (2 ^ U)]
    exact Nat.mul_lt_mul_of_pos_right (by omega) hU
  · refine ⟨fun _ => Or.inl ?_, fun _ => rfl⟩
    intro z
    rcases Nat.mul_eq_zero.mp z with y | y
    · omega
    · omega
def KL (M g : Nat) (k : Int64) (lost : Int32) : Prop := un k = M / 2 ^ g ∧ ((lost = 1 ∧ M % 2 ^ g ≠ 0) ∨ (lost = 0 ∧ M % 2 ^ g = 0))
theorem kl_g {a : Int64} {gap : Int32} {g : Nat} (hg : gap.toInt = g) (ha : 0 < un a ∧ un a < 9223372036854775808) (c : ¬ gap ≤ 63) : KL (un a) g 0 1 := by
  rw [Int32.le_iff_toInt_le, show (63 : Int32).toInt = 63 by decide] at c
  have h : 2 ^ 63 ≤ 2 ^ g := Nat.pow_le_pow_right (by decide) (by omega)
  rw [show (2 : Nat) ^ 63 = 9223372036854775808 by decide] at h
  refine ⟨?_, Or.inl ⟨rfl, ?_⟩⟩
  · rw [Nat.div_eq_of_lt (by omega)]; rfl
  · rw [Nat.mod_eq_of_lt (by omega)]; omega
theorem kl_s {a k b : Int64} {gap : Int32} {g : Nat} (lost : Int32) (hg : gap.toInt = g) (ha : 0 < un a ∧ un a < 9223372036854775808) (c : gap ≤ 63) (ek : k = (a.toUInt64 >>> (gap.toInt64.toUInt64 &&& Int64.toUInt64 63)).toInt64) (eb : b = k <<< (gap.toInt64 &&& 63)) (hl : (b = a ∧ lost = 0) ∨ (¬ b = a ∧ lost = 1)) : KL (un a) g k lost := by
  rw [Int32.le_iff_toInt_le, show (63 : Int32).toInt = 63 by decide] at c
  have h1 := un_shr hg (by omega) ek
  have h2 := un_shl hg (by omega) eb
  have h3 := Nat.div_add_mod (un a) (2 ^ g)
  rw [h1, Nat.mul_comm, Nat.mod_eq_of_lt (by omega)] at h2
  refine ⟨h1, ?_⟩
  rcases hl with ⟨q, z⟩ | ⟨q, z⟩
  · right; refine ⟨z, ?_⟩
    rw [q] at h2; omega
  · left; refine ⟨z, fun y => q (un_inj ?_)⟩
    rw [y] at h3; omega
def ASF (v w : V3) (A B : Int) (M1 M2 : Int64) (unit gap : Int32) (g U : Nat) : Prop := (2305843009213693952 ≤ un M1 ∧ un M1 < 4611686018427387904) ∧ (2305843009213693952 ≤ un M2 ∧ un M2 < 4611686018427387904) ∧ (un M2 % 512 = 0) ∧ (gap.toInt = g) ∧ (A.natAbs = un M1 * 2 ^ (U + g)) ∧ (B.natAbs = un M2 * 2 ^ U) ∧ ((unit.toInt + (OFF : Int)).toNat = U + g) ∧ (-5000 ≤ unit.toInt ∧ unit.toInt ≤ 5000)
theorem ASF.m1 {v w : V3} {A B : Int} {M1 M2 : Int64} {unit gap : Int32} {g U : Nat} (F9 : ASF v w A B M1 M2 unit gap g U) : 2305843009213693952 ≤ un M1 ∧ un M1 < 4611686018427387904 := F9.1
theorem ASF.m2 {v w : V3} {A B : Int} {M1 M2 : Int64} {unit gap : Int32} {g U : Nat} (F9 : ASF v w A B M1 M2 unit gap g U) : 2305843009213693952 ≤ un M2 ∧ un M2 < 4611686018427387904 := F9.2.1
theorem ASF.h9 {v w : V3} {A B : Int} {M1 M2 : Int64} {unit gap : Int32} {g U : Nat} (F9 : ASF v w A B M1 M2 unit gap g U) : un M2 % 512 = 0 := F9.2.2.1
theorem ASF.hg {v w : V3} {A B : Int} {M1 M2 : Int64} {unit gap : Int32} {g U : Nat} (F9 : ASF v w A B M1 M2 unit gap g U) : gap.toInt = g := F9.2.2.2.1
theorem ASF.hA {v w : V3} {A B : Int} {M1 M2 : Int64} {unit gap : Int32} {g U : Nat} (F9 : ASF v w A B M1 M2 unit gap g U) : A.natAbs = un M1 * 2 ^ (U + g) := F9.2.2.2.2.1
theorem ASF.hB {v w : V3} {A B : Int} {M1 M2 : Int64} {unit gap : Int32} {g U : Nat} (F9 : ASF v w A B M1 M2 unit gap g U) : B.natAbs = un M2 * 2 ^ U := F9.2.2.2.2.2.1
theorem ASF.hu {v w : V3} {A B : Int} {M1 M2 : Int64} {unit gap : Int32} {g U : Nat} (F9 : ASF v w A B M1 M2 unit gap g U) : (unit.toInt + (OFF : Int)).toNat = U + g := F9.2.2.2.2.2.2.1
theorem ASF.hr {v w : V3} {A B : Int} {M1 M2 : Int64} {unit gap : Int32} {g U : Nat} (F9 : ASF v w A B M1 M2 unit gap g U) : -5000 ≤ unit.toInt ∧ unit.toInt ≤ 5000 := F9.2.2.2.2.2.2.2
theorem as_f {v w : V3} {A B : Int} {s1 s2 t1 t2 M1 M2 : Int64} {z1 z2 r1 r2 e1 e2 unit u2 gap : Int32} (ha : CA v (.inr (.inl A))) (hb : CA w (.inr (.inl B))) (a0 : A ≠ 0) (b0 : B ≠ 0) (hle : B.natAbs ≤ A.natAbs)
    (hs1 : un s1 = v.2.1.toInt.natAbs) (hz1 : z1.toInt = 64 - (BL (un s1) : Int)) (hr1 : r1 = z1 - 2) (he1 : e1 = v.2.2) (hu1 : unit = e1 - r1) (hs2 : un s2 = w.2.1.toInt.natAbs) (hz2 : z2.toInt = 64 - (BL (un s2) : Int)) (hr2 : r2 = z2 - 2)
    (he2 : e2 = w.2.2) (hu2 : u2 = e2 - r2) (hgap : gap = unit - u2) (ht2 : un t2 = w.2.1.toInt.natAbs) (hM2 : M2 = t2 <<< (r2.toInt64 &&& 63)) (ht1 : un t1 = v.2.1.toInt.natAbs) (hM1 : M1 = t1 <<< (r1.toInt64 &&& 63)) : ∃ g U, ASF v w A B M1 M2 unit gap g U := by
  obtain ⟨a1, a2, a3⟩ := CN_e ha.2.1
  obtain ⟨b1, b2, b3⟩ := CN_e hb.2.1
  have I2 : (2 : Int32).toInt = 2 := by decide
  have R1 := room_of hz1 hr1 I2 (by decide)
  have R2 := room_of hz2 hr2 I2 (by decide)
  have x1 : t1 = s1 := un_inj (ht1.trans hs1.symm)
  have x2 : t2 = s2 := un_inj (ht2.trans hs2.symm)
  subst x1; subst x2
  obtain ⟨p1, p2, p3, p4, p5, p6⟩ := big 62 (by decide) (by decide) ha a0 hs1 (by omega) hM1
  obtain ⟨q1, q2, q3, q4, q5, q6⟩ := big 62 (by decide) (by decide) hb b0 hs2 (by omega) hM2
  have hOF : (OFF : Int) = 6000 := rfl
  have L1' := BL_ge (T := un t1) (k := 0) (by rw [Nat.pow_zero]; omega)
  have L2' := BL_ge (T := un t2) (k := 0) (by rw [Nat.pow_zero]; omega)
  have U1 : unit.toInt = v.2.2.toInt - r1.toInt := by rw [hu1, he1, I_sub] <;> omega
  have U2 : u2.toInt = w.2.2.toInt - r2.toInt := by rw [hu2, he2, I_sub] <;> omega
  have G : gap.toInt = unit.toInt - u2.toInt := by rw [hgap, I_sub] <;> omega
  rw [← U1] at p3
  rw [← U2] at q3
  rw [show (62 : Nat) - 1 = 61 by decide, show (2 : Nat) ^ 61 = 2305843009213693952 by decide] at p1 q1
  rw [show (2 : Nat) ^ 62 = 4611686018427387904 by decide] at p2 q2
  have hge : 0 ≤ gap.toInt := by
    rcases Int.lt_or_le gap.toInt 0 with z | z
    · exfalso
      have : A.natAbs < B.natAbs := by
        rw [p3, q3]
        obtain ⟨d, hd⟩ : ∃ d, (u2.toInt + (OFF : Int)).toNat = (unit.toInt + (OFF : Int)).toNat + 1 + d := ⟨(u2.toInt + (OFF : Int)).toNat - (unit.toInt + (OFF : Int)).toNat - 1, by omega⟩
        rw [hd, Nat.pow_add, Nat.pow_add, Nat.pow_one]
        have P := Nat.two_pow_pos (unit.toInt + (OFF : Int)).toNat
        have P2 := Nat.two_pow_pos d
        have e : un M2 * (2 ^ (unit.toInt + (OFF : Int)).toNat * 2 * 2 ^ d) = un M2 * 2 * 2 ^ d * 2 ^ (unit.toInt + (OFF : Int)).toNat := by simp only [Nat.mul_assoc, Nat.mul_comm, Nat.mul_left_comm]
        rw [e]
        refine Nat.mul_lt_mul_of_pos_right ?_ P
        have : un M2 * 2 * 1 ≤ un M2 * 2 * 2 ^ d := Nat.mul_le_mul_left _ P2
        omega
      omega
    · exact z
  refine ⟨gap.toInt.toNat, (u2.toInt + (OFF : Int)).toNat, ?_⟩
  have hsum : (unit.toInt + (OFF : Int)).toNat = (u2.toInt + (OFF : Int)).toNat + gap.toInt.toNat := by omega
  refine ⟨⟨p1, p2⟩, ⟨q1, q2⟩, ?_, by omega, by rw [p3, hsum], q3, hsum, by omega, by omega⟩
  rw [q4]
  obtain ⟨k, hk⟩ : ∃ k, 62 - BL (un t2) = 9 + k := ⟨62 - BL (un t2) - 9, by omega⟩
  rw [hk, Nat.pow_add, show (2 : Nat) ^ 9 = 512 by decide, ← Nat.mul_assoc, Nat.mul_comm (un t2), Nat.mul_assoc]
  exact Nat.mul_mod_right _ _
theorem kept_lt {M g : Nat} (h : M < 4611686018427387904) (h9 : M % 512 = 0) (h0 : M % 2 ^ g ≠ 0) : M / 2 ^ g < 4503599627370496 := by
  have hg : 10 ≤ g := by
    rcases Nat.lt_or_ge g 10 with q | q
    · exfalso
      apply h0
      obtain ⟨k, hk⟩ : ∃ k, 9 = g + k := ⟨9 - g, by omega⟩
      rw [show 512 = 2 ^ g * 2 ^ k by rw [← Nat.pow_add, ← hk]] at h9
      have := Nat.mod_mul_right_mod M (2 ^ g) (2 ^ k)
      rw [h9, Nat.zero_mod] at this
      exact this.symm
    · exact q
  have : M / 2 ^ g ≤ M / 2 ^ 10 := Nat.div_le_div_left (Nat.pow_le_pow_right (by decide) hg) (by decide)
  rw [show (2 : Nat) ^ 10 = 1024 by decide] at this
  omega
theorem as_fin {f f2 : Nat → V3} {a0 : Nat} {A B : Int} {tot : Int64} {b lost unit : Int32} (hb : bb b = decide (A < 0)) (hS : SNC tot unit) (hR : RT (A + B).natAbs false = RT (un tot * 2 ^ (unit.toInt + (OFF : Int)).toNat) (bb lost)) (h : SNC tot unit → ∃ v, f2 = va_up f a0 v ∧ CA v (rnd (bb b) (un tot * 2 ^ (unit.toInt + (OFF : Int)).toNat) (bb lost))) : UPD f f2 a0 (rnd (decide (A < 0)) (A + B).natAbs false) := by
  obtain ⟨v, h1, h2⟩ := h hS
  refine ⟨v, h1, ?_⟩
  unfold rnd at *
  rw [hR, ← hb]; exact h2
theorem sg_eq {A B : Int} {r s : Int32} (h1 : SG A.sign r) (h2 : SG B.sign s) : r = s ↔ A.sign = B.sign := by
  have x := SG_t h1 (sg_3 (.inr (.inl A)))
  have y := SG_t h2 (sg_3 (.inr (.inl B)))
  rw [← x, ← y]
  exact Int32.toInt_inj.symm
theorem sign_c (A : Int) : (A < 0 ∧ A.sign = -1) ∨ (A = 0 ∧ A.sign = 0) ∨ (0 < A ∧ A.sign = 1) := by
  rcases Int.lt_trichotomy A 0 with q | q | q
  · left; exact ⟨q, Int.sign_eq_neg_one_of_neg q⟩
  · right; left; exact ⟨q, by rw [q]; rfl⟩
  · right; right; exact ⟨q, Int.sign_eq_one_of_pos q⟩
theorem as_1 {v w : V3} {A B : Int} {M1 M2 k tot : Int64} {unit gap lost : Int32} {g U : Nat} (F : ASF v w A B M1 M2 unit gap g U) (a0 : A ≠ 0) (b0 : B ≠ 0) (K : KL (un M2) g k lost) (hs : A.sign = B.sign) (et : tot = M1 + k) : SNC tot unit ∧ RT (A + B).natAbs false = RT (un tot * 2 ^ (unit.toInt + (OFF : Int)).toNat) (bb lost) := by
  obtain ⟨k1, k2⟩ := K
  obtain ⟨m1, m1'⟩ := F.m1
  obtain ⟨m2, m2'⟩ := F.m2
  have hk : un M2 / 2 ^ g ≤ un M2 := Nat.div_le_self _ _
  have ht := un_add et
  rw [k1, Nat.mod_eq_of_lt (by omega)] at ht
  have hab : (A + B).natAbs = A.natAbs + B.natAbs := by
    rcases sign_c A with p | p | p <;> rcases sign_c B with q | q | q <;> omega
  refine ⟨⟨Or.inl (by omega), F.hr⟩, ?_⟩
  rw [hab, F.hA, F.hB, core1 (by rw [show (2 : Nat) ^ 53 = 9007199254740992 by decide]; omega), F.hu, ht]
  congr 1
  rcases k2 with ⟨q, z⟩ | ⟨q, z⟩
  · rw [q, decide_eq_true z]; rfl
  · rw [q, decide_eq_false (by omega)]; rfl
theorem as_d {A B : Int} (a0 : A ≠ 0) (b0 : B ≠ 0) (hs : ¬ A.sign = B.sign) (hle : B.natAbs ≤ A.natAbs) : (A + B).natAbs = A.natAbs - B.natAbs := by
  rcases sign_c A with p | p | p <;> rcases sign_c B with q | q | q <;> omega
theorem as_2 {v w : V3} {A B : Int} {M1 M2 k tot : Int64} {unit gap : Int32} {g U : Nat} (F : ASF v w A B M1 M2 unit gap g U) (a0 : A ≠ 0) (b0 : B ≠ 0) (hle : B.natAbs ≤ A.natAbs) (K : KL (un M2) g k 0) (hs : ¬ A.sign = B.sign) (et : tot = M1 - k) : SNC tot unit ∧ RT (A + B).natAbs false = RT (un tot * 2 ^ (unit.toInt + (OFF : Int)).toNat) (bb 0) := by
  obtain ⟨k1, k2⟩ := K
  obtain ⟨m1, m1'⟩ := F.m1
  have h0 : un M2 % 2 ^ g = 0 := by
    rcases k2 with ⟨q, z⟩ | ⟨q, z⟩
    · exact absurd q (by decide)
    · exact z
  have hk : un M2 / 2 ^ g ≤ un M1 := by
    rw [F.hA, F.hB] at hle
    have P := Nat.two_pow_pos (U + g)
    rcases Nat.lt_or_ge (un M1) (un M2 / 2 ^ g) with q | q
    · exfalso
      have h1 := Nat.div_add_mod (un M2) (2 ^ g)
      rw [h0, Nat.add_zero] at h1
      have h2 : un M2 * 2 ^ U = un M2 / 2 ^ g * 2 ^ (U + g) := by
        conv => lhs; rw [← h1]
        rw [Nat.pow_add]
        simp only [Nat.mul_assoc, Nat.mul_comm, Nat.mul_left_comm]
      rw [h2] at hle
      have := Nat.mul_lt_mul_of_pos_right q P
      omega
    · exact q
  have ht := un_sub et (by rw [k1]; exact hk)
  rw [k1] at ht
  refine ⟨⟨Or.inl (by omega), F.hr⟩, ?_⟩
  rw [as_d a0 b0 hs hle, F.hA, F.hB, core2 h0, F.hu, ht]
  rfl
theorem as_3 {v w : V3} {A B : Int} {M1 M2 k k1' tot : Int64} {unit gap : Int32} {g U : Nat} (F : ASF v w A B M1 M2 unit gap g U) (a0 : A ≠ 0) (b0 : B ≠ 0) (hle : B.natAbs ≤ A.natAbs) (K : KL (un M2) g k 1) (hs : ¬ A.sign = B.sign) (e1 : k1' = k + 1) (et : tot = M1 - k1') : SNC tot unit ∧ RT (A + B).natAbs false = RT (un tot * 2 ^ (unit.toInt + (OFF : Int)).toNat) (bb 1) := by
  obtain ⟨k1, k2⟩ := K
  obtain ⟨m1, m1'⟩ := F.m1
  have h0 : un M2 % 2 ^ g ≠ 0 := by
    rcases k2 with ⟨q, z⟩ | ⟨q, z⟩
    · exact z
    · exact absurd q (by decide)
  have hk := kept_lt F.m2.2 F.h9 h0
  have h1 := un_add e1
  rw [k1, un1, Nat.mod_eq_of_lt (by omega)] at h1
  have ht := un_sub et (by omega)
  rw [h1] at ht
  refine ⟨⟨Or.inl (by omega), F.hr⟩, ?_⟩
  rw [as_d a0 b0 hs hle, F.hA, F.hB, core3 h0 (by rw [show (2 : Nat) ^ 53 = 9007199254740992 by decide]; omega), F.hu, ht]
  rfl
end
