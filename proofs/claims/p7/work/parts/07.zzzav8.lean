noncomputable section
theorem un_mul {x y v : Int64} (e : v = x * y) (h : un x * un y < 18446744073709551616) : un v = un x * un y := by
  subst e
  have : un (x * y) = un x * un y % 18446744073709551616 := BitVec.toNat_mul _ _
  rw [this, Nat.mod_eq_of_lt h]
theorem un_m27 {x v : Int64} (e : v = x &&& 134217727) : un v = un x % 134217728 := by
  subst e
  show (x &&& 134217727).toBitVec.toNat = _
  rw [Int64.toBitVec_and, BitVec.toNat_and, show (134217727 : Int64).toBitVec.toNat = 2 ^ 27 - 1 from rfl, Nat.and_two_pow_sub_one_eq_mod]
  rfl
theorem un_m54 {x v : Int64} (e : v = x &&& 18014398509481983) : un v = un x % 18014398509481984 := by
  subst e
  show (x &&& 18014398509481983).toBitVec.toNat = _
  rw [Int64.toBitVec_and, BitVec.toNat_and, show (18014398509481983 : Int64).toBitVec.toNat = 2 ^ 54 - 1 from rfl, Nat.and_two_pow_sub_one_eq_mod]
  rfl
theorem un_s27 {x v : Int64} (e : v = (x.toUInt64 >>> ((27 : Int32).toInt64.toUInt64 &&& Int64.toUInt64 63)).toInt64) : un v = un x / 134217728 := un_shr (y := 27) (k := 27) (by decide) (by decide) e
theorem un_s54 {x v : Int64} (e : v = (x.toUInt64 >>> ((54 : Int32).toInt64.toUInt64 &&& Int64.toUInt64 63)).toInt64) : un v = un x / 18014398509481984 := un_shr (y := 54) (k := 54) (by decide) (by decide) e
theorem nmul_b {x y A B : Nat} (h1 : x ≤ A) (h2 : y ≤ B) : x * y ≤ A * B := Nat.mul_le_mul h1 h2
theorem sq_e (x y z w c : Nat) : (x * c + y) * (z * c + w) = x * z * (c * c) + (x * w + y * z) * c + y * w := by
  have e1 : x * c * (z * c) = x * z * (c * c) := Nat.mul_mul_mul_comm _ _ _ _
  have e2 : x * c * w = x * w * c := Nat.mul_right_comm _ _ _
  have e3 : y * (z * c) = y * z * c := (Nat.mul_assoc _ _ _).symm
  rw [Nat.add_mul, Nat.mul_add, Nat.mul_add, e1, e2, e3, Nat.add_mul]
  omega
theorem mf_p {s1 s2 s3 s4 aH aL bH bL m1 m2 mi l1 mm ms lo0 h1 mh h2 lh hi lo : Int64} {a b : Nat} (ha : a < 9007199254740992) (hb : b < 9007199254740992) (q1 : un s1 = a) (q2 : un s2 = a) (q3 : un s3 = b) (q4 : un s4 = b)
    (e1 : aH = (s1.toUInt64 >>> ((27 : Int32).toInt64.toUInt64 &&& Int64.toUInt64 63)).toInt64) (e2 : aL = s2 &&& 134217727) (e3 : bH = (s3.toUInt64 >>> ((27 : Int32).toInt64.toUInt64 &&& Int64.toUInt64 63)).toInt64) (e4 : bL = s4 &&& 134217727)
    (e5 : m1 = aH * bL) (e6 : m2 = aL * bH) (e7 : mi = m1 + m2) (e8 : l1 = aL * bL) (e9 : mm = mi &&& 134217727) (e10 : ms = mm <<< ((27 : Int32).toInt64 &&& 63)) (e11 : lo0 = l1 + ms)
    (e12 : h1 = aH * bH) (e13 : mh = (mi.toUInt64 >>> ((27 : Int32).toInt64.toUInt64 &&& Int64.toUInt64 63)).toInt64) (e14 : h2 = h1 + mh) (e15 : lh = (lo0.toUInt64 >>> ((54 : Int32).toInt64.toUInt64 &&& Int64.toUInt64 63)).toInt64) (e16 : hi = h2 + lh) (e17 : lo = lo0 &&& 18014398509481983) : un hi * 18014398509481984 + un lo = a * b ∧ un lo < 18014398509481984 ∧ un hi < 4503599627370496 := by
  have f1 := un_s27 e1
  have f2 := un_m27 e2
  have f3 := un_s27 e3
  have f4 := un_m27 e4
  rw [q1] at f1; rw [q2] at f2; rw [q3] at f3; rw [q4] at f4
  have bnd1 := nmul_b (x := un aH) (y := un bL) (A := 67108863) (B := 134217727) (by omega) (by omega)
  have bnd2 := nmul_b (x := un aL) (y := un bH) (A := 134217727) (B := 67108863) (by omega) (by omega)
  have bnd3 := nmul_b (x := un aL) (y := un bL) (A := 134217727) (B := 134217727) (by omega) (by omega)
  have bnd4 := nmul_b (x := un aH) (y := un bH) (A := 67108863) (B := 67108863) (by omega) (by omega)
  have f5 := un_mul e5 (by omega)
  have f6 := un_mul e6 (by omega)
  have f8 := un_mul e8 (by omega)
  have f12 := un_mul e12 (by omega)
  have f7 := un_add e7
  have f9 := un_m27 e9
  have f10 := un_shl (y := 27) (k := 27) (by decide) (by decide) e10
  rw [show (2 : Nat) ^ 27 = 134217728 by decide] at f10
  have f11 := un_add e11
  have f13 := un_s27 e13
  have f14 := un_add e14
  have f15 := un_s54 e15
  have f16 := un_add e16
  have f17 := un_m54 e17
  have hab := nmul_b (x := a) (y := b) (A := 9007199254740991) (B := 9007199254740991) (by omega) (by omega)
  have key := sq_e (un aH) (un aL) (un bH) (un bL) 134217728
  rw [show un aH * 134217728 + un aL = a by omega, show un bH * 134217728 + un bL = b by omega] at key
  generalize un aH * un bL = x1 at *
  generalize un aL * un bH = x2 at *
  generalize un aL * un bL = x3 at *
  generalize un aH * un bH = x4 at *
  generalize a * b = P at *
  omega
theorem mf_r {hi : Int64} {r94 v98 room : Int32} (h : r94.toInt = 64 - (BL (un hi) : Int)) (hh : un hi < 4503599627370496) (e98 : v98 = r94 - 1) (e101 : room = if 54 < v98 then 54 else v98) : room.toInt = min (63 - (BL (un hi) : Int)) 54 ∧ BL (un hi) ≤ 52 := by
  have hb : BL (un hi) ≤ 52 := BL_le hh
  have h54 : (54 : Int32).toInt = 54 := by decide
  have := room_of h e98 I1 (by decide)
  refine ⟨?_, hb⟩
  rw [e101]
  split
  · rename_i q
    rw [Int32.lt_iff_toInt_lt, h54] at q
    rw [h54]; omega
  · rename_i q
    rw [Int32.lt_iff_toInt_lt, h54] at q
    omega
theorem mf_s {hi lo kept kd hs sz : Int64} {room drop : Int32} (lost : Int32) (hl : un lo < 18014398509481984) (hr : room.toInt = min (63 - (BL (un hi) : Int)) 54) (hb : BL (un hi) ≤ 52) (ed : drop = 54 - room) (ek : kept = (lo.toUInt64 >>> (drop.toInt64.toUInt64 &&& Int64.toUInt64 63)).toInt64) (ekd : kd = kept <<< (drop.toInt64 &&& 63)) (hlost : (kd = lo ∧ lost = 0) ∨ (¬ kd = lo ∧ lost = 1)) (eh : hs = hi <<< (room.toInt64 &&& 63)) (es : sz = hs + kept) : ∃ d r : Nat, drop.toInt = d ∧ d ≤ 54 ∧ r < 2 ^ d ∧ un sz * 2 ^ d + r = un hi * 18014398509481984 + un lo ∧ un sz < 9223372036854775808 ∧ ((lost = 1 ∧ r ≠ 0 ∧ 9007199254740992 ≤ un sz) ∨ (lost = 0 ∧ r = 0)) := by
  have h54 : (54 : Int32).toInt = 54 := by decide
  have D : drop.toInt = 54 - room.toInt := by rw [ed, I_sub, h54] <;> (try rw [h54]) <;> omega
  obtain ⟨m, hm⟩ : ∃ m : Nat, room.toInt = m := ⟨room.toInt.toNat, by omega⟩
  obtain ⟨d, hd⟩ : ∃ d : Nat, drop.toInt = d := ⟨drop.toInt.toNat, by omega⟩
  have k1 := un_shr hd (by omega) ek
  have k2 := un_shl hd (by omega) ekd
  have w := Nat.div_add_mod (un lo) (2 ^ d)
  have wl := Nat.mod_lt (un lo) (Nat.two_pow_pos d)
  have hmd : (2 : Nat) ^ m * 2 ^ d = 18014398509481984 := by rw [← Nat.pow_add, show m + d = 54 by omega]
  have hkl : un lo / 2 ^ d < 2 ^ m := by rw [Nat.div_lt_iff_lt_mul (Nat.two_pow_pos d), hmd]; exact hl
  have hhi : (un hi + 1) * 2 ^ m ≤ 9223372036854775808 := by
    have : un hi + 1 ≤ 2 ^ BL (un hi) := BL_lt (T := un hi)
    have h2 : (un hi + 1) * 2 ^ m ≤ 2 ^ BL (un hi) * 2 ^ m := Nat.mul_le_mul_right _ this
    rw [← Nat.pow_add] at h2
    exact Nat.le_trans h2 (Nat.pow_le_pow_right (n := 2) (j := 63) (by decide) (by omega))
  rw [Nat.add_mul, Nat.one_mul] at hhi
  have k3 := un_shl hm (by omega) eh
  rw [Nat.mod_eq_of_lt (by omega)] at k3
  have k4 := un_add es
  rw [k3, k1, Nat.mod_eq_of_lt (by omega)] at k4
  rw [k1, Nat.mul_comm, Nat.mod_eq_of_lt (by omega)] at k2
  refine ⟨d, un lo % 2 ^ d, hd, by omega, wl, ?_, by omega, ?_⟩
  · rw [k4, Nat.add_mul, Nat.mul_assoc, hmd, Nat.mul_comm (un lo / 2 ^ d)]; omega
  · rcases hlost with ⟨q, z⟩ | ⟨q, z⟩
    · right; refine ⟨z, ?_⟩
      rw [q] at k2; omega
    · left
      have r0 : un lo % 2 ^ d ≠ 0 := fun y => q (un_inj (by rw [y] at w; omega))
      refine ⟨z, r0, ?_⟩
      have d1 : 1 ≤ d := by
        rcases Nat.eq_zero_or_pos d with y | y
        · subst y; rw [Nat.pow_zero, Nat.mod_one] at r0; exact absurd rfl r0
        · exact y
      have m63 : m = 63 - BL (un hi) := by omega
      have hi0 : un hi ≠ 0 := fun y => by rw [y] at m63; rw [show BL 0 = 0 from rfl] at m63; omega
      obtain ⟨n1, -⟩ := nrm hi0 (H := 63) (by omega)
      rw [← m63, show (63 : Nat) - 1 = 62 by decide, show (2 : Nat) ^ 62 = 4611686018427387904 by decide] at n1
      omega
theorem mf_e {f f2 : Nat → V3} {a0 : Nat} {v w : V3} {A B : Int} {hi lo sz : Int64} {p lost drop ea eb es unit : Int32} (ha : CA v (.inr (.inl A))) (hb : CA w (.inr (.inl B))) (hP : un hi * 18014398509481984 + un lo = v.2.1.toInt.natAbs * w.2.1.toInt.natAbs) (hS : ∃ d r : Nat, drop.toInt = d ∧ d ≤ 54 ∧ r < 2 ^ d ∧ un sz * 2 ^ d + r = un hi * 18014398509481984 + un lo ∧ un sz < 9223372036854775808 ∧ ((lost = 1 ∧ r ≠ 0 ∧ 9007199254740992 ≤ un sz) ∨ (lost = 0 ∧ r = 0)))
    (e1 : ea = v.2.2) (e2 : eb = w.2.2) (e3 : es = ea + eb) (e4 : unit = es + drop) (h : SNC sz unit → ∃ v, f2 = va_up f a0 v ∧ CA v (rnd (bb p) (un sz * 2 ^ (unit.toInt + (OFF : Int)).toNat) (bb lost))) : UPD f f2 a0 (rnd (bb p) (A.natAbs * B.natAbs / W1) false) := by
  obtain ⟨d, r, d1, d2, d3, d4, d5, d6⟩ := hS
  obtain ⟨a1, a2, a3⟩ := CN_e ha.2.1
  obtain ⟨b1, b2, b3⟩ := CN_e hb.2.1
  have hOF : (OFF : Int) = 6000 := rfl
  have hOF' : OFF = 6000 := rfl
  have S : es.toInt = v.2.2.toInt + w.2.2.toInt := by rw [e3, e1, e2, I_add] <;> omega
  have U : unit.toInt = es.toInt + d := by rw [e4, I_add] <;> omega
  obtain ⟨E, hE⟩ : ∃ E : Nat, v.2.2.toInt + w.2.2.toInt + (OFF : Int) = E := ⟨(v.2.2.toInt + w.2.2.toInt + (OFF : Int)).toNat, by omega⟩
  have hU : (unit.toInt + (OFF : Int)).toNat = d + E := by omega
  have hT : A.natAbs * B.natAbs / W1 = (un sz * 2 ^ d + r) * 2 ^ E := by
    rw [CA_abs ha, CA_abs hb, d4, hP, Nat.mul_mul_mul_comm, ← Nat.pow_add, show (v.2.2.toInt + (OFF : Int)).toNat + (w.2.2.toInt + (OFF : Int)).toNat = E + OFF by omega, Nat.pow_add, ← Nat.mul_assoc, W1_e2, Nat.mul_div_cancel _ (Nat.two_pow_pos OFF)]
  obtain ⟨x, h1, h2⟩ := h ⟨Or.inl d5, by omega, by omega⟩
  refine ⟨x, h1, ?_⟩
  unfold rnd at *
  have hR : RT (A.natAbs * B.natAbs / W1) false = RT (un sz * 2 ^ (unit.toInt + (OFF : Int)).toNat) (bb lost) := by
    rw [hT, hU, Nat.add_mul, Nat.mul_assoc, ← Nat.pow_add]
    rcases d6 with ⟨q, z, y⟩ | ⟨q, z⟩
    · rw [q]
      refine RT_st (by rw [show (2 : Nat) ^ 53 = 9007199254740992 by decide]; exact y) ?_ ⟨fun _ => Or.inl ?_, fun _ => rfl⟩
      · rw [Nat.pow_add]; exact Nat.mul_lt_mul_of_pos_right d3 (Nat.two_pow_pos E)
      · intro u
        rcases Nat.mul_eq_zero.mp u with t | t
        · exact z t
        · have := Nat.two_pow_pos E; omega
    · rw [q, z, Nat.zero_mul, Nat.add_zero]; rfl
  rw [hR]; exact h2
end
