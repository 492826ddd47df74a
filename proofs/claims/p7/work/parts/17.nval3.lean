noncomputable section
def PRD (a b : Nat) (bits : Int64) (scale : Int32) : Prop := ∃ s r d : Nat, scale.toInt = d ∧ a * b = s * 2 ^ d + r ∧ r < 2 ^ d ∧ ((r = 0 ∧ bits.toInt.toNat = s) ∨ (r ≠ 0 ∧ 2 ^ 54 ≤ s ∧ bits.toInt.toNat = s + (1 - s % 2)))
theorem L_nm {x y v : Int64} (A B : Nat) (hx : x.toInt = A) (hy : y.toInt = B) (hb : A * B < 9223372036854775808) (e : v = x * y) : v.toInt = ((A * B : Nat) : Int) := by
  have : x.toInt * y.toInt = ((A * B : Nat) : Int) := by rw [hx, hy]; push_cast; rfl
  rw [e, L_mul (by rw [this]; omega) (by rw [this]; omega), this]
theorem L_n27 {x v : Int64} {A : Nat} (hx : x.toInt = A) (e : v = x >>> ((27 : Int32).toInt64 &&& 63)) : v.toInt = ((A / 134217728 : Nat) : Int) := by
  rw [e, L_shrN hx (y := 27) (k := 27) (by decide) (by decide)]
theorem L_nk {x v : Int64} {A : Nat} (hx : x.toInt = A) (e : v = x &&& 134217727) : v.toInt = ((A % 134217728 : Nat) : Int) := by
  rw [L_mask (by omega) e, hx]; omega
theorem pv {a b x1 x2 m1 s1 x3 m2 x4 s2 m3 y1 s3 y2 y3 s4 m4 s5 hi re la : Int64}
    (ha : 0 ≤ a.toInt ∧ a.toInt ≤ 9007199254740992) (hb : 0 ≤ b.toInt ∧ b.toInt ≤ 9007199254740992)
    (e4 : x1 = a &&& 134217727) (e9 : x2 = b &&& 134217727) (e10 : m1 = x1 * x2) (e16 : s1 = a >>> ((27 : Int32).toInt64 &&& 63)) (e21 : x3 = b &&& 134217727) (e22 : m2 = s1 * x3)
    (e27 : x4 = a &&& 134217727) (e31 : s2 = b >>> ((27 : Int32).toInt64 &&& 63)) (e32 : m3 = x4 * s2) (e33 : y1 = m2 + m3) (e38 : s3 = m1 >>> ((27 : Int32).toInt64 &&& 63)) (e39 : y2 = y1 + s3)
    (e45 : s4 = a >>> ((27 : Int32).toInt64 &&& 63)) (e49 : s5 = b >>> ((27 : Int32).toInt64 &&& 63)) (e50 : m4 = s4 * s5) (e55 : y3 = y2 >>> ((27 : Int32).toInt64 &&& 63)) (e56 : hi = m4 + y3) (e64 : re = y2 &&& 134217727) (e72 : la = m1 &&& 134217727) :
    ∃ H R L : Nat, hi.toInt = H ∧ re.toInt = R ∧ la.toInt = L ∧ R < 134217728 ∧ L < 134217728 ∧ a.toInt.toNat * b.toInt.toNat = H * 18014398509481984 + R * 134217728 + L := by
  obtain ⟨A, hA⟩ : ∃ A : Nat, a.toInt = A := ⟨a.toInt.toNat, by omega⟩
  obtain ⟨B, hB⟩ : ∃ B : Nat, b.toInt = B := ⟨b.toInt.toNat, by omega⟩
  have q1 := L_nk hA e4
  have q2 := L_nk hB e9
  have q4 := L_n27 hA e16
  have q5 := L_nk hB e21
  have q7 := L_nk hA e27
  have q8 := L_n27 hB e31
  have q13 := L_n27 hA e45
  have q14 := L_n27 hB e49
  have key := sq_e (A / 134217728) (A % 134217728) (B / 134217728) (B % 134217728) 134217728
  rw [show A / 134217728 * 134217728 + A % 134217728 = A by omega, show B / 134217728 * 134217728 + B % 134217728 = B by omega] at key
  have c1 : A / 134217728 ≤ 67108864 := by omega
  have c2 : A % 134217728 ≤ 134217727 := by omega
  have c3 : B / 134217728 ≤ 67108864 := by omega
  have c4 : B % 134217728 ≤ 134217727 := by omega
  rw [hA, hB, Int.toNat_natCast, Int.toNat_natCast, key]
  generalize A / 134217728 = aH at *
  generalize A % 134217728 = aL at *
  generalize B / 134217728 = bH at *
  generalize B % 134217728 = bL at *
  have n1 := nmul_b c2 c4
  have n2 := nmul_b c1 c4
  have n3 := nmul_b c2 c3
  have n4 := nmul_b c1 c3
  have q3 := L_nm aL bL q1 q2 (by omega) e10
  have q6 := L_nm aH bL q4 q5 (by omega) e22
  have q9 := L_nm aL bH q7 q8 (by omega) e32
  have q15 := L_nm aH bH q13 q14 (by omega) e50
  have q11 := L_n27 q3 e38
  have q19 := L_nk q3 e72
  generalize aL * bL = x9 at *
  generalize aH * bL = x8 at *
  generalize aL * bH = x7 at *
  generalize aH * bH = x6 at *
  have q10 : y1.toInt = ((x8 + x7 : Nat) : Int) := by rw [e33, L_add] <;> omega
  have q12 : y2.toInt = ((x8 + x7 + x9 / 134217728 : Nat) : Int) := by rw [e39, L_add] <;> omega
  have q16 := L_n27 q12 e55
  have q18 := L_nk q12 e64
  have q17 : hi.toInt = ((x6 + (x8 + x7 + x9 / 134217728) / 134217728 : Nat) : Int) := by rw [e56, L_add] <;> omega
  refine ⟨_, _, _, q17, q18, q19, by omega, by omega, ?_⟩
  omega
theorem L_orD {x y v : Int64} {A u Y : Nat} (hx : x.toInt = ((A * 2 ^ u : Nat) : Int)) (hy : y.toInt = Y) (hY : Y < 2 ^ u) (hb : A * 2 ^ u + Y < 9223372036854775808) (e : v = x ||| y) : v.toInt = ((A * 2 ^ u + Y : Nat) : Int) := by
  have h1 := L_tn (x := x) (by rw [hx]; omega)
  have h2 := L_tn (x := y) (by rw [hy]; omega)
  have h3 : v.toBitVec.toNat = x.toBitVec.toNat ||| y.toBitVec.toNat := by rw [e, Int64.toBitVec_or, BitVec.toNat_or]
  rw [hx] at h1
  rw [hy] at h2
  rw [Int.ofNat_inj.mp h1, Int.ofNat_inj.mp h2, Nat.mul_comm, ← Nat.two_pow_add_eq_or_of_lt hY, Nat.mul_comm] at h3
  exact L_of_nat h3 hb
def UPN (h : Int64) (u : Int32) : Prop := u.toInt < 27 → 2305843009213693952 ≤ h.toInt.toNat * 2 ^ u.toInt.toNat
theorem upn_27 {h : Int64} : UPN h 27 := fun q => absurd q (by decide)
theorem upn_r {h : Int64} {r : Int32} (q : RMX h r) : UPN h r := fun _ => by
  obtain ⟨u, h1, h2, h3, h4⟩ := q
  rw [show r.toInt.toNat = u by omega]; exact h4
/-- h * 2^u | r >> (27 - u) -/
theorem pv_b {h r a b v : Int64} {u d : Int32} {H R : Nat} (q : UP h u) (hh : h.toInt = H) (hr : r.toInt = R) (hR : R < 134217728) (ea : a = h <<< (u.toInt64 &&& 63)) (ed : d = 27 - u) (eb : b = r >>> (d.toInt64 &&& 63)) (ev : v = a ||| b) : ∃ U k : Nat, u.toInt = U ∧ U + k = 27 ∧ d.toInt = k ∧ v.toInt = ((H * 2 ^ U + R / 2 ^ k : Nat) : Int) := by
  obtain ⟨h1, h2, h3⟩ := q
  obtain ⟨U, hU⟩ : ∃ U : Nat, u.toInt = U := ⟨u.toInt.toNat, by omega⟩
  have d1 : d.toInt = 27 - u.toInt := by rw [ed, I_sub, I27] <;> (try rw [I27]) <;> omega
  obtain ⟨k, hk⟩ : ∃ k : Nat, d.toInt = k := ⟨d.toInt.toNat, by omega⟩
  rw [show u.toInt.toNat = U by omega, show h.toInt.toNat = H by omega] at h3
  have a1 := L_shlN hh hU (by omega) (by omega)
  rw [← ea] at a1
  have b1 := L_shrN hr hk (by omega)
  rw [← eb] at b1
  have hlt : R / 2 ^ k < 2 ^ U := by
    rw [Nat.div_lt_iff_lt_mul (Nat.two_pow_pos k), ← Nat.pow_add, show U + k = 27 by omega]; exact hR
  have hu62 : 2 ^ U ≤ 2 ^ 27 := Nat.pow_le_pow_right (by decide) (by omega)
  rw [show (2 : Nat) ^ 27 = 134217728 by decide] at hu62
  refine ⟨U, k, hU, by omega, hk, L_orD a1 b1 hlt ?_ ev⟩
  generalize R / 2 ^ k = w at *
  omega
theorem mk_k {one m : Int64} {d : Int32} {k : Nat} (hk : d.toInt = k) (h27 : k ≤ 27) (e1 : one = 1 <<< (d.toInt64 &&& 63)) (e2 : m = one - 1) {r v : Int64} {R : Nat} (hr : r.toInt = R) (ev : v = r &&& m) : v = 0 ↔ R % 2 ^ k = 0 := by
  have p27 : 2 ^ k ≤ 2 ^ 27 := Nat.pow_le_pow_right (by decide) h27
  have pp := Nat.two_pow_pos k
  rw [show (2 : Nat) ^ 27 = 134217728 by decide] at p27
  have h1 := L_shlN (x := 1) (P := 1) (by decide) hk (by omega) (by omega)
  rw [← e1, Nat.one_mul] at h1
  have h2 : m.toInt = ((2 ^ k - 1 : Nat) : Int) := by rw [e2, L_sub, L1] <;> (try rw [L1]) <;> omega
  have t1 := L_tn (x := m) (by rw [h2]; omega)
  have t2 := L_tn (x := r) (by rw [hr]; omega)
  rw [h2] at t1
  rw [hr] at t2
  have h3 : v.toBitVec.toNat = R % 2 ^ k := by
    rw [ev, Int64.toBitVec_and, BitVec.toNat_and, Int.ofNat_inj.mp t1, Int.ofNat_inj.mp t2, Nat.and_two_pow_sub_one_eq_mod]
  have : un v = R % 2 ^ k := h3
  rw [← this]; exact un_0
theorem pw2 {a b c : Nat} (h : a + b = c) : (2 : Nat) ^ a * 2 ^ b = 2 ^ c := by rw [← Nat.pow_add, h]
theorem prd_e {H R L U k c : Nat} (hc : 2 ^ U * 2 ^ k = c) : H * (c * c) + R * c + L = (H * 2 ^ U + R / 2 ^ k) * (c * 2 ^ k) + (R % 2 ^ k * c + L) := by
  have w := Nat.div_add_mod R (2 ^ k)
  have e1 : R * c = 2 ^ k * (R / 2 ^ k) * c + R % 2 ^ k * c := by rw [← Nat.add_mul, w]
  have e2 : H * 2 ^ U * (c * 2 ^ k) = H * (c * c) := by
    have : 2 ^ U * (c * 2 ^ k) = c * c := by
      conv => rhs; rw [← hc]
      rw [← hc]
      simp only [Nat.mul_assoc, Nat.mul_comm, Nat.mul_left_comm]
    rw [Nat.mul_assoc, this]
  have e3 : R / 2 ^ k * (c * 2 ^ k) = 2 ^ k * (R / 2 ^ k) * c := by simp only [Nat.mul_assoc, Nat.mul_comm, Nat.mul_left_comm]
  rw [Nat.add_mul, e2, e3, e1]
  omega
/-- the first way out: up below 27 -/
theorem prd_1 {h b0 v2 : Int64} {u sc1 : Int32} {H R L P U k : Nat} (hN : UPN h u) (hh : h.toInt = H) (hU : u.toInt = U) (hk : U + k = 27) (hR : R < 134217728) (hL : L < 134217728) (hP : P = H * 18014398509481984 + R * 134217728 + L) (hv : b0.toInt = ((H * 2 ^ U + R / 2 ^ k : Nat) : Int)) (cu : ¬ 27 ≤ u) (es : sc1 = 54 - u) (hb : ((R % 2 ^ k ≠ 0 ∨ L ≠ 0) ∧ v2 = b0 ||| 1) ∨ (R % 2 ^ k = 0 ∧ L = 0 ∧ v2 = b0)) : ∃ s r d : Nat, sc1.toInt = d ∧ P = s * 2 ^ d + r ∧ r < 2 ^ d ∧ ((r = 0 ∧ v2.toInt.toNat = s) ∨ (r ≠ 0 ∧ 2 ^ 54 ≤ s ∧ v2.toInt.toNat = s + (1 - s % 2))) := by
  rw [Int32.le_iff_toInt_le, I27] at cu
  have h54 : (54 : Int32).toInt = 54 := by decide
  have hs : sc1.toInt = 54 - u.toInt := by rw [es, I_sub, h54] <;> (try rw [h54]) <;> omega
  have hge := hN (by omega)
  rw [show u.toInt.toNat = U by omega, show h.toInt.toNat = H by omega] at hge
  have w := Nat.div_add_mod R (2 ^ k)
  have wl := Nat.mod_lt R (Nat.two_pow_pos k)
  have hsm : 2 ^ 54 ≤ H * 2 ^ U + R / 2 ^ k := by
    rw [show (2 : Nat) ^ 54 = 18014398509481984 by decide]
    generalize R / 2 ^ k = q
    omega
  refine ⟨H * 2 ^ U + R / 2 ^ k, R % 2 ^ k * 134217728 + L, 27 + k, by omega, ?_, ?_, ?_⟩
  · have e9 := prd_e (H := H) (R := R) (L := L) (U := U) (k := k) (c := 134217728) (by rw [pw2 hk])
    rw [show 134217728 * 134217728 = 18014398509481984 from rfl] at e9
    rw [hP, e9, Nat.pow_add]
  · rw [Nat.pow_add, show (2 : Nat) ^ 27 = 134217728 by decide, Nat.mul_comm]
    have : (R % 2 ^ k + 1) * 134217728 ≤ 2 ^ k * 134217728 := Nat.mul_le_mul_right _ wl
    omega
  · rcases hb with ⟨q, e⟩ | ⟨q1, q2, e⟩
    · right
      refine ⟨?_, hsm, ?_⟩
      · rcases q with q | q <;> omega
      · generalize H * 2 ^ U + R / 2 ^ k = z at *
        have := L_or1 (x := b0) (by rw [hv]; omega)
        rw [← e] at this
        omega
    · left
      refine ⟨by rw [q1, q2], ?_⟩
      rw [e, hv, Int.toNat_natCast]
theorem prd_2 {b1 b2 b3 : Int64} {u sc1 sc2 : Int32} {H R L P U k : Nat} (hb1 : b1.toInt = ((H * 134217728 + R : Nat) : Int)) (hs1 : sc1.toInt = 27) (hN : UPN b1 u) (hU : u.toInt = U) (hk : U + k = 27) (hL : L < 134217728) (hP : P = H * 18014398509481984 + R * 134217728 + L) (hv : b2.toInt = (((H * 134217728 + R) * 2 ^ U + L / 2 ^ k : Nat) : Int)) (es : sc2 = sc1 - u) (hb : (L % 2 ^ k ≠ 0 ∧ b3 = b2 ||| 1) ∨ (L % 2 ^ k = 0 ∧ b3 = b2)) : ∃ s r d : Nat, sc2.toInt = d ∧ P = s * 2 ^ d + r ∧ r < 2 ^ d ∧ ((r = 0 ∧ b3.toInt.toNat = s) ∨ (r ≠ 0 ∧ 2 ^ 54 ≤ s ∧ b3.toInt.toNat = s + (1 - s % 2))) := by
  have hs : sc2.toInt = sc1.toInt - u.toInt := by rw [es, I_sub] <;> omega
  have w := Nat.div_add_mod L (2 ^ k)
  have wl := Nat.mod_lt L (Nat.two_pow_pos k)
  refine ⟨(H * 134217728 + R) * 2 ^ U + L / 2 ^ k, L % 2 ^ k, k, by omega, ?_, wl, ?_⟩
  · rw [hP, Nat.add_mul, Nat.mul_assoc, pw2 hk, show (2 : Nat) ^ 27 = 134217728 by decide, Nat.add_mul, Nat.mul_assoc H, Nat.mul_comm (L / 2 ^ k)]
    omega
  · rcases hb with ⟨q, e⟩ | ⟨q, e⟩
    · right
      have hk1 : 1 ≤ k := by
        rcases Nat.eq_zero_or_pos k with z | z
        · subst z; rw [Nat.pow_zero, Nat.mod_one] at q; exact absurd rfl q
        · exact z
      have hge := hN (by omega)
      rw [show u.toInt.toNat = U by omega, hb1, Int.toNat_natCast] at hge
      refine ⟨q, ?_, ?_⟩
      · rw [show (2 : Nat) ^ 54 = 18014398509481984 by decide]
        generalize L / 2 ^ k = z at *
        omega
      · generalize (H * 134217728 + R) * 2 ^ U + L / 2 ^ k = z at *
        have := L_or1 (x := b2) (by rw [hv]; omega)
        rw [← e] at this
        omega
    · left
      refine ⟨q, ?_⟩
      rw [e, hv, Int.toNat_natCast]
/-- what is rounded, cut and told by its last bit -/
theorem RT_prd {P s r d E : Nat} {b : Nat} (hP : P = s * 2 ^ d + r) (hr : r < 2 ^ d) (h : (r = 0 ∧ b = s) ∨ (r ≠ 0 ∧ 2 ^ 54 ≤ s ∧ b = s + (1 - s % 2))) : RT (b * 2 ^ (d + E)) false = RT (P * 2 ^ E) false := by
  rw [hP, Nat.add_mul, Nat.mul_assoc, ← Nat.pow_add]
  rcases h with ⟨q, e⟩ | ⟨q, hs, e⟩
  · rw [q, Nat.zero_mul, Nat.add_zero, e]
  · rw [e, RT_or hs]
    refine (RT_st (Nat.le_trans (by decide) hs) ?_ ⟨fun _ => Or.inl ?_, fun _ => rfl⟩).symm
    · rw [Nat.pow_add]; exact Nat.mul_lt_mul_of_pos_right hr (Nat.two_pow_pos E)
    · intro z
      rcases Nat.mul_eq_zero.mp z with y | y
      · exact q y
      · have := Nat.two_pow_pos E; omega
-- signs
def SGM (k : Int32) (n : Int64) (r : Int32) : Prop := (k = 3 ∧ r = 1) ∨ (¬ k = 3 ∧ k = 4 ∧ r = -1) ∨ (¬ k = 3 ∧ ¬ k = 4 ∧ ((n.toInt < 0 ∧ r = -1) ∨ (n.toInt = 0 ∧ r = 0) ∨ (0 < n.toInt ∧ r = 1)))
theorem sgm_n {n : Int64} (c : ¬ 0 ≤ n) : n.toInt < 0 := by rw [Int64.le_iff_toInt_le, L0] at c; omega
theorem sgm_p {n : Int64} (c : ¬ n ≤ 0) : 0 < n.toInt := by rw [Int64.le_iff_toInt_le, L0] at c; omega
theorem sgm_z {n : Int64} (c : 0 ≤ n) (d : n ≤ 0) : n.toInt = 0 := by rw [Int64.le_iff_toInt_le, L0] at c d; omega
theorem SGM_s {k e r : Int32} {n : Int64} {a : AV} (h : MA k n e a) (g : SGM k n r) : SG (sg a) r := by
  rcases MA_k h with ⟨rfl, y, rfl, rfl, -⟩ | ⟨rfl, A, rfl, -, hA⟩ | ⟨rfl, rfl, -⟩ | ⟨rfl, rfl, -⟩ | ⟨rfl, rfl, rfl, -⟩
  · rcases g with ⟨q, -⟩ | ⟨-, q, -⟩ | ⟨-, -, ⟨q, z⟩ | ⟨q, z⟩ | ⟨q, z⟩⟩
    · exact absurd q (by decide)
    · exact absurd q (by decide)
    · left; exact ⟨z, by show n.toInt.sign < 0; rw [Int.sign_eq_neg_one_of_neg q]; decide⟩
    · right; left; exact ⟨z, by show n.toInt.sign = 0; rw [q]; rfl⟩
    · right; right; exact ⟨z, by show 0 < n.toInt.sign; rw [Int.sign_eq_one_of_pos q]; decide⟩
  · have e9 : A.sign = n.toInt.sign := by rw [← hA, sc_sign]
    rcases g with ⟨q, -⟩ | ⟨-, q, -⟩ | ⟨-, -, ⟨q, z⟩ | ⟨q, z⟩ | ⟨q, z⟩⟩
    · exact absurd q (by decide)
    · exact absurd q (by decide)
    · left; exact ⟨z, by show A.sign < 0; rw [e9, Int.sign_eq_neg_one_of_neg q]; decide⟩
    · right; left; exact ⟨z, by show A.sign = 0; rw [e9, q]; rfl⟩
    · right; right; exact ⟨z, by show 0 < A.sign; rw [e9, Int.sign_eq_one_of_pos q]; decide⟩
  · rcases g with ⟨-, q⟩ | ⟨q, -⟩ | ⟨q, -⟩
    · right; right; exact ⟨q, by decide⟩
    · exact absurd rfl q
    · exact absurd rfl q
  · rcases g with ⟨q, -⟩ | ⟨-, -, q⟩ | ⟨-, q, -⟩
    · exact absurd q (by decide)
    · left; exact ⟨q, by decide⟩
    · exact absurd rfl q
  · rcases g with ⟨q, -⟩ | ⟨-, q, -⟩ | ⟨-, -, ⟨q, z⟩ | ⟨q, z⟩ | ⟨q, z⟩⟩
    · exact absurd q (by decide)
    · exact absurd q (by decide)
    · exact absurd q (by decide)
    · right; left; exact ⟨z, rfl⟩
    · exact absurd q (by decide)
theorem upx27 {u : Int32} {U k : Nat} (hU : u.toInt = U) (hk : U + k = 27) (c : 27 ≤ u) : U = 27 := by
  rw [Int32.le_iff_toInt_le, I27] at c
  omega
theorem upx_b {b : Int64} {H R U k : Nat} (h : U = 27) (hk : U + k = 27) (hv : b.toInt = ((H * 2 ^ U + R / 2 ^ k : Nat) : Int)) : b.toInt = ((H * 134217728 + R : Nat) : Int) := by
  subst h
  rw [show k = 0 by omega, Nat.pow_zero, Nat.div_one, show (2 : Nat) ^ 27 = 134217728 by decide] at hv
  exact hv
theorem upx_d {u d : Int32} {U k : Nat} (hk : U + k = 27) (hU : u.toInt = U) (e : d = 27 - u) : d.toInt = k := by
  rw [e, I_sub, I27] <;> (try rw [I27]) <;> omega
theorem upx_s {u s : Int32} {U : Nat} (h : U = 27) (hU : u.toInt = U) (e : s = 54 - u) : s.toInt = 27 := by
  have h54 : (54 : Int32).toInt = 54 := by decide
  rw [e, I_sub, h54] <;> (try rw [h54]) <;> omega
theorem lz_n {l : Int64} {L : Nat} (h : l.toInt = L) (c : ¬ l = 0) : L ≠ 0 := fun q => L_ne0 c (by rw [h, q]; rfl)
theorem lz_y {l : Int64} {L : Nat} (h : l.toInt = L) (c : l = 0) : L = 0 := by rw [c, L0] at h; omega
end
