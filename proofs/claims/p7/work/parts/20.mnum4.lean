theorem sz_b {n r : Int64} {e : Int32} (g : GR n e) (hs : -9223372036854775808 < n.toInt → r.toInt = n.toInt.natAbs) : 0 ≤ r.toInt ∧ r.toInt ≤ 9007199254740992 ∧ r.toInt = n.toInt.natAbs := by
  have h1 := GR_n g
  have h2 := hs (by omega)
  omega
theorem sz_0 {n r : Int64} {e : Int32} (g : GR n e) (hs : -9223372036854775808 < n.toInt → r.toInt = n.toInt.natAbs) (c : ¬ n = 0) : 0 < r.toInt ∧ r.toInt < 4611686018427387904 := by
  have h1 := sz_b g hs
  have h2 := L_ne0 c
  omega
theorem RMX_v {p a q : Int64} {r : Int32} (hp : 0 < p.toInt) (he : q.toInt = p.toInt) (h : RMX p r) (e : a = q <<< (r.toInt64 &&& 63)) : 2305843009213693952 ≤ a.toInt ∧ a.toInt < 4611686018427387904 := by
  obtain ⟨u, h1, h2, h3, h4⟩ := h
  have : a.toInt = ((p.toInt.toNat * 2 ^ u : Nat) : Int) := by rw [e]; exact L_shlN (by omega) h1 (by omega) (by omega)
  generalize p.toInt.toNat * 2 ^ u = w at this h3 h4
  omega
theorem RMX_r {p : Int64} {r : Int32} (h : RMX p r) : 0 ≤ r.toInt ∧ r.toInt ≤ 61 := by
  obtain ⟨u, h1, h2, -⟩ := h
  omega
-- quotient
def QB (y : Int64) (x b : Int64) (i : Int32) : Prop := 0 ≤ x.toInt ∧ x.toInt < 2 * y.toInt ∧ 0 ≤ i.toInt ∧ i.toInt ≤ 62 ∧ 0 ≤ b.toInt ∧ b.toInt.toNat < 2 ^ i.toInt.toNat
theorem qb_0 {x y : Int64} (hx : 2305843009213693952 ≤ x.toInt ∧ x.toInt < 4611686018427387904) (hy : 2305843009213693952 ≤ y.toInt ∧ y.toInt < 4611686018427387904) : QB y x 0 0 := ⟨by omega, by omega, by decide, by decide, by decide, by decide⟩
theorem qb_1 {y x b b1 : Int64} {i : Int32} (h : QB y x b i) (c : ¬ 62 ≤ i) (e1 : b1 = b <<< ((1 : Int32).toInt64 &&& 63)) : b1.toInt = 2 * b.toInt ∧ b.toInt < 2305843009213693952 ∧ i.toInt < 62 := by
  obtain ⟨h1, h2, h3, h4, h5, h6⟩ := h
  rw [Int32.le_iff_toInt_le, show (62 : Int32).toInt = 62 by decide] at c
  have h7 : 2 ^ i.toInt.toNat ≤ 2 ^ 61 := Nat.pow_le_pow_right (by decide) (by omega)
  rw [show (2 : Nat) ^ 61 = 2305843009213693952 by decide] at h7
  have h8 : b.toInt < 2305843009213693952 := by omega
  have h9 : b1.toInt = ((b.toInt.toNat * 2 ^ 1 : Nat) : Int) := by rw [e1]; exact L_shlN (L_natP h5) (y := 1) (by decide) (by decide) (by omega)
  omega
theorem qb_x {x x2 : Int64} (h1 : 0 ≤ x.toInt) (h2 : x.toInt < 4611686018427387904) (e : x2 = x <<< ((1 : Int32).toInt64 &&& 63)) : x2.toInt = 2 * x.toInt := by
  have h9 : x2.toInt = ((x.toInt.toNat * 2 ^ 1 : Nat) : Int) := by rw [e]; exact L_shlN (L_natP h1) (y := 1) (by decide) (by decide) (by omega)
  omega
theorem qb_p {b : Nat} {i i2 : Int32} (h0 : 0 ≤ i.toInt) (h : b < 2 ^ i.toInt.toNat) (hi : i2.toInt = i.toInt + 1) : 2 * b + 1 < 2 ^ i2.toInt.toNat := by
  rw [show i2.toInt.toNat = i.toInt.toNat + 1 by omega, Nat.pow_succ]; omega
theorem qb_i {i i2 : Int32} (h : i.toInt < 62) (h0 : 0 ≤ i.toInt) (e : i2 = i + Int32.ofInt 1) : i2.toInt = i.toInt + 1 := by rw [e, I_add, Io1] <;> rw [Io1] <;> omega
theorem qb_s1 {y x b b1 b2 x1 x2 : Int64} {i i2 : Int32} (hy : 2305843009213693952 ≤ y.toInt ∧ y.toInt < 4611686018427387904) (h : QB y x b i) (c : ¬ 62 ≤ i) (e1 : b1 = b <<< ((1 : Int32).toInt64 &&& 63)) (cx : ¬ x < y) (eb : b2 = b1 ||| 1) (ex : x1 = x - y) (ex2 : x2 = x1 <<< ((1 : Int32).toInt64 &&& 63)) (ei : i2 = i + Int32.ofInt 1) : QB y x2 b2 i2 := by
  obtain ⟨q1, q2, q3⟩ := qb_1 h c e1
  obtain ⟨h1, h2, h3, h4, h5, h6⟩ := h
  rw [Int64.lt_iff_toInt_lt] at cx
  have hi := qb_i q3 h3 ei
  have hx1 : x1.toInt = x.toInt - y.toInt := by rw [ex, L_sub] <;> omega
  have hx2 := qb_x (by omega) (by omega) ex2
  have hb : b2.toInt = b1.toInt + (1 - b1.toInt % 2) := by rw [eb]; exact L_or1 (by omega)
  have hp := qb_p h3 h6 hi
  exact ⟨by omega, by omega, by omega, by omega, by omega, by omega⟩
theorem qb_s2 {y x b b1 x2 : Int64} {i i2 : Int32} (hy : 2305843009213693952 ≤ y.toInt ∧ y.toInt < 4611686018427387904) (h : QB y x b i) (c : ¬ 62 ≤ i) (e1 : b1 = b <<< ((1 : Int32).toInt64 &&& 63)) (cx : x < y) (ex2 : x2 = x <<< ((1 : Int32).toInt64 &&& 63)) (ei : i2 = i + Int32.ofInt 1) : QB y x2 b1 i2 := by
  obtain ⟨q1, q2, q3⟩ := qb_1 h c e1
  obtain ⟨h1, h2, h3, h4, h5, h6⟩ := h
  rw [Int64.lt_iff_toInt_lt] at cx
  have hi := qb_i q3 h3 ei
  have hx2 := qb_x (by omega) (by omega) ex2
  have hp := qb_p h3 h6 hi
  exact ⟨by omega, by omega, by omega, by omega, by omega, by omega⟩
theorem qb_e {y x b : Int64} {i : Int32} (h : QB y x b i) : 0 ≤ b.toInt ∧ b.toInt < 4611686018427387904 := by
  obtain ⟨h1, h2, h3, h4, h5, h6⟩ := h
  have h7 : 2 ^ i.toInt.toNat ≤ 2 ^ 62 := Nat.pow_le_pow_right (by decide) (by omega)
  rw [show (2 : Nat) ^ 62 = 4611686018427387904 by decide] at h7
  omega
theorem qb_c {r1 r2 s t : Int32} (h1 : 0 ≤ r1.toInt ∧ r1.toInt ≤ 61) (h2 : 0 ≤ r2.toInt ∧ r2.toInt ≤ 61) (e : s = r1 - r2) (e2 : t = s - 61) : -200 ≤ t.toInt ∧ t.toInt ≤ 200 := by
  have h5 : (61 : Int32).toInt = 61 := by decide
  have a : s.toInt = r1.toInt - r2.toInt := by rw [e, I_sub] <;> omega
  have b : t.toInt = s.toInt - 61 := by rw [e2, I_sub, h5] <;> rw [h5] <;> omega
  omega
-- rest
theorem L_remv {a b v : Int64} (ha : 0 ≤ a.toInt) (hb : 0 < b.toInt) (e : v = a - a / b * b) : v.toInt = a.toInt % b.toInt := by
  have h0 := L_rg a
  have h1 : (a / b).toInt = a.toInt / b.toInt := by
    rw [Int64.toInt_div_of_ne_right _ _ (fun q => by rw [q] at hb; revert hb; decide), Int.tdiv_eq_ediv_of_nonneg ha]
  have h2 : 0 ≤ a.toInt / b.toInt * b.toInt ∧ a.toInt / b.toInt * b.toInt ≤ a.toInt := ⟨Int.mul_nonneg (Int.ediv_nonneg ha (by omega)) (by omega), Int.ediv_mul_le _ (by omega)⟩
  have h3 : (a / b * b).toInt = a.toInt / b.toInt * b.toInt := by rw [L_mul, h1] <;> rw [h1] <;> omega
  rw [e, L_sub, h3, Int.emod_def, Int.mul_comm] <;> rw [h3] <;> omega
theorem rs_m {a b v : Int64} (ha : 0 ≤ a.toInt) (hb : 0 < b.toInt) (e : v = a - a / b * b) : 0 ≤ v.toInt ∧ v.toInt < b.toInt ∧ v.toInt ≤ a.toInt := by
  have h := L_remv ha hb e
  have h1 := Int.emod_nonneg a.toInt (show b.toInt ≠ 0 by omega)
  have h2 := Int.emod_lt_of_pos a.toInt hb
  have h3 : a.toInt % b.toInt ≤ a.toInt := by
    rw [Int.emod_def]
    have := Int.mul_nonneg (show 0 ≤ b.toInt by omega) (Int.ediv_nonneg ha (show 0 ≤ b.toInt by omega))
    omega
  omega
theorem rs_pp {n r v : Int64} {e : Int32} (g : GR n e) (hs : -9223372036854775808 < n.toInt → r.toInt = n.toInt.natAbs) (h : 0 ≤ v.toInt ∧ v.toInt ≤ r.toInt) : 0 ≤ v.toInt ∧ PP v e := by
  have h1 := sz_b g hs
  refine ⟨h.1, ?_⟩
  rcases g with ⟨rfl, -⟩ | ⟨-, h0, t, h2, h3, h4⟩
  · left
    rw [L0] at h1
    exact Int64.toInt_inj.mp (by rw [L0]; simp at h1; omega)
  · right
    exact ⟨h0, t, h2, by omega, h4⟩
theorem rs_ne {n r : Int64} {e : Int32} (g : GR n e) (hs : -9223372036854775808 < n.toInt → r.toInt = n.toInt.natAbs) (c : ¬ n = 0) : ¬ r = 0 := fun q => by
  have := sz_0 g hs c
  rw [q, L0] at this
  omega
theorem rs_nz {b s1 s2 s3 : Int64} {x y d1 d2 d3 : Int32} (hb : ¬ b = 0) (e50 : d1 = x - y) (e51 : s1 = b <<< (d1.toInt64 &&& 63)) (e60 : d2 = x - y) (e61 : s2 = s1 >>> (d2.toInt64 &&& 63)) (c : s2 = b) (e102 : d3 = x - y) (e103 : s3 = b <<< (d3.toInt64 &&& 63)) : ¬ s3 = 0 := fun q => by
  apply hb
  have e : s1 = s3 := by rw [e51, e103, e50, e102]
  rw [← c, e61, e, q]
  simp
theorem rs_pos {b s3 s4 : Int64} {x y d3 d4 : Int32} (hz : ¬ s3 = 0) (e102 : d3 = x - y) (e103 : s3 = b <<< (d3.toInt64 &&& 63)) (e76 : d4 = x - y) (e77 : s4 = b <<< (d4.toInt64 &&& 63)) (c : 0 ≤ s4) : 0 < s3.toInt := by
  have e : s4 = s3 := by rw [e77, e103, e76, e102]
  rw [e, Int64.le_iff_toInt_le, L0] at c
  have := L_ne0 hz
  omega
def RB (b v : Int64) : Prop := 0 ≤ v.toInt ∧ v.toInt < b.toInt
theorem rs_s {b v m v2 : Int64} (h : RB b v) (hb : b.toInt ≤ 9007199254740992) (em : m = 2 * v) (e : v2 = m - m / b * b) : RB b v2 := by
  obtain ⟨h1, h2⟩ := h
  have h3 : (2 : Int64).toInt = 2 := by decide
  have hm : m.toInt = 2 * v.toInt := by rw [em, L_mul, h3] <;> rw [h3] <;> omega
  have := rs_m (by omega) (by omega) e
  exact ⟨this.1, this.2.1⟩
-- add
theorem ad_x {n p : Int64} {e r v : Int32} (g : GR n e) (h : RMX p r) (ev : v = e - r) : -1135 ≤ v.toInt ∧ v.toInt ≤ 1024 := by
  have h1 := GR_e g
  have h2 := RMX_r h
  have : v.toInt = e.toInt - r.toInt := by rw [ev, I_sub] <;> omega
  omega
theorem ad_a {n r1 r2 a : Int64} {e u : Int32} (g : GR n e) (c : ¬ n = 0) (h1 : -9223372036854775808 < n.toInt → r1.toInt = n.toInt.natAbs) (hu : RMX r1 u) (h2 : -9223372036854775808 < n.toInt → r2.toInt = n.toInt.natAbs) (ea : a = r2 <<< (u.toInt64 &&& 63)) : 2305843009213693952 ≤ a.toInt ∧ a.toInt < 4611686018427387904 :=
  RMX_v (sz_0 g h1 c).1 (by rw [(sz_b g h1).2.2, (sz_b g h2).2.2]) hu ea
theorem ad_by {a b v : Int32} (ha : -1135 ≤ a.toInt ∧ a.toInt ≤ 1024) (hb : -1135 ≤ b.toInt ∧ b.toInt ≤ 1024) (e : v = a - b) : v.toInt = a.toInt - b.toInt := by rw [e, I_sub] <;> omega
def SWP (x y : Int32) (a b : Int64) : Prop := x.toInt < y.toInt ∨ (x.toInt = y.toInt ∧ a.toInt ≤ b.toInt)
theorem sw_1 {x y : Int32} {a b : Int64} (c : x < y) : SWP x y a b := Or.inl (Int32.lt_iff_toInt_lt.mp c)
theorem sw_2 {x y : Int32} {a b : Int64} (c : y = x) (d : ¬ b ≤ a) : SWP x y a b := by
  rw [Int64.le_iff_toInt_le] at d
  exact Or.inr ⟨by rw [c], by omega⟩
theorem sw_3 {x y : Int32} {a b : Int64} (c : ¬ x < y) (d : ¬ y = x) : SWP y x b a := by
  rw [Int32.lt_iff_toInt_lt] at c
  have : ¬ y.toInt = x.toInt := fun q => d (Int32.toInt_inj.mp q)
  exact Or.inl (by omega)
theorem sw_4 {x y : Int32} {a b : Int64} (c : y = x) (d : b ≤ a) : SWP y x b a := by
  rw [Int64.le_iff_toInt_le] at d
  exact Or.inr ⟨by rw [c], d⟩
theorem ad_1 {y v : Int32} (h : 0 ≤ y.toInt ∧ y.toInt ≤ 3000) (e : v = y + 1) : 1 ≤ v.toInt := by
  have : v.toInt = y.toInt + 1 := by rw [e, I_add, I1] <;> rw [I1] <;> omega
  omega
theorem ad_s1 {g s r1 r2 v : Int64} {y : Int32} (q1 : DN g 1 r1) (q2 : DN s y r2) (hy : 1 ≤ y.toInt) (e : v = r1 + r2) : 0 ≤ v.toInt ∧ v.toInt < 4611686018427387904 := by
  have h1 := q1.1
  have h2 := q1.2.2 (by decide)
  have h3 := q2.1
  have h4 := q2.2.2 hy
  have : v.toInt = r1.toInt + r2.toInt := by rw [e, L_add] <;> omega
  omega
theorem ad_s2 {g s r v : Int64} {y a b : Int32} (hg : 2305843009213693952 ≤ g.toInt ∧ g.toInt < 4611686018427387904) (sw : SWP a b s g) (hy : y.toInt = b.toInt - a.toInt) (q : DN s y r) (e : v = g - r) : 0 ≤ v.toInt ∧ v.toInt < 4611686018427387904 := by
  have h1 := q.1
  have h0 : r.toInt ≤ g.toInt := by
    rcases sw with h | ⟨h, h'⟩
    · have := q.2.2 (by omega); omega
    · rw [q.2.1 (by omega)]; exact h'
  have : v.toInt = g.toInt - r.toInt := by rw [e, L_sub] <;> omega
  omega
theorem ad_e {x v : Int32} (h : -1135 ≤ x.toInt ∧ x.toInt ≤ 1024) (e : v = x + 1) : -5000 ≤ v.toInt ∧ v.toInt ≤ 5000 := by
  have : v.toInt = x.toInt + 1 := by rw [e, I_add, I1] <;> rw [I1] <;> omega
  omega
theorem sw_b {x y v : Int32} {a b : Int64} (hx : -1135 ≤ x.toInt ∧ x.toInt ≤ 1024) (hy : -1135 ≤ y.toInt ∧ y.toInt ≤ 1024) (sw : SWP x y a b) (e : v.toInt = y.toInt - x.toInt) : 0 ≤ v.toInt ∧ v.toInt ≤ 3000 := by
  rcases sw with h | ⟨h, -⟩ <;> omega
