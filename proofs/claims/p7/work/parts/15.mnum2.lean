theorem L_natP {x : Int64} (h : 0 ≤ x.toInt) : x.toInt = (x.toInt.toNat : Int) := by omega
theorem L_shlN {x : Int64} {y : Int32} {k P : Nat} (hx : x.toInt = P) (hy : y.toInt = k) (hk : k < 64) (hb : P * 2 ^ k < 9223372036854775808) : (x <<< (y.toInt64 &&& 63)).toInt = ((P * 2 ^ k : Nat) : Int) := by
  have e : x.toInt * 2 ^ k = ((P * 2 ^ k : Nat) : Int) := by rw [hx]; push_cast; rfl
  rw [L_shl x hy hk (by rw [e]; omega) (by rw [e]; omega), e]
theorem L_shrN {x : Int64} {y : Int32} {k P : Nat} (hx : x.toInt = P) (hy : y.toInt = k) (hk : k < 64) : (x >>> (y.toInt64 &&& 63)).toInt = ((P / 2 ^ k : Nat) : Int) := by
  rw [L_shr x hy hk, hx]; push_cast; rfl
theorem p_lt {a b : Nat} (h : 2 ^ a < 2 ^ b) : a < b := (Nat.pow_lt_pow_iff_right (by decide)).mp h
def RMi (p : Int64) (r : Int32) : Prop := ∃ u : Nat, r.toInt = u ∧ u ≤ 61 ∧ p.toInt.toNat * 2 ^ u < 4611686018427387904
def RMX (p : Int64) (r : Int32) : Prop := ∃ u : Nat, r.toInt = u ∧ u ≤ 61 ∧ p.toInt.toNat * 2 ^ u < 4611686018427387904 ∧ 2305843009213693952 ≤ p.toInt.toNat * 2 ^ u
theorem rm_0 {p : Int64} (h2 : p.toInt < 4611686018427387904) : RMi p 0 := ⟨0, by decide, by decide, by omega⟩
theorem rm_v {p a b : Int64} {r : Int32} {u : Nat} (h1 : 0 < p.toInt) (hr : r.toInt = u) (hu : u ≤ 61) (hb : p.toInt.toNat * 2 ^ u < 4611686018427387904) (e1 : a = p <<< (r.toInt64 &&& 63)) (e2 : b = a >>> ((61 : Int32).toInt64 &&& 63)) : a.toInt = ((p.toInt.toNat * 2 ^ u : Nat) : Int) ∧ b.toInt = ((p.toInt.toNat * 2 ^ u / 2305843009213693952 : Nat) : Int) := by
  have ha : a.toInt = ((p.toInt.toNat * 2 ^ u : Nat) : Int) := by rw [e1]; exact L_shlN (L_natP (by omega)) hr (by omega) (by omega)
  refine ⟨ha, ?_⟩
  rw [e2, L_shrN ha (y := 61) (k := 61) (by decide) (by decide)]
theorem rm_s {p a b : Int64} {r r2 : Int32} (h1 : 0 < p.toInt) (h : RMi p r) (e1 : a = p <<< (r.toInt64 &&& 63)) (e2 : b = a >>> ((61 : Int32).toInt64 &&& 63)) (c : b = 0) (e3 : r2 = r + Int32.ofInt 1) : RMi p r2 ∧ (62 - r2.toInt).toNat < (62 - r.toInt).toNat := by
  obtain ⟨u, hr, hu, hb⟩ := h
  obtain ⟨-, hv⟩ := rm_v h1 hr hu hb e1 e2
  rw [c, L0] at hv
  have h3 : p.toInt.toNat * 2 ^ u < 2305843009213693952 := by omega
  have h4 : 2 ^ u ≤ p.toInt.toNat * 2 ^ u := Nat.le_mul_of_pos_left _ (by omega)
  have h5 : u < 61 := p_lt (b := 61) (Nat.lt_of_le_of_lt h4 h3)
  have h6 : r2.toInt = r.toInt + 1 := by rw [e3, I_add, Io1] <;> rw [Io1] <;> omega
  refine ⟨⟨u + 1, by omega, by omega, ?_⟩, by omega⟩
  rw [Nat.pow_succ, ← Nat.mul_assoc]
  omega
theorem rm_x {p a b : Int64} {r : Int32} (h1 : 0 < p.toInt) (h : RMi p r) (e1 : a = p <<< (r.toInt64 &&& 63)) (e2 : b = a >>> ((61 : Int32).toInt64 &&& 63)) (c : ¬ b = 0) : RMX p r := by
  obtain ⟨u, hr, hu, hb⟩ := h
  obtain ⟨-, hv⟩ := rm_v h1 hr hu hb e1 e2
  have h2 := L_ne0 c
  refine ⟨u, hr, hu, hb, ?_⟩
  rcases Nat.lt_or_ge (p.toInt.toNat * 2 ^ u) 2305843009213693952 with q | q
  · rw [Nat.div_eq_of_lt q] at hv; exact absurd hv h2
  · exact q
def DN (p : Int64) (y : Int32) (r : Int64) : Prop := 0 ≤ r.toInt ∧ (y.toInt = 0 → r = p) ∧ (1 ≤ y.toInt → r.toInt < 2305843009213693952)
theorem dn_0 {p : Int64} {y : Int32} (h1 : 0 ≤ p.toInt) (c : y = 0) : DN p y p := ⟨h1, fun _ => rfl, fun h => by rw [c, I0] at h; omega⟩
theorem dn_1 {p : Int64} {y : Int32} (c : ¬ y ≤ 62) : DN p y 1 := by
  rw [Int32.le_iff_toInt_le, show (62 : Int32).toInt = 62 by decide] at c
  exact ⟨by decide, fun h => by omega, fun _ => by decide⟩
theorem dn_v {p q : Int64} {y : Int32} (h1 : 0 ≤ p.toInt) (h2 : p.toInt < 4611686018427387904) (h3 : 0 ≤ y.toInt) (c0 : ¬ y = 0) (c : y ≤ 62) (e : q = p >>> (y.toInt64 &&& 63)) : 0 ≤ q.toInt ∧ q.toInt < 2305843009213693952 ∧ 1 ≤ y.toInt := by
  rw [Int32.le_iff_toInt_le, show (62 : Int32).toInt = 62 by decide] at c
  have h4 := lv_neT c0 (a := 0) (by decide)
  obtain ⟨k, hk⟩ : ∃ k : Nat, y.toInt = k := ⟨y.toInt.toNat, by omega⟩
  have h5 := L_shrN (L_natP h1) hk (by omega)
  rw [← e] at h5
  have h6 : p.toInt.toNat / 2 ^ k ≤ p.toInt.toNat / 2 ^ 1 := Nat.div_le_div_left (Nat.pow_le_pow_right (by decide) (by omega)) (by decide)
  simp only [Nat.pow_one] at h6
  generalize p.toInt.toNat / 2 ^ k = w at h5 h6
  omega
theorem dn_q {p q : Int64} {y : Int32} (h1 : 0 ≤ p.toInt) (h2 : p.toInt < 4611686018427387904) (h3 : 0 ≤ y.toInt) (c0 : ¬ y = 0) (c : y ≤ 62) (e : q = p >>> (y.toInt64 &&& 63)) : DN p y q := by
  have h := dn_v h1 h2 h3 c0 c e
  exact ⟨h.1, fun h9 => by omega, fun _ => h.2.1⟩
theorem dn_r {p q r : Int64} {y : Int32} (h1 : 0 ≤ p.toInt) (h2 : p.toInt < 4611686018427387904) (h3 : 0 ≤ y.toInt) (c0 : ¬ y = 0) (c : y ≤ 62) (e : q = p >>> (y.toInt64 &&& 63)) (er : r = q ||| 1) : DN p y r := by
  have h := dn_v h1 h2 h3 c0 c e
  have h4 := L_or1 h.1
  rw [← er] at h4
  exact ⟨by omega, fun h9 => by omega, fun _ => by omega⟩
-- nearest
def NB (p : Int32) (m : Int64) (x : Int32) : Prop := 1 ≤ m.toInt ∧ m.toInt < 4611686018427387904 ∧ ∃ j : Nat, 2 ^ j ≤ m.toInt.toNat ∧ x.toInt = p.toInt - j
theorem nb_0 {s : Int64} {p : Int32} (h1 : 0 ≤ s.toInt) (h2 : s.toInt < 4611686018427387904) (c : ¬ s = 0) : NB p s p := by
  have := L_ne0 c
  exact ⟨by omega, h2, 0, by rw [Nat.pow_zero]; omega, by omega⟩
theorem nb_v {m v : Int64} {p x : Int32} (h : NB p m x) (e1 : v = m >>> ((61 : Int32).toInt64 &&& 63)) : v.toInt = ((m.toInt.toNat / 2305843009213693952 : Nat) : Int) := by
  rw [e1, L_shrN (L_natP (by have := h.1; omega)) (y := 61) (k := 61) (by decide) (by decide)]
theorem nb_s {m v m2 : Int64} {p x x2 : Int32} (hp : -5000 ≤ p.toInt ∧ p.toInt ≤ 5000) (h : NB p m x) (e1 : v = m >>> ((61 : Int32).toInt64 &&& 63)) (c : v = 0) (e2 : m2 = m <<< ((1 : Int32).toInt64 &&& 63)) (e3 : x2 = x + Int32.ofInt (-1)) : NB p m2 x2 ∧ (4611686018427387904 - m2.toInt).toNat < (4611686018427387904 - m.toInt).toNat := by
  have hv := nb_v h e1
  obtain ⟨h1, h2, j, hj, hx⟩ := h
  rw [c, L0] at hv
  have h3 : m.toInt.toNat < 2305843009213693952 := by omega
  have h4 : j < 61 := p_lt (b := 61) (Nat.lt_of_le_of_lt hj h3)
  have h5 : m2.toInt = ((m.toInt.toNat * 2 ^ 1 : Nat) : Int) := by rw [e2]; exact L_shlN (L_natP (by omega)) (y := 1) (by decide) (by decide) (by omega)
  have h6 : x2.toInt = x.toInt + -1 := by rw [e3, I_add, Iom] <;> rw [Iom] <;> omega
  refine ⟨⟨by omega, by omega, j + 1, ?_, by omega⟩, by omega⟩
  rw [Nat.pow_succ]; omega
theorem nb_x {m v : Int64} {p x : Int32} (h : NB p m x) (e1 : v = m >>> ((61 : Int32).toInt64 &&& 63)) (c : ¬ v = 0) : 2305843009213693952 ≤ m.toInt ∧ m.toInt < 4611686018427387904 ∧ p.toInt - 62 ≤ x.toInt ∧ x.toInt ≤ p.toInt := by
  have hv := nb_v h e1
  have h2' := L_ne0 c
  obtain ⟨h1, h2, j, hj, hx⟩ := h
  have h4 : j < 62 := p_lt (b := 62) (Nat.lt_of_le_of_lt hj (by omega))
  refine ⟨?_, h2, by omega, by omega⟩
  rcases Nat.lt_or_ge m.toInt.toNat 2305843009213693952 with q | q
  · rw [Nat.div_eq_of_lt q] at hv; exact absurd hv h2'
  · omega
def DB (x d : Int32) : Prop := -1074 ≤ x.toInt + d.toInt ∧ 9 ≤ d.toInt ∧ d.toInt ≤ 10000
theorem I9 : (9 : Int32).toInt = 9 := by decide
theorem Im : (-1074 : Int32).toInt = -1074 := by decide
theorem db_1 {x w : Int32} (hx : -5062 ≤ x.toInt ∧ x.toInt ≤ 5000) (e : w = x + 9) (c : -1074 ≤ w) : DB x 9 := by
  rw [Int32.le_iff_toInt_le, Im] at c
  have h : w.toInt = x.toInt + 9 := by rw [e, I_add, I9] <;> rw [I9] <;> omega
  exact ⟨by rw [I9]; omega, by decide, by decide⟩
theorem db_2 {x w d : Int32} (hx : -5062 ≤ x.toInt ∧ x.toInt ≤ 5000) (e : w = x + 9) (c : ¬ -1074 ≤ w) (ed : d = -1074 - x) : DB x d := by
  rw [Int32.le_iff_toInt_le, Im] at c
  have h : w.toInt = x.toInt + 9 := by rw [e, I_add, I9] <;> rw [I9] <;> omega
  have h2 : d.toInt = -1074 - x.toInt := by rw [ed, I_sub, Im] <;> rw [Im] <;> omega
  exact ⟨by omega, by omega, by omega⟩
def LB (q : Int64) (l : Int32) : Prop := 0 ≤ q.toInt ∧ q.toInt ≤ 9007199254740992 ∧ 0 ≤ l.toInt ∧ l.toInt ≤ 54
theorem lb_q {m q : Int64} {x d : Int32} (hm : 2305843009213693952 ≤ m.toInt ∧ m.toInt < 4611686018427387904) (hd : DB x d) (c : ¬ 62 < d) (e : q = m >>> (d.toInt64 &&& 63)) : 0 ≤ q.toInt ∧ q.toInt < 9007199254740992 := by
  rw [Int32.lt_iff_toInt_lt, show (62 : Int32).toInt = 62 by decide] at c
  obtain ⟨-, h1, h2⟩ := hd
  obtain ⟨k, hk⟩ : ∃ k : Nat, d.toInt = k := ⟨d.toInt.toNat, by omega⟩
  have h5 := L_shrN (L_natP (show 0 ≤ m.toInt by omega)) hk (by omega)
  rw [← e] at h5
  have h6 : m.toInt.toNat / 2 ^ k ≤ m.toInt.toNat / 2 ^ 9 := Nat.div_le_div_left (Nat.pow_le_pow_right (by decide) (by omega)) (by decide)
  rw [show (2 : Nat) ^ 9 = 512 by decide] at h6
  generalize m.toInt.toNat / 2 ^ k = w at h5 h6
  omega
theorem lb_0 : LB 0 0 := ⟨by decide, by decide, by decide, by decide⟩
theorem lb_a {q : Int64} (h : 0 ≤ q.toInt ∧ q.toInt < 9007199254740992) : LB q 0 := ⟨h.1, by omega, by decide, by decide⟩
theorem lb_b {q v : Int64} (h : 0 ≤ q.toInt ∧ q.toInt < 9007199254740992) (e : v = q + 1) : LB v 0 := by
  have h2 : v.toInt = q.toInt + 1 := by rw [e, L_add, L1] <;> rw [L1] <;> omega
  exact ⟨by omega, by omega, by decide, by decide⟩
theorem lb_v {q v : Int64} {l : Int32} (h : LB q l) (e : v = q >>> (l.toInt64 &&& 63)) : ∃ u : Nat, l.toInt = u ∧ u ≤ 54 ∧ v.toInt = ((q.toInt.toNat / 2 ^ u : Nat) : Int) := by
  obtain ⟨h1, h2, h3, h4⟩ := h
  refine ⟨l.toInt.toNat, by omega, by omega, ?_⟩
  rw [e]; exact L_shrN (L_natP h1) (by omega) (by omega)
theorem lb_s {q v : Int64} {l l2 : Int32} (h : LB q l) (e : v = q >>> (l.toInt64 &&& 63)) (c : ¬ v = 0) (e2 : l2 = l + Int32.ofInt 1) : LB q l2 ∧ (60 - l2.toInt).toNat < (60 - l.toInt).toNat := by
  obtain ⟨u, hu, hu2, hv⟩ := lb_v h e
  obtain ⟨h1, h2, h3, h4⟩ := h
  have h5 := L_ne0 c
  have h6 : 2 ^ u ≤ q.toInt.toNat := by
    rcases Nat.lt_or_ge q.toInt.toNat (2 ^ u) with z | z
    · rw [Nat.div_eq_of_lt z] at hv; exact absurd hv h5
    · exact z
  have h7 : u < 54 := p_lt (b := 54) (Nat.lt_of_le_of_lt h6 (by rw [show (2 : Nat) ^ 54 = 18014398509481984 by decide]; omega))
  have h8 : l2.toInt = l.toInt + 1 := by rw [e2, I_add, Io1] <;> rw [Io1] <;> omega
  exact ⟨⟨h1, h2, by omega, by omega⟩, by omega⟩
theorem nr_pp {q v : Int64} {l x d a b s : Int32} (h : LB q l) (e : v = q >>> (l.toInt64 &&& 63)) (c : v = 0) (hd : DB x d) (hx : -5062 ≤ x.toInt ∧ x.toInt ≤ 5000) (ea : a = l + x) (eb : b = a + d) (cb : b ≤ 1024) (es : s = x + d) : PP q s := by
  obtain ⟨u, hu, hu2, hv⟩ := lb_v h e
  obtain ⟨h1, h2, h3, h4⟩ := h
  obtain ⟨d1, d2, d3⟩ := hd
  rw [Int32.le_iff_toInt_le, show (1024 : Int32).toInt = 1024 by decide] at cb
  rw [c, L0] at hv
  have h5 : q.toInt.toNat < 2 ^ u := by
    have : q.toInt.toNat / 2 ^ u = 0 := by
      generalize q.toInt.toNat / 2 ^ u = w at hv
      omega
    exact (Nat.div_eq_zero_iff_lt (Nat.two_pow_pos u)).mp this
  have s1 : s.toInt = x.toInt + d.toInt := by rw [es, I_add] <;> omega
  have s2 : a.toInt = l.toInt + x.toInt := by rw [ea, I_add] <;> omega
  have s3 : b.toInt = a.toInt + d.toInt := by rw [eb, I_add] <;> omega
  right
  refine ⟨by omega, ?_⟩
  by_cases z : u ≤ 53
  · exact ⟨u, z, by omega, by omega⟩
  · exact ⟨53, by omega, by rw [show (2 : Nat) ^ 53 = 9007199254740992 by decide]; omega, by omega⟩
theorem nx_x {p x : Int32} (hp : -5000 ≤ p.toInt ∧ p.toInt ≤ 5000) (h : p.toInt - 62 ≤ x.toInt ∧ x.toInt ≤ p.toInt) : -5062 ≤ x.toInt ∧ x.toInt ≤ 5000 := by omega
theorem nr_ok {k : Int32} {n : Int64} {e : Int32} (h : k = 2 ∧ GR n e) : RK k n e ∧ GR n e := ⟨RK_of h, h.2⟩
theorem nr_sp {k z : Int32} {n : Int64} {e : Int32} (hz : z = 3 ∨ z = 4 ∨ z = 5) (h : k = z ∧ n = 0 ∧ e = 0) : RK k n e ∧ GR n e := ⟨sp_RK hz h, Or.inl h.2⟩
