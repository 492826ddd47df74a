noncomputable section
theorem L_and1q (x : Int64) : x &&& 1 = 0 ∨ x &&& 1 = 1 := by
  have h3 : (x &&& 1).toBitVec.toNat = x.toBitVec.toNat % 2 := by
    rw [Int64.toBitVec_and, BitVec.toNat_and, show (1 : Int64).toBitVec.toNat = 1 from rfl, Nat.and_one_is_mod]
  rcases (show x.toBitVec.toNat % 2 = 0 ∨ x.toBitVec.toNat % 2 = 1 by omega) with q | q
  · left; apply Int64.toInt_inj.mp; rw [L_of_nat (n := 0) (by omega) (by omega)]; rfl
  · right; apply Int64.toInt_inj.mp; rw [L_of_nat (n := 1) (by omega) (by omega)]; rfl
theorem no_mq {p : Int64} (c : ¬ p = -9223372036854775808) : -9223372036854775808 < p.toInt := by
  have h := L_rg p
  rcases (show -9223372036854775808 < p.toInt ∨ p.toInt ≤ -9223372036854775808 by omega) with q | q
  · exact q
  · exact absurd (Int64.toInt_inj.mp (show p.toInt = (-9223372036854775808 : Int64).toInt by rw [show (-9223372036854775808 : Int64).toInt = -9223372036854775808 by decide]; omega)) c
def NBV (p1 : Int64) (p2 : Int32) (m : Int64) (x : Int32) : Prop := ∃ j : Nat, m.toInt = p1.toInt * 2 ^ j ∧ x.toInt = p2.toInt - j
theorem nbv_0 {p1 : Int64} {p2 : Int32} : NBV p1 p2 p1 p2 := ⟨0, by rw [Int.pow_zero, Int.mul_one], by omega⟩
theorem nbv_s {p1 m v m2 : Int64} {p2 x x2 : Int32} (hp : -5000 ≤ p2.toInt ∧ p2.toInt ≤ 5000) (hn : NB p2 m x) (h : NBV p1 p2 m x) (e1 : v = m >>> ((61 : Int32).toInt64 &&& 63)) (c : v = 0) (e2 : m2 = m <<< ((1 : Int32).toInt64 &&& 63)) (e3 : x2 = x + Int32.ofInt (-1)) : NBV p1 p2 m2 x2 := by
  have hv := nb_v hn e1
  obtain ⟨h1, h2, i, hi, hxi⟩ := hn
  obtain ⟨j, hj, hx⟩ := h
  rw [c, L0] at hv
  have h3 : m.toInt.toNat < 2305843009213693952 := by omega
  have h4 : i < 61 := p_lt (b := 61) (Nat.lt_of_le_of_lt hi h3)
  have h5 : m2.toInt = ((m.toInt.toNat * 2 ^ 1 : Nat) : Int) := by rw [e2]; exact L_shlN (L_natP (by omega)) (y := 1) (by decide) (by decide) (by omega)
  have h6 : x2.toInt = x.toInt + -1 := by rw [e3, I_add, Iom] <;> rw [Iom] <;> omega
  refine ⟨j + 1, ?_, by omega⟩
  rw [Int.pow_succ, ← Int.mul_assoc, ← hj]; omega
def NVQ (p1 : Int64) (p2 : Int32) (q : Int64) (x d : Int32) : Prop := 0 ≤ q.toInt ∧ q.toInt ≤ 9007199254740992 ∧ RT (p1.toInt.toNat * 2 ^ (p2.toInt + (OFF : Int)).toNat) false = q.toInt.toNat * 2 ^ (x.toInt + d.toInt + (OFF : Int)).toNat ∧ (q.toInt = 0 → x.toInt + d.toInt = -1074)
/-- drop is the larger of 9 and -1074 - x -/
def DBE (x d : Int32) : Prop := d.toInt = max 9 (-1074 - x.toInt)
theorem dbe_1 {x w : Int32} (hx : -5062 ≤ x.toInt ∧ x.toInt ≤ 5000) (e : w = x + 9) (c : -1074 ≤ w) : DBE x 9 := by
  rw [Int32.le_iff_toInt_le, Im] at c
  have h : w.toInt = x.toInt + 9 := by rw [e, I_add, I9] <;> rw [I9] <;> omega
  unfold DBE; rw [I9]; omega
theorem dbe_2 {x w d : Int32} (hx : -5062 ≤ x.toInt ∧ x.toInt ≤ 5000) (e : w = x + 9) (c : ¬ -1074 ≤ w) (ed : d = -1074 - x) : DBE x d := by
  rw [Int32.le_iff_toInt_le, Im] at c
  have h : w.toInt = x.toInt + 9 := by rw [e, I_add, I9] <;> rw [I9] <;> omega
  have h2 : d.toInt = -1074 - x.toInt := by rw [ed, I_sub, Im] <;> rw [Im] <;> omega
  unfold DBE; omega
theorem nv_r {p1 m : Int64} {p2 x d : Int32} (hp : 0 ≤ p1.toInt) (hx : -5062 ≤ x.toInt ∧ x.toInt ≤ 5000) (hm : 2305843009213693952 ≤ m.toInt ∧ m.toInt < 4611686018427387904) (h : NBV p1 p2 m x) (hd : DBE x d) : RT (p1.toInt.toNat * 2 ^ (p2.toInt + (OFF : Int)).toNat) false = RF m.toInt.toNat d.toInt.toNat false * 2 ^ (x.toInt + d.toInt + (OFF : Int)).toNat ∧ RF m.toInt.toNat d.toInt.toNat false ≤ 9007199254740992 := by
  obtain ⟨j, hj, hxj⟩ := h
  have hO : (OFF : Int) = 6000 := rfl
  have hG : GL = 4926 := rfl
  unfold DBE at hd
  have e1 : m.toInt.toNat = p1.toInt.toNat * 2 ^ j := by
    have : m.toInt = ((p1.toInt.toNat * 2 ^ j : Nat) : Int) := by rw [hj]; push_cast; rw [show ((p1.toInt.toNat : Nat) : Int) = p1.toInt by omega]
    rw [this, Int.toNat_natCast]
  have e2 : p1.toInt.toNat * 2 ^ (p2.toInt + (OFF : Int)).toNat = m.toInt.toNat * 2 ^ (x.toInt + (OFF : Int)).toNat := by
    rw [e1, Nat.mul_assoc, ← Nat.pow_add]
    congr 2
    omega
  have hb : BL m.toInt.toNat = 61 + 1 := BL_eq (by rw [show (2 : Nat) ^ 61 = 2305843009213693952 by decide]; omega) (by rw [show (2 : Nat) ^ (61 + 1) = 4611686018427387904 by decide]; omega)
  refine ⟨?_, RF_le (BL_lt (T := m.toInt.toNat)) (by omega)⟩
  rw [e2, RT_d (d := d.toInt.toNat) (by omega) (by omega) (by rw [hb]; omega)]
  congr 2
  omega
theorem nv_0 {p1 m : Int64} {p2 x d : Int32} (hp : 0 ≤ p1.toInt) (hx : -5062 ≤ x.toInt ∧ x.toInt ≤ 5000) (hm : 2305843009213693952 ≤ m.toInt ∧ m.toInt < 4611686018427387904) (h : NBV p1 p2 m x) (hd : DBE x d) (c : 62 < d) : NVQ p1 p2 0 x d := by
  obtain ⟨k1, k2⟩ := nv_r hp hx hm h hd
  rw [Int32.lt_iff_toInt_lt, show (62 : Int32).toInt = 62 by decide] at c
  have h4 : 2 ^ 62 ≤ 2 ^ (d.toInt.toNat - 1) := Nat.pow_le_pow_right (by decide) (by omega)
  have h5 : 2 ^ d.toInt.toNat = 2 ^ (d.toInt.toNat - 1) * 2 := by rw [← Nat.pow_succ]; congr 1; omega
  rw [show (2 : Nat) ^ 62 = 4611686018427387904 by decide] at h4
  have e0 : RF m.toInt.toNat d.toInt.toNat false = 0 := by
    unfold RF
    rw [Nat.div_eq_of_lt (by omega), ifn]
    unfold RU
    rw [Nat.mod_eq_of_lt (by omega)]
    omega
  refine ⟨by decide, by decide, ?_, fun _ => ?_⟩
  · rw [k1, e0, L0]; rfl
  · unfold DBE at hd; omega
def NVR (m q r h : Int64) (d : Int32) : Prop := (q.toInt = ((m.toInt.toNat / 2 ^ d.toInt.toNat : Nat) : Int)) ∧ (r.toInt = ((m.toInt.toNat % 2 ^ d.toInt.toNat : Nat) : Int)) ∧ (h.toInt = ((2 ^ (d.toInt.toNat - 1) : Nat) : Int))
theorem NVR.hq {m q r h : Int64} {d : Int32} (F9 : NVR m q r h d) : q.toInt = ((m.toInt.toNat / 2 ^ d.toInt.toNat : Nat) : Int) := F9.1
theorem NVR.hr {m q r h : Int64} {d : Int32} (F9 : NVR m q r h d) : r.toInt = ((m.toInt.toNat % 2 ^ d.toInt.toNat : Nat) : Int) := F9.2.1
theorem NVR.hh {m q r h : Int64} {d : Int32} (F9 : NVR m q r h d) : h.toInt = ((2 ^ (d.toInt.toNat - 1) : Nat) : Int) := F9.2.2
theorem nv_v {m q a r h : Int64} {x d d1 : Int32} (hm : 2305843009213693952 ≤ m.toInt ∧ m.toInt < 4611686018427387904) (hd : DBE x d) (c : ¬ 62 < d) (e1 : q = m >>> (d.toInt64 &&& 63)) (e2 : a = q <<< (d.toInt64 &&& 63)) (e3 : r = m - a) (e4 : d1 = d - 1) (e5 : h = 1 <<< (d1.toInt64 &&& 63)) : NVR m q r h d := by
  rw [Int32.lt_iff_toInt_lt, show (62 : Int32).toInt = 62 by decide] at c
  unfold DBE at hd
  obtain ⟨n, hn⟩ : ∃ n : Nat, d.toInt = n := ⟨d.toInt.toNat, by omega⟩
  have e6 : d.toInt.toNat = n := by omega
  have hq := L_shrN (L_natP (show 0 ≤ m.toInt by omega)) hn (by omega)
  rw [← e1] at hq
  have w := Nat.div_add_mod m.toInt.toNat (2 ^ n)
  have ha := L_shlN hq hn (by omega) (by rw [Nat.mul_comm]; omega)
  rw [← e2, Nat.mul_comm] at ha
  have hr : r.toInt = m.toInt - a.toInt := by rw [e3, L_sub] <;> omega
  have hd1 : d1.toInt = ((n - 1 : Nat) : Int) := by rw [e4, I_sub, I1] <;> (try rw [I1]) <;> omega
  have p1 : 2 ^ (n - 1) ≤ 2 ^ 61 := Nat.pow_le_pow_right (by decide) (by omega)
  rw [show (2 : Nat) ^ 61 = 2305843009213693952 by decide] at p1
  have hh := L_shlN (x := 1) (P := 1) (by decide) hd1 (by omega) (by omega)
  rw [← e5, Nat.one_mul] at hh
  exact ⟨by rw [e6]; exact hq, by rw [e6]; omega, by rw [e6]; exact hh⟩
theorem nv_n {p1 m q r h : Int64} {p2 x d : Int32} (hp : 0 ≤ p1.toInt) (hx : -5062 ≤ x.toInt ∧ x.toInt ≤ 5000) (hm : 2305843009213693952 ≤ m.toInt ∧ m.toInt < 4611686018427387904) (hb : NBV p1 p2 m x) (hd : DBE x d) (F : NVR m q r h d) (u : ¬ RU m.toInt.toNat d.toInt.toNat false) : NVQ p1 p2 q x d := by
  obtain ⟨k1, k2⟩ := nv_r hp hx hm hb hd
  have e : RF m.toInt.toNat d.toInt.toNat false = m.toInt.toNat / 2 ^ d.toInt.toNat := by unfold RF; rw [ifn u, Nat.add_zero]
  rw [e] at k1 k2
  have hq := F.hq
  have h9 : m.toInt.toNat / 2 ^ d.toInt.toNat = 0 → x.toInt + d.toInt = -1074 := fun z => by
    unfold DBE at hd
    rcases Int.lt_or_le 9 d.toInt with y | y
    · omega
    · exfalso
      rw [show d.toInt.toNat = 9 by omega, show (2 : Nat) ^ 9 = 512 by decide] at z
      omega
  generalize m.toInt.toNat / 2 ^ d.toInt.toNat = w at *
  exact ⟨by omega, by omega, by rw [k1, hq, Int.toNat_natCast], fun z => h9 (by omega)⟩
theorem nv_u {p1 m q r h v : Int64} {p2 x d : Int32} (hp : 0 ≤ p1.toInt) (hx : -5062 ≤ x.toInt ∧ x.toInt ≤ 5000) (hm : 2305843009213693952 ≤ m.toInt ∧ m.toInt < 4611686018427387904) (hb : NBV p1 p2 m x) (hd : DBE x d) (F : NVR m q r h d) (u : RU m.toInt.toNat d.toInt.toNat false) (ev : v = q + 1) : NVQ p1 p2 v x d := by
  obtain ⟨k1, k2⟩ := nv_r hp hx hm hb hd
  have e : RF m.toInt.toNat d.toInt.toNat false = m.toInt.toNat / 2 ^ d.toInt.toNat + 1 := by unfold RF; rw [ifp u]
  rw [e] at k1 k2
  have hq := F.hq
  generalize m.toInt.toNat / 2 ^ d.toInt.toNat = w at *
  have hv : v.toInt = ((w + 1 : Nat) : Int) := by rw [ev, L_add, L1] <;> (try rw [L1]) <;> omega
  exact ⟨by omega, by omega, by rw [k1, hv, Int.toNat_natCast], fun z => by omega⟩
theorem nv_u1 {m q r h : Int64} {d : Int32} (F : NVR m q r h d) (c : h < r) : RU m.toInt.toNat d.toInt.toNat false := by
  rw [Int64.lt_iff_toInt_lt, F.hr, F.hh] at c
  exact Or.inl (Int.ofNat_lt.mp c)
theorem nv_u2 {m q r h v : Int64} {d : Int32} (F : NVR m q r h d) (c : r = h) (ev : v = q &&& 1) (c1 : v = 1) : RU m.toInt.toNat d.toInt.toNat false := by
  have e := F.hr
  rw [c, F.hh] at e
  have hq := F.hq
  have h1 : q.toInt % 2 = 1 := by
    have : ¬ q.toInt % 2 = 0 := fun z => by rw [L_and1.mpr z] at ev; rw [ev] at c1; exact absurd c1 (by decide)
    omega
  exact Or.inr ⟨(Int.ofNat_inj.mp e).symm, Or.inr (by omega)⟩
theorem nv_n1 {m q r h : Int64} {d : Int32} (F : NVR m q r h d) (c : ¬ h < r) (c2 : ¬ r = h) : ¬ RU m.toInt.toNat d.toInt.toNat false := by
  rw [Int64.lt_iff_toInt_lt, F.hr, F.hh] at c
  rintro (q | q)
  · exact c (Int.ofNat_lt.mpr q)
  · exact c2 (Int64.toInt_inj.mp (by rw [F.hr, F.hh, q.1]))
theorem nv_n2 {m q r h v : Int64} {d : Int32} (F : NVR m q r h d) (c : ¬ h < r) (ev : v = q &&& 1) (c1 : ¬ v = 1) : ¬ RU m.toInt.toNat d.toInt.toNat false := by
  rw [Int64.lt_iff_toInt_lt, F.hr, F.hh] at c
  have hq := F.hq
  rintro (w | ⟨-, w | w⟩)
  · exact c (Int.ofNat_lt.mpr w)
  · exact absurd w (by decide)
  · rcases L_and1q q with z | z
    · have := L_and1.mp z
      omega
    · exact c1 (by rw [ev, z])
-- the length
def LBM (q : Int64) (l : Int32) : Prop := l.toInt = 0 ∨ 2 ^ (l.toInt.toNat - 1) ≤ q.toInt.toNat
theorem lbm_0 {q : Int64} : LBM q 0 := Or.inl I0
theorem lbm_s {q v : Int64} {l l2 : Int32} (h : LB q l) (e : v = q >>> (l.toInt64 &&& 63)) (c : ¬ v = 0) (e2 : l2 = l + Int32.ofInt 1) : LBM q l2 := by
  obtain ⟨u, hu, hu2, hv⟩ := lb_v h e
  have h5 := L_ne0 c
  have h6 : 2 ^ u ≤ q.toInt.toNat := by
    rcases Nat.lt_or_ge q.toInt.toNat (2 ^ u) with z | z
    · rw [Nat.div_eq_of_lt z] at hv; exact absurd hv h5
    · exact z
  have h8 : l2.toInt = l.toInt + 1 := by rw [e2, I_add, Io1] <;> rw [Io1] <;> omega
  right
  rw [show l2.toInt.toNat - 1 = u by omega]; exact h6
theorem lbm_e {q v : Int64} {l : Int32} (h : LB q l) (hm : LBM q l) (e : v = q >>> (l.toInt64 &&& 63)) (c : v = 0) : l.toInt = BL q.toInt.toNat := by
  obtain ⟨u, hu, hu2, hv⟩ := lb_v h e
  rw [c, L0] at hv
  have h5 : q.toInt.toNat < 2 ^ u := by
    have : q.toInt.toNat / 2 ^ u = 0 := by
      generalize q.toInt.toNat / 2 ^ u = w at hv
      omega
    exact (Nat.div_eq_zero_iff_lt (Nat.two_pow_pos u)).mp this
  have h6 := BL_le h5
  rcases hm with z | z
  · omega
  · rw [show l.toInt.toNat = u by omega] at z
    rcases Nat.eq_zero_or_pos u with y | y
    · omega
    · have := BL_ge z; omega
theorem nv_sum {q : Int64} {l x d a b : Int32} (hl : l.toInt = BL q.toInt.toNat) (hb : BL q.toInt.toNat ≤ 54) (hx : -5062 ≤ x.toInt ∧ x.toInt ≤ 5000) (hd : DBE x d) (ea : a = l + x) (eb : b = a + d) : b.toInt = BL q.toInt.toNat + (x.toInt + d.toInt) := by
  unfold DBE at hd
  have s2 : a.toInt = l.toInt + x.toInt := by rw [ea, I_add] <;> omega
  rw [eb, I_add] <;> omega
theorem q54 {p1 q : Int64} {p2 x d : Int32} (h : NVQ p1 p2 q x d) : BL q.toInt.toNat ≤ 54 := BL_le (by rw [show (2 : Nat) ^ 54 = 18014398509481984 by decide]; have := h.2.1; have := h.1; omega)
theorem nv_i {p1 q : Int64} {p2 x d l a b k e : Int32} {n : Int64} (z p3 : Int32) (h : NVQ p1 p2 q x d) (hx : -5062 ≤ x.toInt ∧ x.toInt ≤ 5000) (hd : DBE x d) (hl : l.toInt = BL q.toInt.toNat) (ea : a = l + x) (eb : b = a + d) (c : ¬ b ≤ 1024) (hz : (p3 = 0 ∧ z = 3) ∨ (¬ p3 = 0 ∧ z = 4)) (hs : k = z ∧ n = 0 ∧ e = 0) : MA k n e (rnd (bb p3) (p1.toInt.toNat * 2 ^ (p2.toInt + (OFF : Int)).toNat) false) := by
  have hb := nv_sum hl (q54 h) hx hd ea eb
  rw [Int32.le_iff_toInt_le, show (1024 : Int32).toInt = 1024 by decide, hb] at c
  have hO : (OFF : Int) = 6000 := rfl
  have hO' : OFF = 6000 := rfl
  have hd' := hd
  unfold DBE at hd'
  have h0 : q.toInt.toNat ≠ 0 := fun w => by
    have hd2 : BL q.toInt.toNat = 0 := by rw [w]; rfl
    have h1 := h.1
    have := h.2.2.2 (by omega)
    omega
  have hg : TOP ≤ RT (p1.toInt.toNat * 2 ^ (p2.toInt + (OFF : Int)).toNat) false := by
    rw [h.2.2.1]
    have hs := BL_self h0
    have hb54 := q54 h
    refine Nat.le_trans ?_ (Nat.mul_le_mul_right _ hs)
    rw [← Nat.pow_add]
    generalize BL q.toInt.toNat = L at *
    exact TOP_le (by omega)
  unfold rnd mkR
  rw [ifp hg]
  rcases hz with ⟨w, y⟩ | ⟨w, y⟩
  · rw [bb_f w, ifn (by decide)]; rw [y] at hs; exact hs
  · rw [bb_t w, ifp rfl]; rw [y] at hs; exact hs
theorem nv_p {p1 q m : Int64} {p2 x d l a b k e s : Int32} {n : Int64} (p3 : Int32) (h : NVQ p1 p2 q x d) (hx : -5062 ≤ x.toInt ∧ x.toInt ≤ 5000) (hd : DBE x d) (hl : l.toInt = BL q.toInt.toNat) (ea : a = l + x) (eb : b = a + d) (c : b ≤ 1024) (es : s = x + d) (hm : (p3 = 0 ∧ m = q) ∨ (¬ p3 = 0 ∧ m = -q)) (hk : k = 2 ∧ GR n e) (hv : sc n.toInt e.toInt = sc m.toInt s.toInt) : MA k n e (rnd (bb p3) (p1.toInt.toNat * 2 ^ (p2.toInt + (OFF : Int)).toNat) false) := by
  have hb := nv_sum hl (q54 h) hx hd ea eb
  rw [Int32.le_iff_toInt_le, show (1024 : Int32).toInt = 1024 by decide, hb] at c
  have hO : (OFF : Int) = 6000 := rfl
  have hO' : OFF = 6000 := rfl
  have hd' := hd
  unfold DBE at hd'
  have hs : s.toInt = x.toInt + d.toInt := by rw [es, I_add] <;> omega
  have hlt : RT (p1.toInt.toNat * 2 ^ (p2.toInt + (OFF : Int)).toNat) false < TOP := by
    rw [h.2.2.1]
    refine Nat.lt_of_lt_of_le (Nat.mul_lt_mul_of_pos_right (BL_lt (T := q.toInt.toNat)) (Nat.two_pow_pos _)) ?_
    rw [← Nat.pow_add]
    generalize BL q.toInt.toNat = L at *
    exact le_TOP (by omega)
  unfold rnd
  rw [mkR_r hlt]
  refine ⟨hk.1, hk.2, ?_⟩
  rw [hv, h.2.2.1, sc, hs]
  have h0 := h.1
  have hq2 := h.2.1
  rcases hm with ⟨w, y⟩ | ⟨w, y⟩
  · rw [bb_f w, ifn (by decide), y]
    push_cast
    rw [show ((q.toInt.toNat : Nat) : Int) = q.toInt by omega]
  · have hn : m.toInt = -q.toInt := by rw [y, L_neg (by omega)]
    rw [bb_t w, ifp rfl, hn, Int.neg_mul]
    push_cast
    rw [show ((q.toInt.toNat : Nat) : Int) = q.toInt by omega]
theorem nv_z {p1 : Int64} {p2 k e : Int32} {n : Int64} (p3 : Int32) (c : p1 = 0) (hk : k = 2 ∧ GR n e) (hz : n = 0 ∧ e = 0) : MA k n e (rnd (bb p3) (p1.toInt.toNat * 2 ^ (p2.toInt + (OFF : Int)).toNat) false) := by
  rw [c, L0, Int.toNat_zero, Nat.zero_mul, rnd_0]
  exact ⟨hk.1, hk.2, by rw [hz.1, L0, sc_0]⟩
-- nearestOf
theorem nof_s {m v a b : Int64} {p x2 : Int32} (hp : -4000 ≤ p.toInt ∧ p.toInt ≤ 4000) (hm : 4611686018427387904 ≤ m.toInt) (ea : a = m >>> ((1 : Int32).toInt64 &&& 63)) (eb : b = m &&& 1) (ev : v = a ||| b) (ex : x2 = p + 1) : RT (v.toInt.toNat * 2 ^ (x2.toInt + (OFF : Int)).toNat) false = RT (m.toInt.toNat * 2 ^ (p.toInt + (OFF : Int)).toNat) false := by
  have hr := L_rg m
  have hO : (OFF : Int) = 6000 := rfl
  have hx : x2.toInt = p.toInt + 1 := by rw [ex, I_add, I1] <;> (try rw [I1]) <;> omega
  have h2 : a.toInt = ((m.toInt.toNat / 2 ^ 1 : Nat) : Int) := by rw [ea]; exact L_shrN (L_natP (by omega)) (y := 1) (by decide) (by decide)
  rw [Nat.pow_one] at h2
  obtain ⟨B, hB⟩ : ∃ B : Nat, p.toInt + (OFF : Int) = B := ⟨(p.toInt + (OFF : Int)).toNat, by omega⟩
  have e1 : (x2.toInt + (OFF : Int)).toNat = B + 1 := by omega
  have e2 : (p.toInt + (OFF : Int)).toNat = B := by omega
  rw [e1, e2]
  have P := Nat.two_pow_pos B
  have hge : 2 ^ 54 ≤ m.toInt.toNat / 2 := by rw [show (2 : Nat) ^ 54 = 18014398509481984 by decide]; omega
  have w : m.toInt.toNat * 2 ^ B = m.toInt.toNat / 2 * 2 ^ (B + 1) + m.toInt.toNat % 2 * 2 ^ B := by
    conv => lhs; rw [show m.toInt.toNat = m.toInt.toNat / 2 * 2 + m.toInt.toNat % 2 by omega]
    rw [Nat.add_mul, Nat.pow_succ, Nat.mul_assoc, Nat.mul_comm 2]
  rcases L_and1q m with q | q
  · have h0 := L_and1.mp q
    have hv : v.toInt = a.toInt := by rw [ev, eb, q, show a ||| 0 = a from by simp]
    rw [hv, h2, Int.toNat_natCast, w, show m.toInt.toNat % 2 = 0 by omega, Nat.zero_mul]
    exact congrArg (fun z => RT z false) (Nat.add_zero _).symm
  · have h1 : ¬ m.toInt % 2 = 0 := fun z => by rw [L_and1.mpr z] at q; exact absurd q (by decide)
    have hv : v.toInt = a.toInt + (1 - a.toInt % 2) := by rw [ev, eb, q]; exact L_or1 (by omega)
    have hvn : v.toInt.toNat = m.toInt.toNat / 2 + (1 - m.toInt.toNat / 2 % 2) := by omega
    rw [hvn, RT_or hge, w, show m.toInt.toNat % 2 = 1 by omega, Nat.one_mul]
    refine (RT_st (Nat.le_trans (by decide) hge) ?_ ⟨fun _ => Or.inl (by omega), fun _ => rfl⟩).symm
    rw [Nat.pow_succ]; omega
theorem rndS_of {k e : Int32} {n : Int64} {p : Int64} {x x2 : Int32} {v : Int64} (p3 : Int32) (hb : bb p3 = decide (p.toInt < 0)) (hR : RT (v.toInt.toNat * 2 ^ (x2.toInt + (OFF : Int)).toNat) false = RT (p.toInt.natAbs * 2 ^ (x.toInt + (OFF : Int)).toNat) false) (h : MA k n e (rnd (bb p3) (v.toInt.toNat * 2 ^ (x2.toInt + (OFF : Int)).toNat) false)) : MA k n e (rndS p.toInt x.toInt) := by
  unfold rndS rnd at *
  rw [hR, hb] at h; exact h
theorem nof_m {p : Int64} {x x2 : Int32} (hx : -4000 ≤ x.toInt ∧ x.toInt ≤ 4000) (c : p = -9223372036854775808) (e : x2 = x + 63) : RT ((1 : Int64).toInt.toNat * 2 ^ (x2.toInt + (OFF : Int)).toNat) false = RT (p.toInt.natAbs * 2 ^ (x.toInt + (OFF : Int)).toNat) false ∧ bb 1 = decide (p.toInt < 0) := by
  have hO : (OFF : Int) = 6000 := rfl
  have h63 : (63 : Int32).toInt = 63 := by decide
  have hx2 : x2.toInt = x.toInt + 63 := by rw [e, I_add, h63] <;> (try rw [h63]) <;> omega
  have hp : p.toInt = -9223372036854775808 := by rw [c]; decide
  refine ⟨?_, by rw [hp]; decide⟩
  rw [hp, hx2, L1, show (x.toInt + 63 + (OFF : Int)).toNat = 63 + (x.toInt + (OFF : Int)).toNat by omega, Nat.pow_add, ← Nat.mul_assoc]
  rfl
theorem nof_b {p r v : Int64} (c : ¬ p = -9223372036854775808) (hs : -9223372036854775808 < p.toInt → r.toInt = p.toInt.natAbs) : r.toInt = p.toInt.natAbs := hs (no_mq c)
theorem nof_g {p r v : Int64} (c : ¬ p = -9223372036854775808) (hs : -9223372036854775808 < p.toInt → r.toInt = p.toInt.natAbs) (ev : v = r >>> ((62 : Int32).toInt64 &&& 63)) (z : ¬ v = 0) : 4611686018427387904 ≤ r.toInt := by
  have h1 := hs (no_mq c)
  have h2 : v.toInt = ((r.toInt.toNat / 2 ^ 62 : Nat) : Int) := by rw [ev]; exact L_shrN (L_natP (by omega)) (y := 62) (by decide) (by decide)
  have := L_ne0 z
  rw [show (2 : Nat) ^ 62 = 4611686018427387904 by decide] at h2
  rcases Int.lt_or_le r.toInt 4611686018427387904 with q | q
  · omega
  · exact q
theorem nn_0 {p : Int64} (c : 0 ≤ p) : bb 0 = decide (p.toInt < 0) := sr_0 c
theorem nn_1 {p : Int64} (c : ¬ 0 ≤ p) : bb 1 = decide (p.toInt < 0) := sr_1 c
-- down
def stk (m b : Nat) : Nat := if m % 2 ^ b = 0 then m / 2 ^ b else m / 2 ^ b + (1 - m / 2 ^ b % 2)
def DNV (p : Int64) (y : Int32) (r : Int64) : Prop := 0 < p.toInt → r.toInt.toNat = stk p.toInt.toNat y.toInt.toNat
theorem dnv_0 {p : Int64} {y : Int32} (c : y = 0) : DNV p y p := fun _ => by
  rw [c, I0, Int.toNat_zero]
  unfold stk
  rw [Nat.pow_zero, Nat.mod_one, ifp rfl, Nat.div_one]
theorem dnv_1 {p : Int64} {y : Int32} (h2 : p.toInt < 4611686018427387904) (c : ¬ y ≤ 62) : DNV p y 1 := fun h => by
  rw [Int32.le_iff_toInt_le, show (62 : Int32).toInt = 62 by decide] at c
  have h4 : 2 ^ 62 ≤ 2 ^ y.toInt.toNat := Nat.pow_le_pow_right (by decide) (by omega)
  rw [show (2 : Nat) ^ 62 = 4611686018427387904 by decide] at h4
  unfold stk
  rw [Nat.mod_eq_of_lt (by omega), Nat.div_eq_of_lt (by omega), ifn (by omega)]
  rfl
theorem dnv_v {p q a : Int64} {y : Int32} (h1 : 0 ≤ p.toInt) (h2 : p.toInt < 4611686018427387904) (h3 : 0 ≤ y.toInt) (c : y ≤ 62) (e : q = p >>> (y.toInt64 &&& 63)) (ea : a = q <<< (y.toInt64 &&& 63)) : q.toInt = ((p.toInt.toNat / 2 ^ y.toInt.toNat : Nat) : Int) ∧ (a = p ↔ p.toInt.toNat % 2 ^ y.toInt.toNat = 0) := by
  rw [Int32.le_iff_toInt_le, show (62 : Int32).toInt = 62 by decide] at c
  obtain ⟨k, hk⟩ : ∃ k : Nat, y.toInt = k := ⟨y.toInt.toNat, by omega⟩
  have e6 : y.toInt.toNat = k := by omega
  rw [e6]
  have h5 := L_shrN (L_natP h1) hk (by omega)
  rw [← e] at h5
  have w := Nat.div_add_mod p.toInt.toNat (2 ^ k)
  have ha := L_shlN h5 hk (by omega) (by rw [Nat.mul_comm]; omega)
  rw [← ea, Nat.mul_comm] at ha
  refine ⟨h5, ?_⟩
  rw [← Int64.toInt_inj, ha]
  omega
theorem dnv_q {p q a : Int64} {y : Int32} (h1 : 0 ≤ p.toInt) (h2 : p.toInt < 4611686018427387904) (h3 : 0 ≤ y.toInt) (c : y ≤ 62) (e : q = p >>> (y.toInt64 &&& 63)) (ea : a = q <<< (y.toInt64 &&& 63)) (ca : a = p) : DNV p y q := fun _ => by
  obtain ⟨k1, k2⟩ := dnv_v h1 h2 h3 c e ea
  unfold stk
  rw [ifp (k2.mp ca), k1, Int.toNat_natCast]
theorem dnv_r {p q a r : Int64} {y : Int32} (h1 : 0 ≤ p.toInt) (h2 : p.toInt < 4611686018427387904) (h3 : 0 ≤ y.toInt) (c : y ≤ 62) (e : q = p >>> (y.toInt64 &&& 63)) (ea : a = q <<< (y.toInt64 &&& 63)) (ca : ¬ a = p) (er : r = q ||| 1) : DNV p y r := fun _ => by
  obtain ⟨k1, k2⟩ := dnv_v h1 h2 h3 c e ea
  unfold stk
  rw [ifn (fun z => ca (k2.mpr z))]
  generalize p.toInt.toNat / 2 ^ y.toInt.toNat = w at *
  have h4 := L_or1 (x := q) (by rw [k1]; omega)
  rw [← er] at h4
  omega
end
