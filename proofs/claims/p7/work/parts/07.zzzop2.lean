noncomputable section
theorem amtI : ∀ k : Fin 32, (nI k.val &&& 31).toBitVec.smod 32 = BitVec.ofNat 32 k.val := by decide
theorem I_shr (x : Int32) {y : Int32} {k : Nat} (hy : y.toInt = k) (hk : k < 32) : (x >>> (y &&& 31)).toInt = x.toInt / 2 ^ k := by
  have h := amtI ⟨k, hk⟩
  show (BitVec.sshiftRight' x.toBitVec ((y &&& 31).toBitVec.smod 32)).toInt = _
  rw [nI_of_toInt hy (Nat.lt_trans hk (by decide)), h, BitVec.toInt_sshiftRight', BitVec.toNat_ofNat, Nat.mod_eq_of_lt (Nat.lt_trans hk (by decide)), Int.shiftRight_eq_div_pow]
  rfl
theorem ui_and1 {x v : Int32} (e : v = x &&& 1) : ui v = ui x % 2 := by
  subst e
  show (x &&& 1).toBitVec.toNat = _
  rw [Int32.toBitVec_and, BitVec.toNat_and, show (1 : Int32).toBitVec.toNat = 1 from rfl, Nat.and_one_is_mod]
  rfl
theorem ib_1 {p i a b : Int32} {k : Nat} (hp : 0 ≤ p.toInt) (hi : i.toInt = k) (hk : k < 32) (e1 : a = p >>> (i &&& 31)) (e2 : b = a &&& 1) : b = 1 ↔ p.toInt.toNat / 2 ^ k % 2 = 1 := by
  have h1 := I_shr p hi hk
  rw [← e1] at h1
  have h2 : a.toInt = ((p.toInt.toNat / 2 ^ k : Nat) : Int) := by
    rw [h1]
    conv => lhs; rw [show p.toInt = ((p.toInt.toNat : Nat) : Int) by omega]
    push_cast; rfl
  have h4 := ui_and1 e2
  have h5 : ui a = p.toInt.toNat / 2 ^ k := by
    generalize p.toInt.toNat / 2 ^ k = w at h2
    have h3 := ui_p (x := a) (by rw [h2]; omega)
    omega
  rw [← h5, ← h4]
  exact ⟨fun q => by rw [q]; rfl, fun q => ui_inj (by rw [q]; rfl)⟩
theorem pw_z {k : Nat} {y xv : AV} : pw k 0 y xv = xv := by cases k <;> rfl
theorem pw_s {k n : Nat} {y xv : AV} (h : n ≠ 0) : pw (k + 1) n y xv = pw k (n / 2) (mulR y y) (if n % 2 = 1 then mulR xv y else xv) := by
  show (if n = 0 then _ else _) = _
  rw [ifn h]
def RSI (f f1 : Nat → V3) (v1 v2 v3 : Nat) (p i : Int32) : Prop := zV v1 v2 v3 → 0 ≤ p.toInt → p.toInt ≤ 65536 → ∀ a, CA (f v1) a → ∃ (k : Nat) (xv y : AV), i.toInt = k ∧ k ≤ 20 ∧ CA (f1 v1) xv ∧ CA (f1 v3) y ∧ nW xv ∧ nW y ∧ FRM f f1 v1 v2 v3 ∧ pw (32 - k) (p.toInt.toNat / 2 ^ k) y xv = pw 32 p.toInt.toNat (turn a) (.inr (.inl W1))
theorem one_W : rndS (1 : Int64).toInt (0 : Int32).toInt = .inr (.inl W1) := by
  rw [rndS_0, show (1 : Int64).toInt = 1 by decide, rndW_ex (by decide), Int.one_mul]
theorem src_1 : SRC 1 0 := ⟨Or.inr I0, by decide, by decide⟩
theorem rsi_0 {f f1 f2 f3 : Nat → V3} {v1 v2 v3 : Nat} {p : Int32} (h1 : f1 = va_up f v3 (f v1)) (h2 : ∀ a, CA (f1 v3) a → UPD f1 f2 v3 (turn a)) (h3 : SRC 1 0 → UPD f2 f3 v1 (rndS (1 : Int64).toInt (0 : Int32).toInt)) : RSI f f3 v1 v2 v3 p 0 := fun z _ _ a ha => by
  have u0 : UPD f f1 v3 a := ⟨_, h1, ha⟩
  have u2 := h2 a (UPD_at u0)
  have u3 := h3 src_1
  rw [one_W] at u3
  refine ⟨0, .inr (.inl W1), turn a, I0, by decide, UPD_at u3, ?_, trivial, nW_turn a, frm_t (frm_3 u0) (frm_t (frm_3 u2) (frm_1 u3)), ?_⟩
  · rw [UPD_ne u3 (Ne.symm z.2.1)]; exact UPD_at u2
  · rw [Nat.pow_zero, Nat.div_one]
theorem rs_bits {p r bits : Int32} (hp : 0 ≤ p.toInt) (hp2 : p.toInt ≤ 65536) (h : r.toInt = 32 - (BL (ui p) : Int)) (e : bits = 32 - r) : bits.toInt = BL p.toInt.toNat ∧ BL p.toInt.toNat ≤ 17 := by
  have h1 := ui_p hp
  have h2 : ui p = p.toInt.toNat := by omega
  rw [h2] at h
  have hb : BL p.toInt.toNat ≤ 17 := BL_le (by rw [show (2 : Nat) ^ 17 = 131072 by decide]; omega)
  have t : (32 : Int32).toInt = 32 := by decide
  refine ⟨?_, hb⟩
  rw [e, I_sub, t] <;> (try rw [t]) <;> omega
theorem rsi_s {f f1 f2 f3 : Nat → V3} {v1 v2 v3 : Nat} {p i i2 i3 r bits s t : Int32} (h : RSI f f1 v1 v2 v3 p i) (hr : r.toInt = 32 - (BL (ui p) : Int)) (eb : bits = 32 - r) (c : ¬ bits ≤ i) (e1 : s = p >>> (i &&& 31)) (e2 : t = s &&& 1)
    (h1 : (t = 1 ∧ ∀ a b, CA (f1 v1) a → CA (f1 v3) b → nW a → nW b → UPD f1 f2 v1 (mulR a b)) ∨ (¬ t = 1 ∧ f2 = f1)) (e3 : i2 = i + 1)
    (h2 : (bits ≤ i2 ∧ f3 = f2) ∨ (¬ bits ≤ i2 ∧ ∀ a b, CA (f2 v3) a → CA (f2 v3) b → nW a → nW b → UPD f2 f3 v3 (mulR a b))) (e4 : i3 = i + Int32.ofInt 1) : RSI f f3 v1 v2 v3 p i3 := fun z p0 p1 a ha => by
  obtain ⟨k, xv, y, hk, hk2, cx, cy, wx, wy, fr, hp⟩ := h z p0 p1 a ha
  obtain ⟨hb, hb2⟩ := rs_bits p0 p1 hr eb
  rw [Int32.le_iff_toInt_le] at c
  have hi2 : i2.toInt = ((k + 1 : Nat) : Int) := by rw [e3, I_add, I1] <;> (try rw [I1]) <;> omega
  have hi3 : i3.toInt = ((k + 1 : Nat) : Int) := by rw [e4, I_add, Io1] <;> (try rw [Io1]) <;> omega
  have hbit := ib_1 p0 hk (by omega) e1 e2
  have hn : p.toInt.toNat / 2 ^ k ≠ 0 := by
    have hne : p.toInt.toNat ≠ 0 := fun q => by rw [q] at hb; rw [show BL 0 = 0 from rfl] at hb; omega
    have h3 := BL_self hne
    have h4 : 2 ^ k ≤ 2 ^ (BL p.toInt.toNat - 1) := Nat.pow_le_pow_right (by decide) (by omega)
    have := Nat.div_pos (Nat.le_trans h4 h3) (Nat.two_pow_pos k)
    omega
  rw [show 32 - k = (31 - k) + 1 by omega, pw_s hn, Nat.div_div_eq_div_mul, ← Nat.pow_succ] at hp
  have f2f : ∃ x2, x2 = (if p.toInt.toNat / 2 ^ k % 2 = 1 then mulR xv y else xv) ∧ CA (f2 v1) x2 ∧ CA (f2 v3) y ∧ nW x2 ∧ FRM f f2 v1 v2 v3 := by
    rcases h1 with ⟨q, h1⟩ | ⟨q, h1⟩
    · have u := h1 xv y cx cy wx wy
      exact ⟨mulR xv y, by rw [ifp (hbit.mp q)], UPD_at u, by rw [UPD_ne u (Ne.symm z.2.1)]; exact cy, nW_mul wx wy, frm_t fr (frm_1 u)⟩
    · exact ⟨xv, by rw [ifn (fun w => q (hbit.mpr w))], by rw [h1]; exact cx, by rw [h1]; exact cy, wx, by rw [h1]; exact fr⟩
  obtain ⟨x2, ex2, cx2, cy2, wx2, fr2⟩ := f2f
  rw [← ex2] at hp
  rcases h2 with ⟨q, h2⟩ | ⟨q, h2⟩
  · rw [Int32.le_iff_toInt_le] at q
    have hz : p.toInt.toNat / 2 ^ (k + 1) = 0 := by
      refine Nat.div_eq_of_lt (Nat.lt_of_lt_of_le (BL_lt (T := p.toInt.toNat)) (Nat.pow_le_pow_right (by decide) (by omega)))
    refine ⟨k + 1, x2, y, hi3, by omega, by rw [h2]; exact cx2, by rw [h2]; exact cy2, wx2, wy, by rw [h2]; exact fr2, ?_⟩
    rw [hz, pw_z] at hp
    rw [hz, pw_z, ← hp]
  · have u := h2 y y cy2 cy2 wy wy
    refine ⟨k + 1, x2, mulR y y, hi3, by omega, by rw [UPD_ne u z.2.1]; exact cx2, UPD_at u, wx2, nW_mul wy wy, frm_t fr2 (frm_3 u), ?_⟩
    rw [← hp, show 32 - (k + 1) = 31 - k by omega]
theorem rsi_e {f f1 : Nat → V3} {v1 v2 v3 : Nat} {p i r bits : Int32} (h : RSI f f1 v1 v2 v3 p i) (hr : r.toInt = 32 - (BL (ui p) : Int)) (eb : bits = 32 - r) (c : bits ≤ i) : zV v1 v2 v3 → 0 ≤ p.toInt → p.toInt ≤ 65536 → ∀ a, CA (f v1) a → (CA (f1 v1) (pw 32 p.toInt.toNat (turn a) (.inr (.inl W1))) ∧ nW (pw 32 p.toInt.toNat (turn a) (.inr (.inl W1)))) ∧ FRM f f1 v1 v2 v3 := fun z p0 p1 a ha => by
  obtain ⟨k, xv, y, hk, hk2, cx, cy, wx, wy, fr, hp⟩ := h z p0 p1 a ha
  obtain ⟨hb, hb2⟩ := rs_bits p0 p1 hr eb
  rw [Int32.le_iff_toInt_le] at c
  have hz : p.toInt.toNat / 2 ^ k = 0 := Nat.div_eq_of_lt (Nat.lt_of_lt_of_le (BL_lt (T := p.toInt.toNat)) (Nat.pow_le_pow_right (by decide) (by omega)))
  rw [hz, pw_z] at hp
  rw [← hp]; exact ⟨⟨cx, wx⟩, fr⟩
-- power
theorem powE_n {b : AV} (h : ¬ powOK b) : 3 = powE b := (ifn h).symm
theorem powE_y {b : AV} (h : powOK b) : 0 = powE b := (ifp h).symm
theorem po_1 {f : Nat → V3} {v1 v2 v3 : Nat} {r : Int32} (h : ∀ a, CA (f v2) a → CWP r a) (c : r = 0) : OPP f f v1 v2 v3 3 (fun _ b => powE b) powA := fun z a b ha hb => by
  refine ⟨powE_n ?_, fun q => absurd q (by decide), frm_i⟩
  intro q
  rcases h b hb with ⟨w, -⟩ | ⟨-, w⟩
  · rw [w] at c; exact absurd c (by decide)
  · exact w q.1
theorem po_cw {v : V3} {b : AV} {r : Int32} {t : Int64} (hb : CA v b) (h : ∀ a, CA v a → CWP r a) (c : ¬ r = 0) (e : t = v.2.1 <<< (v.2.2.toInt64 &&& 63)) : cw b ∧ t.toInt = wi b := by
  rcases h b hb with ⟨-, w⟩ | ⟨w, -⟩
  · exact ⟨w, aw_cw hb w e⟩
  · exact absurd w c
theorem Lm65 : (-65536 : Int64).toInt = -65536 := by decide
theorem Lp65 : (65536 : Int64).toInt = 65536 := by decide
theorem po_2 {f : Nat → V3} {v1 v2 v3 : Nat} {r : Int32} {t : Int64} (h : ∀ a, CA (f v2) a → CWP r a) (c : ¬ r = 0) (e : t = (f v2).2.1 <<< ((f v2).2.2.toInt64 &&& 63)) (hc : t < -65536 ∨ ¬ t ≤ 65536) : OPP f f v1 v2 v3 3 (fun _ b => powE b) powA := fun z a b ha hb => by
  obtain ⟨h1, h2⟩ := po_cw hb h c e
  refine ⟨powE_n ?_, fun q => absurd q (by decide), frm_i⟩
  rintro ⟨-, q1, q2⟩
  rw [Int64.lt_iff_toInt_lt, Int64.le_iff_toInt_le, Lm65, Lp65] at hc
  omega
theorem l2i_s {t : Int64} {v : Int32} (h1 : -65536 ≤ t.toInt) (h2 : t.toInt ≤ 65536) (e : v = t.toInt32) : v.toInt = t.toInt := by
  subst e
  rw [Int64.toInt_toInt32]; exact n_bi (by omega) (by omega)
theorem po_3 {f f1 : Nat → V3} {v1 v2 v3 : Nat} {r u : Int32} {t : Int64} (h : ∀ a, CA (f v2) a → CWP r a) (c : ¬ r = 0) (e : t = (f v2).2.1 <<< ((f v2).2.2.toInt64 &&& 63)) (c1 : ¬ t < -65536) (c2 : t ≤ 65536) (c3 : 0 ≤ t) (eu : u = t.toInt32) (h1 : zV v1 v2 v3 → 0 ≤ u.toInt → u.toInt ≤ 65536 → ∀ a, CA (f v1) a → (CA (f1 v1) (pw 32 u.toInt.toNat (turn a) (.inr (.inl W1))) ∧ nW (pw 32 u.toInt.toNat (turn a) (.inr (.inl W1)))) ∧ FRM f f1 v1 v2 v3) : OPP f f1 v1 v2 v3 0 (fun _ b => powE b) powA := fun z a b ha hb => by
  obtain ⟨k1, k2⟩ := po_cw hb h c e
  rw [Int64.lt_iff_toInt_lt, Lm65] at c1
  rw [Int64.le_iff_toInt_le, Lp65] at c2
  rw [Int64.le_iff_toInt_le, L0z] at c3
  have hu := l2i_s (by omega) c2 eu
  obtain ⟨⟨q1, -⟩, q2⟩ := h1 z (by omega) (by omega) a ha
  refine ⟨powE_y ⟨k1, by omega, by omega⟩, fun _ => ?_, q2⟩
  unfold powA
  rw [ifn (by omega), show (wi b).natAbs = u.toInt.toNat by omega]; exact q1
theorem po_4 {f f1 f2 f3 f4 : Nat → V3} {v1 v2 v3 : Nat} {r u : Int32} {t n : Int64} (h : ∀ a, CA (f v2) a → CWP r a) (c : ¬ r = 0) (e : t = (f v2).2.1 <<< ((f v2).2.2.toInt64 &&& 63)) (c1 : ¬ t < -65536) (c3 : ¬ 0 ≤ t) (en : n = -t) (eu : u = n.toInt32) (h1 : zV v1 v2 v3 → 0 ≤ u.toInt → u.toInt ≤ 65536 → ∀ a, CA (f v1) a → (CA (f1 v1) (pw 32 u.toInt.toNat (turn a) (.inr (.inl W1))) ∧ nW (pw 32 u.toInt.toNat (turn a) (.inr (.inl W1)))) ∧ FRM f f1 v1 v2 v3) (h2 : SRC 1 0 → UPD f1 f2 v3 (rndS (1 : Int64).toInt (0 : Int32).toInt)) (h3 : ∀ a b, CA (f2 v3) a → CA (f2 v1) b → nW a → nW b → UPD f2 f3 v3 (divR a b)) (h4 : f4 = va_up f3 v1 (f3 v3)) : OPP f f4 v1 v2 v3 0 (fun _ b => powE b) powA := fun z a b ha hb => by
  obtain ⟨k1, k2⟩ := po_cw hb h c e
  rw [Int64.lt_iff_toInt_lt, Lm65] at c1
  rw [Int64.le_iff_toInt_le, L0z] at c3
  have hn : n.toInt = -t.toInt := by rw [en, L_neg] ; omega
  have hu := l2i_s (t := n) (by omega) (by omega) eu
  obtain ⟨⟨q1, q1'⟩, q2⟩ := h1 z (by omega) (by omega) a ha
  have u2 := h2 src_1
  rw [one_W] at u2
  have u3 := h3 _ _ (UPD_at u2) (by rw [UPD_ne u2 z.2.1]; exact q1) trivial q1'
  have u4 : UPD f3 f4 v1 _ := ⟨_, h4, UPD_at u3⟩
  refine ⟨powE_y ⟨k1, by omega, by omega⟩, fun _ => ?_, frm_t q2 (frm_t (frm_3 u2) (frm_t (frm_3 u3) (frm_1 u4)))⟩
  unfold powA
  rw [ifp (by omega), show (wi b).natAbs = u.toInt.toNat by omega]; exact UPD_at u4
-- bits
theorem ofw_e {r : Int64} {a : AV} (h : r.toInt = wi a) : r = ofw a := by
  unfold ofw
  rw [← h, Int64.ofInt_toInt]
theorem bi_1 {f : Nat → V3} {v1 v2 v3 : Nat} {p r : Int32} (h : (∀ a, CA (f v1) a → CWP r a) ∨ (∀ a, CA (f v2) a → CWP r a)) (c : r = 0) : OPP f f v1 v2 v3 2 bitE (bitA p) := fun z a b ha hb => by
  refine ⟨(ifn ?_).symm, fun q => absurd q (by decide), frm_i⟩
  rintro ⟨q1, q2⟩
  rcases h with h | h
  · rcases h a ha with ⟨w, -⟩ | ⟨-, w⟩
    · rw [w] at c; exact absurd c (by decide)
    · exact w q1
  · rcases h b hb with ⟨w, -⟩ | ⟨-, w⟩
    · rw [w] at c; exact absurd c (by decide)
    · exact w q2
theorem bi_2 {f f2 : Nat → V3} {v1 v2 v3 : Nat} {p r s : Int32} {x y t : Int64} (h1 : ∀ a, CA (f v1) a → CWP r a) (c1 : ¬ r = 0) (h2 : ∀ a, CA (f v2) a → CWP s a) (c2 : ¬ s = 0) (ex : x = (f v1).2.1 <<< ((f v1).2.2.toInt64 &&& 63)) (ey : y = (f v2).2.1 <<< ((f v2).2.2.toInt64 &&& 63)) (ht : t = (if p = 7 then x &&& y else if p = 8 then x ||| y else if p = 9 then x ^^^ y else if p = 10 then shS x y else shS x (-y))) (h : f2 = va_up f v1 (1, t, 0)) : OPP f f2 v1 v2 v3 0 bitE (bitA p) := fun z a b ha hb => by
  obtain ⟨k1, k2⟩ := po_cw ha h1 c1 ex
  obtain ⟨k3, k4⟩ := po_cw hb h2 c2 ey
  have u : UPD f f2 v1 (bitA p a b) := ⟨_, h, by unfold bitA; rw [ht, ← ofw_e k2, ← ofw_e k4]; rfl⟩
  exact ⟨(ifp ⟨k1, k3⟩).symm, fun _ => UPD_at u, frm_1 u⟩
theorem sh_0 {x y : Int64} (h : y ≤ -64 ∨ 64 ≤ y) : 0 = shS x y := (ifp h).symm
theorem sh_l {x y r : Int64} {i : Int32} (c1 : ¬ y ≤ -64) (c2 : y < 64) (c3 : ¬ y < 0) (e1 : i = y.toInt32) (e2 : r = x <<< (i.toInt64 &&& 63)) : r = shS x y := by
  unfold shS
  rw [ifn (by rintro (q | q); exact c1 q; exact absurd c2 (Int64.not_lt.mpr q)), ifn c3, e2, e1]
theorem sh_r {x y n r : Int64} {i : Int32} (c1 : ¬ y ≤ -64) (c2 : y < 64) (c3 : y < 0) (en : n = -y) (e1 : i = n.toInt32) (e2 : r = (x.toUInt64 >>> (i.toInt64.toUInt64 &&& Int64.toUInt64 63)).toInt64) : r = shS x y := by
  unfold shS
  rw [ifn (by rintro (q | q); exact c1 q; exact absurd c2 (Int64.not_lt.mpr q)), ifp c3, e2, e1, en]
-- one operand
def OP1 (f f' : Nat → V3) (v1 v2 v3 : Nat) (r p : Int32) : Prop := zV v1 v2 v3 → ∀ a, CA (f v1) a → r = oneE p a ∧ (r = 0 → CA (f' v1) (oneA p a)) ∧ FRM f f' v1 v2 v3
theorem o_e {f f' : Nat → V3} {v1 v2 v3 : Nat} {p : Int32} (h0 : ∀ a, CA (f v1) a → oneE p a = 0) (h : ∀ a, CA (f v1) a → UPD f f' v1 (oneA p a)) : OP1 f f' v1 v2 v3 0 p := fun z a ha => ⟨(h0 a ha).symm, fun _ => UPD_at (h a ha), frm_1 (h a ha)⟩
theorem o_2 {f : Nat → V3} {v1 v2 v3 : Nat} {p r : Int32} (hp : p = 13 ∨ p = 16) (h : ∀ a, CA (f v1) a → CWP r a) (c : r = 0) : OP1 f f v1 v2 v3 2 p := fun z a ha => by
  refine ⟨(ifp ⟨hp, ?_⟩).symm, fun q => absurd q (by decide), frm_i⟩
  rcases h a ha with ⟨w, -⟩ | ⟨-, w⟩
  · rw [w] at c; exact absurd c (by decide)
  · exact w
theorem oE_n {p : Int32} {a : AV} (h : ¬ p = 13) (h2 : ¬ p = 16) : oneE p a = 0 := ifn (by rintro ⟨q | q, -⟩; exact h q; exact h2 q)
theorem oE_c {p r : Int32} {a : AV} {v : V3} (ha : CA v a) (h : ∀ a, CA v a → CWP r a) (c : ¬ r = 0) : oneE p a = 0 := by
  refine ifn ?_
  rintro ⟨-, q⟩
  rcases h a ha with ⟨-, w⟩ | ⟨w, -⟩
  · exact q w
  · exact c w
theorem oE_d {p : Int32} {a : AV} (q : Int32) (h : p = q) (h1 : ¬ q = 13) (h2 : ¬ q = 16) : oneE p a = 0 := oE_n (by rw [h]; exact h1) (by rw [h]; exact h2)
theorem o12 {f f2 : Nat → V3} {v1 : Nat} {p : Int32} (c : p = 12) (h : ∀ a, CA (f v1) a → UPD f f2 v1 (ng a)) : ∀ a, CA (f v1) a → UPD f f2 v1 (oneA p a) := fun a ha => by
  unfold oneA; rw [ifp c]; exact h a ha
theorem o13 {f f2 : Nat → V3} {v1 : Nat} {p r : Int32} {x t : Int64} (c : p = 13) (h : ∀ a, CA (f v1) a → CWP r a) (cr : ¬ r = 0) (ex : x = (f v1).2.1 <<< ((f v1).2.2.toInt64 &&& 63)) (et : t = x ^^^ -1) (h2 : f2 = va_up f v1 (1, t, 0)) : ∀ a, CA (f v1) a → UPD f f2 v1 (oneA p a) := fun a ha => by
  obtain ⟨k1, k2⟩ := po_cw ha h cr ex
  unfold oneA; rw [c, ifn (by decide), ifp rfl, ← ofw_e k2, ← et]; exact ⟨_, h2, rfl⟩
theorem o16 {f f2 : Nat → V3} {v1 : Nat} {p r : Int32} {x : Int64} (c : p = 16) (h : ∀ a, CA (f v1) a → CWP r a) (cr : ¬ r = 0) (ex : x = (f v1).2.1 <<< ((f v1).2.2.toInt64 &&& 63)) (h2 : f2 = va_up f v1 (1, x, 0)) : ∀ a, CA (f v1) a → UPD f f2 v1 (oneA p a) := fun a ha => by
  obtain ⟨k1, k2⟩ := po_cw ha h cr ex
  unfold oneA; rw [c, ifn (by decide), ifn (by decide), ifn (by decide), ifn (by decide), ifp rfl, ← ofw_e k2]; exact ⟨_, h2, rfl⟩
theorem o15 {f f2 : Nat → V3} {v1 : Nat} {p : Int32} (c : p = 15) (h : ∀ a, CA (f v1) a → UPD f f2 v1 (turn a)) : ∀ a, CA (f v1) a → UPD f f2 v1 (oneA p a) := fun a ha => by
  unfold oneA; rw [c, ifn (by decide), ifn (by decide), ifn (by decide), ifp rfl]; exact h a ha
theorem o14 {f f1 f2 : Nat → V3} {v1 : Nat} {p r : Int32} (c : p = 14) (h : ∀ a, CA (f v1) a → UPD f f1 v1 (flr a)) (hc : ∀ a, CA (f1 v1) a → CWP r a) (h2 : (r = 0 ∧ f2 = f1) ∨ (¬ r = 0 ∧ ∃ x, x = (f1 v1).2.1 <<< ((f1 v1).2.2.toInt64 &&& 63) ∧ f2 = va_up f1 v1 (1, x, 0))) : ∀ a, CA (f v1) a → UPD f f2 v1 (oneA p a) := fun a ha => by
  have u := h a ha
  have k := UPD_at u
  unfold oneA; rw [c, ifn (by decide), ifn (by decide), ifp rfl]
  rcases h2 with ⟨q, h2⟩ | ⟨q, x, ex, h2⟩
  · have : ¬ cw (flr a) := by
      rcases hc _ k with ⟨w, -⟩ | ⟨-, w⟩
      · rw [w] at q; exact absurd q (by decide)
      · exact w
    rw [ifn this, h2]; exact u
  · obtain ⟨k1, k2⟩ := po_cw k hc q ex
    rw [ifp k1, ← ofw_e k2]; exact UPD_2 u ⟨_, h2, rfl⟩
theorem o17 {f f2 : Nat → V3} {v1 : Nat} {p r : Int32} (c : ¬ p = 12 ∧ ¬ p = 13 ∧ ¬ p = 14 ∧ ¬ p = 15 ∧ ¬ p = 16) (h : ∀ a, CA (f v1) a → SG (sg a) r) (h2 : (0 ≤ r ∧ f2 = f) ∨ (¬ 0 ≤ r ∧ ∀ a, CA (f v1) a → UPD f f2 v1 (ng a))) : ∀ a, CA (f v1) a → UPD f f2 v1 (oneA p a) := fun a ha => by
  obtain ⟨c1, c2, c3, c4, c5⟩ := c
  have t := SG_t (h a ha) (sg_3 a)
  unfold oneA; rw [ifn c1, ifn c2, ifn c3, ifn c4, ifn c5]
  rcases h2 with ⟨q, h2⟩ | ⟨q, h2⟩
  · rw [Int32.le_iff_toInt_le, I0] at q
    rw [ifn (by omega), h2]; exact UPD_id ha
  · rw [Int32.le_iff_toInt_le, I0] at q
    rw [ifp (by omega)]; exact h2 a ha
-- operate
theorem RA_u {f f1 : Nat → V3} {g : Nat → Option Nat} {s : Nat → AV} {v1 v2 v3 : Nat} (z : zJ v1 v2 v3 g) (h : RA f g s) (hf : FRM f f1 v1 v2 v3) : RA f1 g s := fun j hj => by
  obtain ⟨y, e, c⟩ := h j hj
  obtain ⟨n1, n2, n3⟩ := z.2.1 j y hj e
  exact ⟨y, e, by rw [hf y n1 n2 n3]; exact c⟩
theorem RA_put {f f1 : Nat → V3} {g : Nat → Option Nat} {s : Nat → AV} {v1 v2 v3 : Nat} {p : Int32} {y : Nat} {c : AV} (z : zJ v1 v2 v3 g) (h : RA f g s) (hp : vp_in p 32) (gy : g p.toNatClampNeg = some y) (hc : CA (f v1) c) (e : f1 = va_up f y (f v1)) : RA f1 g (va_up s p.toNatClampNeg c) := fun j hj => by
  by_cases q : j = p.toNatClampNeg
  · subst q
    exact ⟨y, gy, by rw [e, va_up_self, va_up_self]; exact hc⟩
  · obtain ⟨w, e2, cw⟩ := h j hj
    refine ⟨w, e2, ?_⟩
    rw [va_up_ne _ _ q, e, va_up_ne]
    · exact cw
    · intro k
      exact q (z.2.2 j _ hj (vp_j hp) (by rw [e2, gy, k]))
theorem RA_at {f : Nat → V3} {g : Nat → Option Nat} {s : Nat → AV} {p : Int32} {y : Nat} (h : RA f g s) (hp : vp_in p 32) (gy : g p.toNatClampNeg = some y) : CA (f y) (s p.toNatClampNeg) := by
  obtain ⟨w, e, c⟩ := h _ (vp_j hp)
  rw [gy] at e
  cases e
  exact c
def OPS (p1 p2 p3 p4 : Int32) (s : Nat → AV) : Nat → AV := if opE p1 (s p3.toNatClampNeg) (s p4.toNatClampNeg) = 0 then va_up s p2.toNatClampNeg (opV p1 (s p3.toNatClampNeg) (s p4.toNatClampNeg)) else s
def OPR (f f' : Nat → V3) (v1 v2 v3 : Nat) (g : Nat → Option Nat) (p1 p2 p3 p4 r : Int32) : Prop := zJ v1 v2 v3 g → ∀ s, RA f g s → (¬ OPC p1 p2 p3 p4 → r = -1 ∧ RA f' g s) ∧ (OPC p1 p2 p3 p4 → r = opE p1 (s p3.toNatClampNeg) (s p4.toNatClampNeg) ∧ RA f' g (OPS p1 p2 p3 p4 s))
theorem opr_n {f : Nat → V3} {v1 v2 v3 : Nat} {g : Nat → Option Nat} {p1 p2 p3 p4 : Int32} (h : ¬ OPC p1 p2 p3 p4) : OPR f f v1 v2 v3 g p1 p2 p3 p4 (-1) := fun _ s hs => ⟨fun _ => ⟨rfl, hs⟩, fun q => absurd q h⟩
theorem opr_y {f f1 f2 f3 f4 : Nat → V3} {v1 v2 v3 : Nat} {g : Nat → Option Nat} {p1 p2 p3 p4 r : Int32} {ya yb : Nat} (hc : OPC p1 p2 p3 p4) (ga : g p3.toNatClampNeg = some ya) (gb : g p4.toNatClampNeg = some yb) (h1 : f1 = va_up f v1 (f ya)) (h2 : f2 = va_up f1 v2 (f1 yb)) (h : OPP f2 f3 v1 v2 v3 r (opE p1) (opV p1)) (h4 : (¬ r = 0 ∧ f4 = f3) ∨ (r = 0 ∧ ∃ yt, g p2.toNatClampNeg = some yt ∧ f4 = va_up f3 yt (f3 v1))) : OPR f f4 v1 v2 v3 g p1 p2 p3 p4 r := fun z s hs => by
  refine ⟨fun q => absurd hc q, fun _ => ?_⟩
  have ca := RA_at hs hc.2.1 ga
  have cb := RA_at hs hc.2.2.1 gb
  have na := z.2.1 _ ya (vp_j hc.2.1) ga
  have nb := z.2.1 _ yb (vp_j hc.2.2.1) gb
  have u1 : UPD f f1 v1 _ := ⟨_, h1, ca⟩
  have u2 : UPD f1 f2 v2 (s p4.toNatClampNeg) := ⟨_, h2, by rw [UPD_ne u1 nb.1]; exact cb⟩
  obtain ⟨k1, k2, k3⟩ := h z.1 _ _ (by rw [UPD_ne u2 z.1.1]; exact UPD_at u1) (UPD_at u2)
  have ra := RA_u z (RA_u z (RA_u z hs (frm_1 u1)) (frm_2 u2)) k3
  refine ⟨k1, ?_⟩
  unfold OPS
  rcases h4 with ⟨q, h4⟩ | ⟨q, yt, gt, h4⟩
  · rw [ifn (by rw [← k1]; exact q), h4]; exact ra
  · rw [ifp (by rw [← k1]; exact q)]; exact RA_put z ra hc.1 gt (k2 q) h4
theorem opp_a {f f' : Nat → V3} {v1 v2 v3 : Nat} {p r : Int32} (c : ¬ 2 < p) (h : r = 0 ∧ (zV v1 v2 v3 → ∀ a b, CA (f v1) a → CA (f v2) b → CA (f' v1) (addA p a b) ∧ FRM f f' v1 v2 v3)) : OPP f f' v1 v2 v3 r (opE p) (opV p) := fun z a b ha hb => by
  obtain ⟨q1, q2⟩ := h.2 z a b ha hb
  unfold opE opV
  rw [ifn c, ifn c]; exact ⟨h.1, fun _ => q1, q2⟩
theorem opp_d {f f' : Nat → V3} {v1 v2 v3 : Nat} {p r : Int32} (c : 2 < p) (c2 : ¬ 5 < p) (h : OPP f f' v1 v2 v3 r (divE p) (divA p)) : OPP f f' v1 v2 v3 r (opE p) (opV p) := fun z a b ha hb => by
  unfold opE opV
  rw [ifp c, ifp c, ifn c2, ifn c2]; exact h z a b ha hb
theorem opp_p {f f' : Nat → V3} {v1 v2 v3 : Nat} {p r : Int32} (c3 : p = 6) (h : OPP f f' v1 v2 v3 r (fun _ b => powE b) powA) : OPP f f' v1 v2 v3 r (opE p) (opV p) := fun z a b ha hb => by
  subst c3
  exact h z a b ha hb
theorem opp_b {f f' : Nat → V3} {v1 v2 v3 : Nat} {p r : Int32} (c : 2 < p) (c2 : 5 < p) (c3 : ¬ p = 6) (c4 : ¬ 11 < p) (h : OPP f f' v1 v2 v3 r bitE (bitA p)) : OPP f f' v1 v2 v3 r (opE p) (opV p) := fun z a b ha hb => by
  unfold opE opV
  rw [ifp c, ifp c, ifp c2, ifp c2, ifn c3, ifn c3, ifn c4, ifn c4]; exact h z a b ha hb
theorem opp_1 {f f' : Nat → V3} {v1 v2 v3 : Nat} {p r : Int32} (c : 2 < p) (c2 : 5 < p) (c3 : ¬ p = 6) (c4 : 11 < p) (h : OP1 f f' v1 v2 v3 r p) : OPP f f' v1 v2 v3 r (opE p) (opV p) := fun z a b ha hb => by
  unfold opE opV
  rw [ifp c, ifp c, ifp c2, ifp c2, ifn c3, ifn c3, ifp c4, ifp c4]; exact h z a ha
end
