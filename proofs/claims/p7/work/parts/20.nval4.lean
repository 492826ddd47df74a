noncomputable section
theorem ac1 {G T y U : Nat} (h8 : G % 256 = 0) (hG : 2305843009213693952 ≤ G) : RT ((stk G 1 + stk T (y + 1)) * 2 ^ (U + (y + 1))) false = RT (G * 2 ^ (U + y) + T * 2 ^ U) false := by
  have e1 : stk G 1 = G / 2 := by unfold stk; rw [Nat.pow_one, ifp (by omega)]
  have e2 : G * 2 ^ (U + y) = G / 2 * 2 ^ (U + (y + 1)) := by
    conv => lhs; rw [show G = G / 2 * 2 by omega]
    rw [Nat.mul_assoc, Nat.mul_comm 2, ← Nat.pow_succ]
    rfl
  have hs : 2 ^ 54 ≤ G / 2 + T / 2 ^ (y + 1) := by
    rw [show (2 : Nat) ^ 54 = 18014398509481984 by decide]
    generalize T / 2 ^ (y + 1) = q
    omega
  rw [e1, e2, core1 (Nat.le_trans (by decide) hs)]
  unfold stk
  by_cases z : T % 2 ^ (y + 1) = 0
  · rw [ifp z, decide_eq_false (fun q => q z)]
  · rw [ifn z, decide_eq_true z, ← RT_or hs]
    congr 2
    generalize T / 2 ^ (y + 1) = q
    omega
theorem ac2 {G T y U : Nat} (h8 : G % 256 = 0) (hG : 2305843009213693952 ≤ G) (t8 : T % 256 = 0) (hT : T < 4611686018427387904) : RT ((G - stk T y) * 2 ^ (U + y)) false = RT (G * 2 ^ (U + y) - T * 2 ^ U) false := by
  unfold stk
  by_cases z : T % 2 ^ y = 0
  · rw [ifp z, core2 z]
  · have hy : 9 ≤ y := by
      rcases Nat.lt_or_ge y 9 with q | q
      · exfalso
        apply z
        obtain ⟨k, hk⟩ : ∃ k, 8 = y + k := ⟨8 - y, by omega⟩
        rw [show 256 = 2 ^ y * 2 ^ k by rw [← Nat.pow_add, ← hk]] at t8
        have := Nat.mod_mul_right_mod T (2 ^ y) (2 ^ k)
        rw [t8, Nat.zero_mod] at this
        exact this.symm
      · exact q
    have hq : T / 2 ^ y ≤ T / 2 ^ 9 := Nat.div_le_div_left (Nat.pow_le_pow_right (by decide) hy) (by decide)
    rw [show (2 : Nat) ^ 9 = 512 by decide] at hq
    have hs : 2 ^ 54 ≤ G - (T / 2 ^ y + 1) := by
      rw [show (2 : Nat) ^ 54 = 18014398509481984 by decide]
      generalize T / 2 ^ y = q at *
      omega
    rw [ifn z, core3 z (Nat.le_trans (by decide) hs), ← RT_or hs]
    congr 2
    generalize T / 2 ^ y = q at *
    omega
theorem GR_abs (n : Int64) (e : Int32) : (sc n.toInt e.toInt).natAbs = n.toInt.natAbs * 2 ^ (e.toInt + (OFF : Int)).toNat := by
  rw [sc, Int.natAbs_mul, Int.natAbs_pow]; rfl
def ADV (A : Int) (a : Int64) (x : Int32) : Prop := (2305843009213693952 ≤ a.toInt ∧ a.toInt < 4611686018427387904) ∧ (a.toInt.toNat % 256 = 0) ∧ (A.natAbs = a.toInt.toNat * 2 ^ (x.toInt + (OFF : Int)).toNat)
theorem ADV.rg {A : Int} {a : Int64} {x : Int32} (F9 : ADV A a x) : 2305843009213693952 ≤ a.toInt ∧ a.toInt < 4611686018427387904 := F9.1
theorem ADV.h8 {A : Int} {a : Int64} {x : Int32} (F9 : ADV A a x) : a.toInt.toNat % 256 = 0 := F9.2.1
theorem ADV.hv {A : Int} {a : Int64} {x : Int32} (F9 : ADV A a x) : A.natAbs = a.toInt.toNat * 2 ^ (x.toInt + (OFF : Int)).toNat := F9.2.2
theorem adv_of {n r1 r2 a : Int64} {e u x : Int32} (g : GR n e) (c : ¬ n = 0) (h1 : -9223372036854775808 < n.toInt → r1.toInt = n.toInt.natAbs) (hu : RMX r1 u) (h2 : -9223372036854775808 < n.toInt → r2.toInt = n.toInt.natAbs) (ea : a = r2 <<< (u.toInt64 &&& 63)) (ex : x = e - u) : ADV (sc n.toInt e.toInt) a x := by
  have rg := ad_a g c h1 hu h2 ea
  have b1 := (sz_b g h1)
  have b2 := (sz_b g h2)
  have ge := GR_e g
  obtain ⟨w, q1, q2, q3, q4⟩ := hu
  have hO : (OFF : Int) = 6000 := rfl
  have hx : x.toInt = e.toInt - u.toInt := by rw [ex, I_sub] <;> omega
  have ha : a.toInt = ((n.toInt.natAbs * 2 ^ w : Nat) : Int) := by
    rw [ea]
    refine L_shlN (by rw [b2.2.2]) q1 (by omega) ?_
    rw [b1.2.2, Int.toNat_natCast] at q3; omega
  have hw : 8 ≤ w := by
    rcases Nat.lt_or_ge w 8 with z | z
    · exfalso
      have : n.toInt.natAbs * 2 ^ w ≤ 9007199254740992 * 2 ^ 7 := Nat.mul_le_mul (by omega) (Nat.pow_le_pow_right (by decide) (by omega))
      rw [show (2 : Nat) ^ 7 = 128 by decide] at this
      omega
    · exact z
  refine ⟨rg, ?_, ?_⟩
  · rw [ha, Int.toNat_natCast]
    obtain ⟨k, rfl⟩ : ∃ k, w = 8 + k := ⟨w - 8, by omega⟩
    rw [Nat.pow_add, show (2 : Nat) ^ 8 = 256 by decide, ← Nat.mul_assoc, Nat.mul_comm n.toInt.natAbs, Nat.mul_assoc]
    exact Nat.mul_mod_right _ _
  · rw [GR_abs, ha, Int.toNat_natCast, Nat.mul_assoc, ← Nat.pow_add]
    congr 2
    omega
theorem adn_s {A B : Int} {g s r1 r2 t : Int64} {x xs y y1 x1 : Int32} (F : ADV A g x) (H : ADV B s xs) (hxs : -1135 ≤ xs.toInt) (hby : y.toInt = x.toInt - xs.toInt) (hy0 : 0 ≤ y.toInt ∧ y.toInt ≤ 3000) (hx : -1135 ≤ x.toInt ∧ x.toInt ≤ 1024) (d1 : DNV g 1 r1) (ey : y1 = y + 1) (d2 : DNV s y1 r2) (n1 : 0 ≤ r1.toInt ∧ r1.toInt < 2305843009213693952) (n2 : 0 ≤ r2.toInt ∧ r2.toInt < 2305843009213693952) (et : t = r1 + r2) (e1 : x1 = x + 1) (hs : A.sign = B.sign) (a0 : A ≠ 0) (b0 : B ≠ 0) : RT (t.toInt.toNat * 2 ^ (x1.toInt + (OFF : Int)).toNat) false = RT (A + B).natAbs false := by
  have hO : (OFF : Int) = 6000 := rfl
  have k1 := d1 (by have := F.rg; omega)
  have k2 := d2 (by have := H.rg; omega)
  rw [I1] at k1
  have hy1 : y1.toInt = y.toInt + 1 := by rw [ey, I_add, I1] <;> (try rw [I1]) <;> omega
  have hx1 : x1.toInt = x.toInt + 1 := by rw [e1, I_add, I1] <;> (try rw [I1]) <;> omega
  have ht : t.toInt.toNat = r1.toInt.toNat + r2.toInt.toNat := by
    have : t.toInt = r1.toInt + r2.toInt := by rw [et, L_add] <;> omega
    omega
  have hab : (A + B).natAbs = A.natAbs + B.natAbs := by
    rcases sign_c A with p | p | p <;> rcases sign_c B with q | q | q <;> omega
  obtain ⟨U, hU⟩ : ∃ U : Nat, xs.toInt + (OFF : Int) = U := ⟨(xs.toInt + (OFF : Int)).toNat, by omega⟩
  obtain ⟨Y, hY⟩ : ∃ Y : Nat, y.toInt = Y := ⟨y.toInt.toNat, by omega⟩
  rw [hab, F.hv, H.hv, ht, k1, k2, show (x1.toInt + (OFF : Int)).toNat = U + (Y + 1) by omega, show (x.toInt + (OFF : Int)).toNat = U + Y by omega, show (xs.toInt + (OFF : Int)).toNat = U by omega, show y1.toInt.toNat = Y + 1 by omega]
  exact ac1 F.h8 (by have := F.rg; omega)
theorem adv_le {A B : Int} {g s : Int64} {x xs y : Int32} (F : ADV A g x) (H : ADV B s xs) (hxs : -1135 ≤ xs.toInt) (hx : -1135 ≤ x.toInt) (sw : SWP xs x s g) : B.natAbs ≤ A.natAbs := by
  have hO : (OFF : Int) = 6000 := rfl
  have r1 := F.rg
  have r2 := H.rg
  rw [F.hv, H.hv]
  rcases sw with h | ⟨h, h2⟩
  · obtain ⟨d, hd⟩ : ∃ d, (x.toInt + (OFF : Int)).toNat = (xs.toInt + (OFF : Int)).toNat + 1 + d := ⟨(x.toInt - xs.toInt - 1).toNat, by omega⟩
    rw [hd, Nat.pow_add, Nat.pow_add, Nat.pow_one]
    have P2 := Nat.two_pow_pos d
    have e : g.toInt.toNat * (2 ^ (xs.toInt + (OFF : Int)).toNat * 2 * 2 ^ d) = g.toInt.toNat * 2 * 2 ^ d * 2 ^ (xs.toInt + (OFF : Int)).toNat := by simp only [Nat.mul_assoc, Nat.mul_comm, Nat.mul_left_comm]
    rw [e]
    refine Nat.mul_le_mul_right _ ?_
    have : g.toInt.toNat * 2 * 1 ≤ g.toInt.toNat * 2 * 2 ^ d := Nat.mul_le_mul_left _ P2
    omega
  · rw [show (xs.toInt + (OFF : Int)).toNat = (x.toInt + (OFF : Int)).toNat by omega]
    exact Nat.mul_le_mul_right _ (by omega)
theorem adn_d {A B : Int} {g s r t : Int64} {x xs y : Int32} (F : ADV A g x) (H : ADV B s xs) (hxs : -1135 ≤ xs.toInt) (hby : y.toInt = x.toInt - xs.toInt) (hy0 : 0 ≤ y.toInt ∧ y.toInt ≤ 3000) (hx : -1135 ≤ x.toInt ∧ x.toInt ≤ 1024) (sw : SWP xs x s g) (dn : DN s y r) (d2 : DNV s y r) (et : t = g - r) (hs : ¬ A.sign = B.sign) (a0 : A ≠ 0) (b0 : B ≠ 0) : RT (t.toInt.toNat * 2 ^ (x.toInt + (OFF : Int)).toNat) false = RT (A + B).natAbs false := by
  have hO : (OFF : Int) = 6000 := rfl
  have hle := adv_le (y := y) F H hxs hx.1 sw
  have k2 := d2 (by have := H.rg; omega)
  have rg := F.rg
  have rs := H.rg
  have hr0 : r.toInt ≤ g.toInt := by
    rcases sw with h | ⟨h, h'⟩
    · have := dn.2.2 (by omega); omega
    · rw [dn.2.1 (by omega)]; exact h'
  have hr1 := dn.1
  have ht : t.toInt.toNat = g.toInt.toNat - r.toInt.toNat := by
    have : t.toInt = g.toInt - r.toInt := by rw [et, L_sub] <;> omega
    omega
  obtain ⟨U, hU⟩ : ∃ U : Nat, xs.toInt + (OFF : Int) = U := ⟨(xs.toInt + (OFF : Int)).toNat, by omega⟩
  obtain ⟨Y, hY⟩ : ∃ Y : Nat, y.toInt = Y := ⟨y.toInt.toNat, by omega⟩
  rw [as_d a0 b0 hs hle, F.hv, H.hv, ht, k2, show (x.toInt + (OFF : Int)).toNat = U + Y by omega, show (xs.toInt + (OFF : Int)).toNat = U by omega, show y.toInt.toNat = Y by omega]
  exact ac2 F.h8 (by omega) H.h8 (by omega)
theorem ad_fin {k e : Int32} {n : Int64} {A B : Int} {T : Nat} (p : Int32) (a0 : A ≠ 0) (b0 : B ≠ 0) (hR : RT T false = RT (A + B).natAbs false) (hp : (bb p = decide (A < 0) ∧ B.natAbs ≤ A.natAbs) ∨ (bb p = decide (B < 0) ∧ A.natAbs ≤ B.natAbs)) (h : MA k n e (rnd (bb p) T false)) : MA k n e (addR (.inr (.inl A)) (.inr (.inl B))) := by
  show MA k n e (if A = 0 then _ else if B = 0 then _ else _)
  rw [ifn a0, ifn b0]
  have e9 : rnd (bb p) T false = rnd (decide (A + B < 0)) (A + B).natAbs false := by
    rcases hp with ⟨q, hle⟩ | ⟨q, hle⟩
    · rw [← rnd_sgn hle, q]; unfold rnd; rw [hR]
    · rw [Int.add_comm A B, ← rnd_sgn hle, q]; unfold rnd; rw [hR, Int.add_comm A B]
  rw [← e9]; exact h
theorem sc_n0 {n : Int64} {e : Int32} (h : ¬ n = 0) : sc n.toInt e.toInt ≠ 0 := by
  have h1 := L_ne0 h
  intro q
  rcases Int.mul_eq_zero.mp q with z | z
  · exact h1 z
  · have := ip_pos (e.toInt + (OFF : Int)).toNat; omega
theorem sc_neg {n : Int64} {e : Int32} : sc n.toInt e.toInt < 0 ↔ n.toInt < 0 := by
  have h1 : (sc n.toInt e.toInt).sign = n.toInt.sign := sc_sign
  rcases sign_c (sc n.toInt e.toInt) with p | p | p <;> rcases sign_c n.toInt with q | q | q <;> constructor <;> intro _ <;> omega
theorem sn_p {n : Int64} {e : Int32} (c : 0 ≤ n) : bb 0 = decide (sc n.toInt e.toInt < 0) := by
  rw [Int64.le_iff_toInt_le, L0] at c
  rw [decide_eq_false (fun q => by have := sc_neg.mp q; omega)]; rfl
theorem sn_m {n : Int64} {e : Int32} (c : ¬ 0 ≤ n) : bb 1 = decide (sc n.toInt e.toInt < 0) := by
  rw [Int64.le_iff_toInt_le, L0] at c
  rw [decide_eq_true (sc_neg.mpr (by omega))]; rfl
/-- signs alike, or not, by the tests n < 0 -/
theorem sg_pp {n m : Int64} {e f : Int32} (c : 0 ≤ n) (d : 0 ≤ m) (hn : ¬ n = 0) (hm : ¬ m = 0) : (sc n.toInt e.toInt).sign = (sc m.toInt f.toInt).sign := by
  rw [Int64.le_iff_toInt_le, L0] at c d
  have := L_ne0 hn
  have := L_ne0 hm
  rw [sc_sign, sc_sign, Int.sign_eq_one_of_pos (by omega), Int.sign_eq_one_of_pos (by omega)]
theorem sg_mm {n m : Int64} {e f : Int32} (c : ¬ 0 ≤ n) (d : ¬ 0 ≤ m) : (sc n.toInt e.toInt).sign = (sc m.toInt f.toInt).sign := by
  rw [Int64.le_iff_toInt_le, L0] at c d
  rw [sc_sign, sc_sign, Int.sign_eq_neg_one_of_neg (by omega), Int.sign_eq_neg_one_of_neg (by omega)]
theorem sg_pm {n m : Int64} {e f : Int32} (c : 0 ≤ n) (d : ¬ 0 ≤ m) : ¬ (sc n.toInt e.toInt).sign = (sc m.toInt f.toInt).sign := by
  rw [Int64.le_iff_toInt_le, L0] at c d
  rw [sc_sign, sc_sign, Int.sign_eq_neg_one_of_neg (show m.toInt < 0 by omega)]
  rcases sign_c n.toInt with q | q | q <;> omega
theorem sg_mp {n m : Int64} {e f : Int32} (c : ¬ 0 ≤ n) (d : 0 ≤ m) : ¬ (sc n.toInt e.toInt).sign = (sc m.toInt f.toInt).sign := fun q => sg_pm (e := f) (f := e) d c q.symm
theorem ad_z1 {k e ea eb : Int32} {n na nb : Int64} (c : na = 0) (h : k = 2 ∧ GR n e) (hv : sc n.toInt e.toInt = sc nb.toInt eb.toInt) : MA k n e (addR (.inr (.inl (sc na.toInt ea.toInt))) (.inr (.inl (sc nb.toInt eb.toInt)))) := by
  show MA k n e (if sc na.toInt ea.toInt = 0 then _ else _)
  rw [ifp (by rw [c, L0, sc_0])]; exact ma_r h hv
theorem ad_z2 {k e ea eb : Int32} {n na nb : Int64} (ca : ¬ na = 0) (c : nb = 0) (h : k = 2 ∧ GR n e) (hv : sc n.toInt e.toInt = sc na.toInt ea.toInt) : MA k n e (addR (.inr (.inl (sc na.toInt ea.toInt))) (.inr (.inl (sc nb.toInt eb.toInt)))) := by
  show MA k n e (if sc na.toInt ea.toInt = 0 then _ else if sc nb.toInt eb.toInt = 0 then _ else _)
  rw [ifn (sc_n0 ca), ifp (by rw [c, L0, sc_0])]; exact ma_r h hv
-- quotient
theorem RMX_e {p a : Int64} {r : Int32} (hp : 0 < p.toInt) (h : RMX p r) (e : a = p <<< (r.toInt64 &&& 63)) : ∃ u : Nat, r.toInt = u ∧ u ≤ 61 ∧ a.toInt = ((p.toInt.toNat * 2 ^ u : Nat) : Int) := by
  obtain ⟨u, h1, h2, h3, h4⟩ := h
  exact ⟨u, h1, h2, by rw [e]; exact L_shlN (L_natP (by omega)) h1 (by omega) (by omega)⟩
theorem RMX_u {p : Int64} {r s : Int32} (hp : 0 < p.toInt) (h : RMX p r) (g : RMX p s) : r = s := by
  obtain ⟨u, h1, h2, h3, h4⟩ := h
  obtain ⟨w, g1, g2, g3, g4⟩ := g
  apply Int32.toInt_inj.mp
  rcases Nat.lt_trichotomy u w with q | q | q
  · exfalso
    obtain ⟨d, rfl⟩ : ∃ d, w = u + 1 + d := ⟨w - u - 1, by omega⟩
    rw [Nat.pow_add, Nat.pow_add, Nat.pow_one, ← Nat.mul_assoc, ← Nat.mul_assoc] at g3
    have := Nat.two_pow_pos d
    have : p.toInt.toNat * 2 ^ u * 2 * 1 ≤ p.toInt.toNat * 2 ^ u * 2 * 2 ^ d := Nat.mul_le_mul_left _ this
    omega
  · omega
  · exfalso
    obtain ⟨d, rfl⟩ : ∃ d, u = w + 1 + d := ⟨u - w - 1, by omega⟩
    rw [Nat.pow_add, Nat.pow_add, Nat.pow_one, ← Nat.mul_assoc, ← Nat.mul_assoc] at h3
    have := Nat.two_pow_pos d
    have : p.toInt.toNat * 2 ^ w * 2 * 1 ≤ p.toInt.toNat * 2 ^ w * 2 * 2 ^ d := Nat.mul_le_mul_left _ this
    omega
def QV (X y x b : Int64) (i : Int32) : Prop := ∃ k : Nat, i.toInt = k ∧ X.toInt * 2 ^ k = b.toInt * (2 * y.toInt) + x.toInt
theorem qv_0 {X y : Int64} : QV X y X 0 0 := ⟨0, I0, by rw [L0, Int.pow_zero, Int.zero_mul]; omega⟩
theorem qv_s1 {X y x b b1 b2 x1 x2 : Int64} {i i2 : Int32} (hy : 2305843009213693952 ≤ y.toInt ∧ y.toInt < 4611686018427387904) (hq : QB y x b i) (h : QV X y x b i) (c : ¬ 62 ≤ i) (e1 : b1 = b <<< ((1 : Int32).toInt64 &&& 63)) (cx : ¬ x < y) (eb : b2 = b1 ||| 1) (ex : x1 = x - y) (ex2 : x2 = x1 <<< ((1 : Int32).toInt64 &&& 63)) (ei : i2 = i + Int32.ofInt 1) : QV X y x2 b2 i2 := by
  obtain ⟨q1, q2, q3⟩ := qb_1 hq c e1
  obtain ⟨h1, h2, h3, h4, h5, h6⟩ := hq
  obtain ⟨k, hk, hv⟩ := h
  rw [Int64.lt_iff_toInt_lt] at cx
  have hi := qb_i q3 h3 ei
  have hx1 : x1.toInt = x.toInt - y.toInt := by rw [ex, L_sub] <;> omega
  have hx2 := qb_x (by omega) (by omega) ex2
  have hb : b2.toInt = b1.toInt + (1 - b1.toInt % 2) := by rw [eb]; exact L_or1 (by omega)
  have hb2 : b2.toInt = 2 * b.toInt + 1 := by omega
  refine ⟨k + 1, by omega, ?_⟩
  rw [Int.pow_succ, ← Int.mul_assoc, hv, hb2, hx2, hx1, Int.add_mul (2 * b.toInt), Int.mul_assoc 2]
  omega
theorem qv_s2 {X y x b b1 x2 : Int64} {i i2 : Int32} (hy : 2305843009213693952 ≤ y.toInt ∧ y.toInt < 4611686018427387904) (hq : QB y x b i) (h : QV X y x b i) (c : ¬ 62 ≤ i) (e1 : b1 = b <<< ((1 : Int32).toInt64 &&& 63)) (cx : x < y) (ex2 : x2 = x <<< ((1 : Int32).toInt64 &&& 63)) (ei : i2 = i + Int32.ofInt 1) : QV X y x2 b1 i2 := by
  obtain ⟨q1, q2, q3⟩ := qb_1 hq c e1
  obtain ⟨h1, h2, h3, h4, h5, h6⟩ := hq
  obtain ⟨k, hk, hv⟩ := h
  rw [Int64.lt_iff_toInt_lt] at cx
  have hi := qb_i q3 h3 ei
  have hx2 := qb_x (by omega) (by omega) ex2
  refine ⟨k + 1, by omega, ?_⟩
  rw [Int.pow_succ, ← Int.mul_assoc, hv, q1, hx2, Int.mul_assoc 2]
  omega
def QTD (a b : Nat) (bits : Int64) (scale : Int32) : Prop := ∃ ua ub q r : Nat, ua ≤ 61 ∧ ub ≤ 61 ∧ q * (b * 2 ^ ub) + r = a * 2 ^ ua * 2 ^ 61 ∧ r < b * 2 ^ ub ∧ 2 ^ 54 ≤ q ∧ scale.toInt = (ub : Int) - ua - 61 ∧ bits.toInt.toNat = (if r = 0 then q else q + (1 - q % 2))
theorem qt_e {a b X Y x bt b2 : Int64} {ra rb ra2 rb2 i s0 s1 : Int32} (ha : 0 < a.toInt) (hb : 0 < b.toInt) (h1 : RMX a ra) (eX : X = a <<< (ra.toInt64 &&& 63)) (h2 : RMX b rb) (eY : Y = b <<< (rb.toInt64 &&& 63)) (h3 : RMX b rb2) (h4 : RMX a ra2) (es : s0 = rb2 - ra2) (hq : QB Y x bt i) (hv : QV X Y x bt i) (c : 62 ≤ i) (es1 : s1 = s0 - 61) (hb2 : (x = 0 ∧ b2 = bt) ∨ (¬ x = 0 ∧ b2 = bt ||| 1)) : QTD a.toInt.toNat b.toInt.toNat b2 s1 := by
  have hXr := RMX_v ha rfl h1 eX
  have hYr := RMX_v hb rfl h2 eY
  obtain ⟨ua, u1, u2, u3⟩ := RMX_e ha h1 eX
  obtain ⟨ub, w1, w2, w3⟩ := RMX_e hb h2 eY
  have e1 := RMX_u hb h3 h2
  have e2 := RMX_u ha h4 h1
  subst e1; subst e2
  have hs0 : s0.toInt = rb2.toInt - ra2.toInt := by rw [es, I_sub] <;> omega
  have h61 : (61 : Int32).toInt = 61 := by decide
  have hs1 : s1.toInt = s0.toInt - 61 := by rw [es1, I_sub, h61] <;> (try rw [h61]) <;> omega
  obtain ⟨k, hk, hv⟩ := hv
  obtain ⟨q1, q2, q3, q4, q5, q6⟩ := hq
  rw [Int32.le_iff_toInt_le, show (62 : Int32).toInt = 62 by decide] at c
  have k62 : k = 62 := by omega
  subst k62
  rw [show (2 : Int) ^ 62 = 4611686018427387904 by decide] at hv
  have key : bt.toInt * Y.toInt + x.toInt / 2 = X.toInt * 2305843009213693952 ∧ x.toInt % 2 = 0 := by
    have : bt.toInt * (2 * Y.toInt) = 2 * (bt.toInt * Y.toInt) := by rw [← Int.mul_assoc, Int.mul_comm bt.toInt, Int.mul_assoc]
    rw [this] at hv
    generalize bt.toInt * Y.toInt = z at *
    omega
  obtain ⟨q, hq⟩ : ∃ q : Nat, bt.toInt = q := ⟨bt.toInt.toNat, by omega⟩
  have hY2 : Y.toInt.toNat = b.toInt.toNat * 2 ^ ub := by rw [w3, Int.toNat_natCast]
  have hX2 : X.toInt.toNat = a.toInt.toNat * 2 ^ ua := by rw [u3, Int.toNat_natCast]
  have keyN : q * Y.toInt.toNat + (x.toInt / 2).toNat = X.toInt.toNat * 2305843009213693952 := by
    have h9 : ((q * Y.toInt.toNat : Nat) : Int) = bt.toInt * Y.toInt := by
      rw [hq]; push_cast; rw [show ((Y.toInt.toNat : Nat) : Int) = Y.toInt by omega]
    have k1 := key.1
    rw [← h9] at k1
    generalize q * Y.toInt.toNat = z at *
    omega
  have qge : 2 ^ 54 ≤ q := by
    rw [show (2 : Nat) ^ 54 = 18014398509481984 by decide]
    rcases Nat.lt_or_ge q 18014398509481984 with z | z
    · exfalso
      have : q * Y.toInt.toNat ≤ 18014398509481983 * 4611686018427387903 := Nat.mul_le_mul (by omega) (by omega)
      omega
    · exact z
  refine ⟨ua, ub, q, (x.toInt / 2).toNat, u2, w2, ?_, ?_, qge, by omega, ?_⟩
  · rw [← hY2, ← hX2, show (2 : Nat) ^ 61 = 2305843009213693952 by decide]; exact keyN
  · rw [← hY2]; omega
  · rcases hb2 with ⟨z, e⟩ | ⟨z, e⟩
    · rw [z, L0] at *
      rw [ifp (by decide), e]; omega
    · have := L_ne0 z
      rw [ifn (by omega)]
      have h9 := L_or1 (x := bt) (by omega)
      rw [← e] at h9
      omega
theorem divcoreG {N D q r K m : Nat} (h : q * D + r = N * 2 ^ m) (hr : r < D) (hq : 2 ^ 53 ≤ q) : RT (N * 2 ^ (m + K) / D) (decide (N * 2 ^ (m + K) % D ≠ 0)) = RT (q * 2 ^ K) (decide (r ≠ 0)) := by
  have hD : 0 < D := by omega
  have e : N * 2 ^ (m + K) = r * 2 ^ K + D * (q * 2 ^ K) := by
    rw [Nat.pow_add, ← Nat.mul_assoc, ← h, Nat.add_mul, Nat.add_comm]
    congr 1
    rw [Nat.mul_comm q D, Nat.mul_assoc]
  rw [e, Nat.add_mul_div_left _ _ hD, Nat.add_mul_mod_self_left, Nat.add_comm]
  refine RT_st hq ?_ ?_
  · rw [Nat.div_lt_iff_lt_mul hD, Nat.mul_comm (2 ^ K)]
    exact Nat.mul_lt_mul_of_pos_right hr (Nat.two_pow_pos K)
  · have P := Nat.two_pow_pos K
    rw [decide_eq_true_iff, decide_eq_true_iff]
    have w := Nat.div_add_mod (r * 2 ^ K) D
    constructor
    · intro z
      by_cases y : r * 2 ^ K / D = 0
      · right
        intro u
        rw [y, u, Nat.mul_zero] at w
        rcases Nat.mul_eq_zero.mp w.symm with t | t
        · exact z t
        · omega
      · left; exact y
    · intro z y
      rw [y, Nat.zero_mul, Nat.zero_div, Nat.zero_mod] at z
      rcases z with z | z <;> exact z rfl
/-- the reference's quotient is the rounded one -/
theorem qt_R {na nb bits : Int64} {ea eb sc1 x y : Int32} (ga : GR na ea) (gb : GR nb eb) (a0 : ¬ na = 0) (b0 : ¬ nb = 0) (h : QTD na.toInt.natAbs nb.toInt.natAbs bits sc1) (ex : x = ea - eb) (ey : y = x + sc1) : RT (bits.toInt.toNat * 2 ^ (y.toInt + (OFF : Int)).toNat) false = RT ((sc na.toInt ea.toInt).natAbs * W1 / (sc nb.toInt eb.toInt).natAbs) (decide ((sc na.toInt ea.toInt).natAbs * W1 % (sc nb.toInt eb.toInt).natAbs ≠ 0)) := by
  obtain ⟨ua, ub, q, r, h1, h2, h3, h4, h5, h6, h7⟩ := h
  have hO : (OFF : Int) = 6000 := rfl
  have hO' : OFF = 6000 := rfl
  have e1 := GR_e ga
  have e2 := GR_e gb
  have X1 : x.toInt = ea.toInt - eb.toInt := by rw [ex, I_sub] <;> omega
  have Y1 : y.toInt = x.toInt + sc1.toInt := by rw [ey, I_add] <;> omega
  obtain ⟨K, hK⟩ : ∃ K : Nat, y.toInt + (OFF : Int) = K := ⟨(y.toInt + (OFF : Int)).toNat, by omega⟩
  obtain ⟨za, hza⟩ : ∃ z : Nat, ea.toInt + (OFF : Int) = z := ⟨(ea.toInt + (OFF : Int)).toNat, by omega⟩
  obtain ⟨zb, hzb⟩ : ∃ z : Nat, eb.toInt + (OFF : Int) = z := ⟨(eb.toInt + (OFF : Int)).toNat, by omega⟩
  have D := divcoreG (K := K) h3 h4 (Nat.le_trans (by decide) h5)
  have s1 : RT (bits.toInt.toNat * 2 ^ K) false = RT (q * 2 ^ K) (decide (r ≠ 0)) := by
    rw [h7]
    by_cases z : r = 0
    · rw [ifp z, decide_eq_false (fun w => w z)]
    · rw [ifn z, decide_eq_true z, RT_or h5]
  rw [show (y.toInt + (OFF : Int)).toNat = K by omega, s1, ← D, GR_abs, GR_abs, show (ea.toInt + (OFF : Int)).toNat = za by omega, show (eb.toInt + (OFF : Int)).toNat = zb by omega, W1_e2]
  have P := Nat.two_pow_pos ub
  have Q := Nat.two_pow_pos zb
  generalize na.toInt.natAbs = a
  generalize nb.toInt.natAbs = b
  have eN : a * 2 ^ ua * 2 ^ (61 + K) * 2 ^ zb = a * 2 ^ za * 2 ^ OFF * 2 ^ ub := by
    simp only [Nat.mul_assoc, ← Nat.pow_add]
    congr 2
    omega
  have eD : b * 2 ^ ub * 2 ^ zb = b * 2 ^ zb * 2 ^ ub := Nat.mul_right_comm _ _ _
  generalize (2 : Nat) ^ OFF = o at eN ⊢
  have d1 : a * 2 ^ ua * 2 ^ (61 + K) / (b * 2 ^ ub) = a * 2 ^ za * o / (b * 2 ^ zb) := by
    rw [← Nat.mul_div_mul_right _ _ Q, eN, eD, Nat.mul_div_mul_right _ _ P]
  have d2 : (a * 2 ^ ua * 2 ^ (61 + K) % (b * 2 ^ ub)) * 2 ^ zb = (a * 2 ^ za * o % (b * 2 ^ zb)) * 2 ^ ub := by
    rw [← Nat.mul_mod_mul_right, ← Nat.mul_mod_mul_right, eN, eD]
  have d3 : decide (a * 2 ^ ua * 2 ^ (61 + K) % (b * 2 ^ ub) ≠ 0) = decide (a * 2 ^ za * o % (b * 2 ^ zb) ≠ 0) := by
    generalize a * 2 ^ ua * 2 ^ (61 + K) % (b * 2 ^ ub) = z1 at d2 ⊢
    generalize a * 2 ^ za * o % (b * 2 ^ zb) = z2 at d2 ⊢
    by_cases z : z1 = 0
    · rw [z, Nat.zero_mul] at d2
      have : z2 = 0 := by
        rcases Nat.mul_eq_zero.mp d2.symm with t | t
        · exact t
        · omega
      rw [z, this]
    · have : z2 ≠ 0 := fun y => by
        rw [y, Nat.zero_mul] at d2
        rcases Nat.mul_eq_zero.mp d2 with t | t
        · exact z t
        · omega
      rw [decide_eq_true z, decide_eq_true this]
  rw [d1, d3]
-- rest
def RSV (A B : Int) (bits : Int64) (scale : Int32) : Prop := bits.toInt.toNat * 2 ^ (scale.toInt + (OFF : Int)).toNat = A.natAbs % B.natAbs
def RQ (a b bits : Int64) (i : Int32) : Prop := ∃ k : Nat, i.toInt = k ∧ bits.toInt = ((a.toInt.toNat * 2 ^ k % b.toInt.toNat : Nat) : Int)
theorem L_rem {a b v : Int64} {A B : Nat} (ha : a.toInt = A) (hb : b.toInt = B) (hB : B ≠ 0) (e : v = a - a / b * b) : v.toInt = ((A % B : Nat) : Int) := by
  rw [L_remv (by omega) (by omega) e, ha, hb]; push_cast; rfl
theorem rq_0 {a b v : Int64} (ha : 0 ≤ a.toInt) (hb : 0 < b.toInt) (e : v = a - a / b * b) : RQ a b v 0 := ⟨0, I0, by rw [L_rem (L_natP ha) (L_natP (by omega)) (by omega) e, Nat.pow_zero, Nat.mul_one]⟩
theorem rq_s {a b v m v2 : Int64} {i i2 : Int32} (h : RQ a b v i) (hb : 0 < b.toInt ∧ b.toInt ≤ 9007199254740992) (em : m = 2 * v) (e : v2 = m - m / b * b) (hi : i.toInt < 100000) (ei : i2 = i + Int32.ofInt 1) : RQ a b v2 i2 := by
  obtain ⟨k, hk, hv⟩ := h
  have h3 : (2 : Int64).toInt = 2 := by decide
  have hlt : a.toInt.toNat * 2 ^ k % b.toInt.toNat < b.toInt.toNat := Nat.mod_lt _ (by omega)
  have hm : m.toInt = ((2 * (a.toInt.toNat * 2 ^ k % b.toInt.toNat) : Nat) : Int) := by
    rw [em, L_mul, h3, hv] <;> (try rw [h3, hv]) <;> omega
  have := L_rem hm (L_natP (show 0 ≤ b.toInt by omega)) (by omega) e
  have hi2 : i2.toInt = i.toInt + 1 := by rw [ei, I_add, Io1] <;> (try rw [Io1]) <;> omega
  refine ⟨k + 1, by omega, ?_⟩
  rw [this, Nat.mul_mod_mod, Nat.pow_succ, Nat.mul_comm 2, Nat.mul_assoc]
theorem rsv_1 {na nb a b bits : Int64} {ea eb i d : Int32} (ga : GR na ea) (gb : GR nb eb) (ha : -9223372036854775808 < na.toInt → a.toInt = na.toInt.natAbs) (hb : -9223372036854775808 < nb.toInt → b.toInt = nb.toInt.natAbs) (h : RQ a b bits i) (c0 : eb ≤ ea) (ed : d = ea - eb) (c : d ≤ i) (hk : i.toInt ≤ (ea - eb).toInt) : RSV (sc na.toInt ea.toInt) (sc nb.toInt eb.toInt) bits eb := by
  obtain ⟨k, hk1, hv⟩ := h
  have e1 := GR_e ga
  have e2 := GR_e gb
  have sa := (sz_b ga ha).2.2
  have sb := (sz_b gb hb).2.2
  have hO : (OFF : Int) = 6000 := rfl
  rw [Int32.le_iff_toInt_le] at c0 c
  have D : (ea - eb).toInt = ea.toInt - eb.toInt := by rw [I_sub] <;> omega
  rw [ed, D] at c
  rw [D] at hk
  unfold RSV
  rw [GR_abs, GR_abs, hv, Int.toNat_natCast, show (ea.toInt + (OFF : Int)).toNat = k + (eb.toInt + (OFF : Int)).toNat by omega, Nat.pow_add, ← Nat.mul_assoc, Nat.mul_mod_mul_right, show a.toInt.toNat = na.toInt.natAbs by omega, show b.toInt.toNat = nb.toInt.natAbs by omega]
theorem rsv_2 {na nb a b s v : Int64} {ea eb d d1 d2 d3 : Int32} {s1 s2 s4 : Int64} {d4 : Int32} (ga : GR na ea) (gb : GR nb eb) (b0 : ¬ nb = 0) (ha : -9223372036854775808 < na.toInt → a.toInt = na.toInt.natAbs) (hb : -9223372036854775808 < nb.toInt → b.toInt = nb.toInt.natAbs) (c0 : ¬ eb ≤ ea) (ed : d = eb - ea) (c60 : ¬ 60 < d) (e50 : d1 = eb - ea) (e51 : s1 = b <<< (d1.toInt64 &&& 63)) (e60 : d2 = eb - ea) (e61 : s2 = s1 >>> (d2.toInt64 &&& 63)) (cs : s2 = b) (e76 : d4 = eb - ea) (e77 : s4 = b <<< (d4.toInt64 &&& 63)) (cn : 0 ≤ s4) (e102 : d3 = eb - ea) (e103 : s = b <<< (d3.toInt64 &&& 63)) (ev : v = a - a / s * s) : RSV (sc na.toInt ea.toInt) (sc nb.toInt eb.toInt) v ea := by
  have e1 := GR_e ga
  have e2 := GR_e gb
  have sa := (sz_b ga ha)
  have sb := (sz_b gb hb)
  have sb0 := sz_0 gb hb b0
  have hO : (OFF : Int) = 6000 := rfl
  rw [Int32.le_iff_toInt_le] at c0
  have D : (eb - ea).toInt = eb.toInt - ea.toInt := by rw [I_sub] <;> omega
  rw [Int32.lt_iff_toInt_lt, ed, D, show (60 : Int32).toInt = 60 by decide] at c60
  obtain ⟨k, hk⟩ : ∃ k : Nat, (eb - ea).toInt = k := ⟨(eb - ea).toInt.toNat, by omega⟩
  subst e50; subst e60; subst e102; subst e76
  have fit := (shlr hk hk (by omega) e51 e61).mp cs
  have hs : s.toInt = b.toInt * 2 ^ k := by rw [e103]; exact L_shl b hk (by omega) fit.1 fit.2
  have hsN : s.toInt = ((b.toInt.toNat * 2 ^ k : Nat) : Int) := by rw [hs]; push_cast; rw [show ((b.toInt.toNat : Nat) : Int) = b.toInt by omega]
  have hne : b.toInt.toNat * 2 ^ k ≠ 0 := by
    intro q
    rcases Nat.mul_eq_zero.mp q with z | z
    · omega
    · have := Nat.two_pow_pos k; omega
  have hv := L_rem (L_natP (show 0 ≤ a.toInt by omega)) hsN hne ev
  unfold RSV
  rw [GR_abs, GR_abs, hv, Int.toNat_natCast, show (eb.toInt + (OFF : Int)).toNat = k + (ea.toInt + (OFF : Int)).toNat by omega, Nat.pow_add, ← Nat.mul_assoc, Nat.mul_mod_mul_right, show a.toInt.toNat = na.toInt.natAbs by omega, show b.toInt.toNat = nb.toInt.natAbs by omega]
theorem rsv_lt {na nb a b : Int64} {ea eb : Int32} {k : Nat} (ga : GR na ea) (gb : GR nb eb) (ha : -9223372036854775808 < na.toInt → a.toInt = na.toInt.natAbs) (hb : -9223372036854775808 < nb.toInt → b.toInt = nb.toInt.natAbs) (hk : eb.toInt - ea.toInt = k) (hlt : a.toInt.toNat < b.toInt.toNat * 2 ^ k) : RSV (sc na.toInt ea.toInt) (sc nb.toInt eb.toInt) a ea := by
  have e1 := GR_e ga
  have e2 := GR_e gb
  have sa := (sz_b ga ha)
  have sb := (sz_b gb hb)
  have hO : (OFF : Int) = 6000 := rfl
  unfold RSV
  rw [GR_abs, GR_abs, show (eb.toInt + (OFF : Int)).toNat = k + (ea.toInt + (OFF : Int)).toNat by omega, Nat.pow_add, ← Nat.mul_assoc, Nat.mul_mod_mul_right, ← show a.toInt.toNat = na.toInt.natAbs by omega, ← show b.toInt.toNat = nb.toInt.natAbs by omega, Nat.mod_eq_of_lt hlt]
theorem rsv_3 {na nb a b : Int64} {ea eb d : Int32} (ga : GR na ea) (gb : GR nb eb) (b0 : ¬ nb = 0) (ha : -9223372036854775808 < na.toInt → a.toInt = na.toInt.natAbs) (hb : -9223372036854775808 < nb.toInt → b.toInt = nb.toInt.natAbs) (c0 : ¬ eb ≤ ea) (ed : d = eb - ea) (c60 : 60 < d) : RSV (sc na.toInt ea.toInt) (sc nb.toInt eb.toInt) a ea := by
  have e1 := GR_e ga
  have e2 := GR_e gb
  have sa := (sz_b ga ha)
  have sb0 := sz_0 gb hb b0
  rw [Int32.le_iff_toInt_le] at c0
  have D : (eb - ea).toInt = eb.toInt - ea.toInt := by rw [I_sub] <;> omega
  rw [Int32.lt_iff_toInt_lt, ed, D, show (60 : Int32).toInt = 60 by decide] at c60
  obtain ⟨k, hk⟩ : ∃ k : Nat, eb.toInt - ea.toInt = k := ⟨(eb.toInt - ea.toInt).toNat, by omega⟩
  refine rsv_lt ga gb ha hb hk ?_
  have h61 : 2 ^ 61 ≤ 2 ^ k := Nat.pow_le_pow_right (by decide) (by omega)
  have : 1 * 2 ^ 61 ≤ b.toInt.toNat * 2 ^ k := Nat.mul_le_mul (by omega) h61
  rw [show (2 : Nat) ^ 61 = 2305843009213693952 by decide] at this
  omega
theorem rsv_4 {na nb a b s1 s2 s4 : Int64} {ea eb d d1 d2 d4 : Int32} (ga : GR na ea) (gb : GR nb eb) (b0 : ¬ nb = 0) (ha : -9223372036854775808 < na.toInt → a.toInt = na.toInt.natAbs) (hb : -9223372036854775808 < nb.toInt → b.toInt = nb.toInt.natAbs) (c0 : ¬ eb ≤ ea) (ed : d = eb - ea) (c60 : ¬ 60 < d) (e50 : d1 = eb - ea) (e51 : s1 = b <<< (d1.toInt64 &&& 63)) (e60 : d2 = eb - ea) (e61 : s2 = s1 >>> (d2.toInt64 &&& 63)) (hc : ¬ s2 = b ∨ (d4 = eb - ea ∧ s4 = b <<< (d4.toInt64 &&& 63) ∧ ¬ 0 ≤ s4)) : RSV (sc na.toInt ea.toInt) (sc nb.toInt eb.toInt) a ea := by
  have e1 := GR_e ga
  have e2 := GR_e gb
  have sa := (sz_b ga ha)
  have sb0 := sz_0 gb hb b0
  rw [Int32.le_iff_toInt_le] at c0
  have D : (eb - ea).toInt = eb.toInt - ea.toInt := by rw [I_sub] <;> omega
  rw [Int32.lt_iff_toInt_lt, ed, D, show (60 : Int32).toInt = 60 by decide] at c60
  obtain ⟨k, hk⟩ : ∃ k : Nat, eb.toInt - ea.toInt = k := ⟨(eb.toInt - ea.toInt).toNat, by omega⟩
  have hk' : (eb - ea).toInt = k := by omega
  subst e50; subst e60
  refine rsv_lt ga gb ha hb hk ?_
  have pp := ip_pos k
  have hbp : b.toInt * 2 ^ k = ((b.toInt.toNat * 2 ^ k : Nat) : Int) := by push_cast; rw [show ((b.toInt.toNat : Nat) : Int) = b.toInt by omega]
  rcases Nat.lt_or_ge (b.toInt.toNat * 2 ^ k) 9223372036854775808 with z | z
  · exfalso
    have fit : -9223372036854775808 ≤ b.toInt * 2 ^ k ∧ b.toInt * 2 ^ k < 9223372036854775808 := by rw [hbp]; omega
    rcases hc with q | ⟨q1, q2, q3⟩
    · exact q ((shlr hk' hk' (by omega) e51 e61).mpr fit)
    · subst q1
      have := L_shl b hk' (by omega) fit.1 fit.2
      rw [← q2, hbp] at this
      rw [Int64.le_iff_toInt_le, L0, this] at q3
      omega
  · omega
theorem rq_k {ea eb i v d : Int32} (ga : -1074 ≤ ea.toInt ∧ ea.toInt ≤ 1024) (gb : -1074 ≤ eb.toInt ∧ eb.toInt ≤ 1024) (ed : d = ea - eb) (c : ¬ d ≤ i) (e : v = i + Int32.ofInt 1) : v.toInt ≤ (ea - eb).toInt ∧ i.toInt < 100000 := by
  have D : (ea - eb).toInt = ea.toInt - eb.toInt := by rw [I_sub] <;> omega
  rw [Int32.le_iff_toInt_le, ed, D] at c
  have hi := I_rg i
  have : v.toInt = i.toInt + 1 := by rw [e, I_add, Io1] <;> (try rw [Io1]) <;> omega
  omega
theorem rq_k0 {ea eb : Int32} (ga : -1074 ≤ ea.toInt ∧ ea.toInt ≤ 1024) (gb : -1074 ≤ eb.toInt ∧ eb.toInt ≤ 1024) (c : eb ≤ ea) : (0 : Int32).toInt ≤ (ea - eb).toInt := by
  have D : (ea - eb).toInt = ea.toInt - eb.toInt := by rw [I_sub] <;> omega
  rw [Int32.le_iff_toInt_le] at c
  rw [I0, D]; omega
end
