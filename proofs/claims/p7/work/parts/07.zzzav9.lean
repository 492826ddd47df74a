noncomputable section
theorem un_div {x y v : Int64} (e : v = x / y) (hx : un x < 9223372036854775808) (hy : un y < 9223372036854775808) (h0 : un y ≠ 0) : un v = un x / un y := by
  have a := un_of x
  have b := un_of y
  rw [ifp hx] at a
  rw [ifp hy] at b
  have hle := Nat.div_le_self (un x) (un y)
  have h1 : v.toInt = ((un x / un y : Nat) : Int) := by
    rw [e, Int64.toInt_div, a, b, ← Int.ofNat_tdiv]
    generalize un x / un y = w at hle
    exact n_bm (by omega) (by omega)
  generalize un x / un y = w at *
  have := un_p (x := v) (by rw [h1]; omega)
  omega
theorem un_rem {x y v : Int64} (e : v = x - x / y * y) (hx : un x < 9223372036854775808) (hy : un y < 9223372036854775808) (h0 : un y ≠ 0) : un v = un x % un y := by
  have h1 := un_div (v := x / y) rfl hx hy h0
  have w := Nat.div_add_mod (un x) (un y)
  have h2 := un_mul (x := x / y) (y := y) rfl (by rw [h1, Nat.mul_comm]; omega)
  rw [h1, Nat.mul_comm] at h2
  have h3 := un_sub e (by rw [h2]; omega)
  rw [h3, h2]; omega
def DVI (N D q r : Int64) (i : Int32) : Prop := (un D < 9007199254740992 ∧ un N < 9007199254740992 ∧ 4503599627370496 ≤ un D) → ∃ k : Nat, i.toInt = k ∧ k ≤ 6 ∧ un q * un D + un r = un N * 2 ^ (10 * k) ∧ un r < un D
theorem dvi_0 {N D q r : Int64} (e1 : q = N / D) (e2 : r = N - N / D * D) : DVI N D q r 0 := by
  rintro ⟨h1, h2, h3⟩
  have a := un_div e1 (by omega) (by omega) (by omega)
  have b := un_rem e2 (by omega) (by omega) (by omega)
  refine ⟨0, I0, by decide, ?_, ?_⟩
  · rw [a, b, Nat.mul_zero, Nat.pow_zero, Nat.mul_one, Nat.mul_comm]; exact Nat.div_add_mod _ _
  · rw [b]; exact Nat.mod_lt _ (by omega)
theorem dvi_q {N D q r k : Nat} (h1 : D < 9007199254740992) (h2 : N < 9007199254740992) (h3 : 4503599627370496 ≤ D) (h : q * D + r = N * 2 ^ (10 * k)) : q < 2 ^ (10 * k + 1) := by
  rcases Nat.lt_or_ge q (2 ^ (10 * k + 1)) with z | z
  · exact z
  · exfalso
    have a : 2 ^ (10 * k + 1) * D ≤ q * D := Nat.mul_le_mul_right _ z
    rw [Nat.pow_succ, Nat.mul_assoc] at a
    have P := Nat.two_pow_pos (10 * k)
    have b : 2 ^ (10 * k) * 9007199254740992 ≤ 2 ^ (10 * k) * (2 * D) := Nat.mul_le_mul_left _ (by omega)
    have c : N * 2 ^ (10 * k) < 9007199254740992 * 2 ^ (10 * k) := Nat.mul_lt_mul_of_pos_right h2 P
    rw [Nat.mul_comm 9007199254740992] at c
    omega
theorem dvi_s {N D q r r2 t q1 q2 r3 : Int64} {i i2 : Int32} (h : DVI N D q r i) (c : ¬ 6 ≤ i) (e1 : r2 = r <<< ((10 : Int32).toInt64 &&& 63)) (e2 : q1 = q <<< ((10 : Int32).toInt64 &&& 63)) (e3 : t = r2 / D) (e4 : q2 = q1 + t) (e5 : r3 = r2 - r2 / D * D) (e6 : i2 = i + Int32.ofInt 1) : DVI N D q2 r3 i2 := by
  intro hc
  obtain ⟨k, hk, hk6, hq, hr⟩ := h hc
  obtain ⟨h1, h2, h3⟩ := hc
  rw [Int32.le_iff_toInt_le, show (6 : Int32).toInt = 6 by decide] at c
  have hi : i2.toInt = i.toInt + 1 := by rw [e6, I_add, Io1] <;> (try rw [Io1]) <;> omega
  have ql := dvi_q h1 h2 h3 hq
  have ql2 : 2 ^ (10 * k + 1) ≤ 2 ^ 51 := Nat.pow_le_pow_right (by decide) (by omega)
  rw [show (2 : Nat) ^ 51 = 2251799813685248 by decide] at ql2
  have f1 := un_shl (y := 10) (k := 10) (by decide) (by decide) e1
  have f2 := un_shl (y := 10) (k := 10) (by decide) (by decide) e2
  rw [show (2 : Nat) ^ 10 = 1024 by decide] at f1 f2
  rw [Nat.mod_eq_of_lt (by omega)] at f1 f2
  have f3 := un_div e3 (by omega) (by omega) (by omega)
  have f5 := un_rem e5 (by omega) (by omega) (by omega)
  have tl : un t ≤ un r2 := by rw [f3]; exact Nat.div_le_self _ _
  have f4 := un_add e4
  rw [Nat.mod_eq_of_lt (by omega)] at f4
  have w := Nat.div_add_mod (un r2) (un D)
  rw [← f3, ← f5, Nat.mul_comm] at w
  refine ⟨k + 1, by omega, by omega, ?_, ?_⟩
  · rw [show 10 * (k + 1) = 10 * k + 10 by omega, Nat.pow_add, ← Nat.mul_assoc, ← hq, show (2 : Nat) ^ 10 = 1024 by decide, f4, f2, Nat.add_mul, Nat.add_mul, Nat.mul_right_comm]
    omega
  · rw [f5]; exact Nat.mod_lt _ (by omega)
theorem divcore {N D q r K : Nat} (h : q * D + r = N * 2 ^ 60) (hr : r < D) (hq : 2 ^ 53 ≤ q) : RT (N * 2 ^ (60 + K) / D) (decide (N * 2 ^ (60 + K) % D ≠ 0)) = RT (q * 2 ^ K) (decide (r ≠ 0)) := by
  have hD : 0 < D := by omega
  have e : N * 2 ^ (60 + K) = r * 2 ^ K + D * (q * 2 ^ K) := by
    rw [Nat.pow_add, ← Nat.mul_assoc, ← h, Nat.add_mul, Nat.add_comm]
    congr 1
    rw [Nat.mul_comm q D, Nat.mul_assoc]
  rw [e, Nat.add_mul_div_left _ _ hD, Nat.add_mul_mod_self_left, Nat.add_comm]
  refine RT_st hq ?_ ?_
  · rw [Nat.div_lt_iff_lt_mul hD, Nat.mul_comm (2 ^ K)]
    exact Nat.mul_lt_mul_of_pos_right hr (Nat.two_pow_pos K)
  · have P := Nat.two_pow_pos K
    rw [decide_eq_true_iff, decide_eq_true_iff]
    have w := Nat.div_add_mod (r * 2 ^ K) D
    constructor
    · intro z
      by_cases y : r * 2 ^ K / D = 0
      · right
        intro u
        rw [y, u, Nat.mul_zero] at w
        rcases Nat.mul_eq_zero.mp w.symm with t | t
        · exact z t
        · omega
      · left; exact y
    · intro z y
      rw [y, Nat.zero_mul, Nat.zero_div, Nat.zero_mod] at z
      rcases z with z | z <;> exact z rfl
theorem df_ne {w : V3} {B : Int} {s m : Int64} {z room : Int32} (hb : CA w (.inr (.inl B))) (b0 : B ≠ 0) (hs : un s = w.2.1.toInt.natAbs) (t : Int64) (ht : un t = w.2.1.toInt.natAbs) (hz : z.toInt = 64 - (BL (un t) : Int)) (hr : room = z - 11) (hm : m = s <<< (room.toInt64 &&& 63)) : ¬ m = 0 := by
  have I11 : (11 : Int32).toInt = 11 := by decide
  have R := room_of hz hr I11 (by decide)
  have x : s = t := un_inj (hs.trans ht.symm)
  obtain ⟨p1, -⟩ := big 53 (by decide) (by decide) hb b0 hs (by rw [x]; omega) hm
  intro q
  rw [q, un0] at p1
  exact absurd p1 (by decide)
theorem df_e {f f2 : Nat → V3} {a0 : Nat} {v w : V3} {A B : Int} {s1 s2 t1 t2 N D q r : Int64} {z1 z2 r1 r2 e1 e2 u1 u2 ud unit sa sb i : Int32} (p more : Int32) (ha : CA v (.inr (.inl A))) (hb : CA w (.inr (.inl B))) (a0' : A ≠ 0) (b0 : B ≠ 0)
    (hs1 : un s1 = v.2.1.toInt.natAbs) (hz1 : z1.toInt = 64 - (BL (un s1) : Int)) (hr1 : r1 = z1 - 11) (hs2 : un s2 = w.2.1.toInt.natAbs) (hz2 : z2.toInt = 64 - (BL (un s2) : Int)) (hr2 : r2 = z2 - 11)
    (ht2 : un t2 = w.2.1.toInt.natAbs) (hD : D = t2 <<< (r2.toInt64 &&& 63)) (hsa : SG (sg (.inr (.inl A))) sa) (hsb : SG (sg (.inr (.inl B))) sb) (hp : (sa = sb ∧ p = 0) ∨ (¬ sa = sb ∧ p = 1))
    (he1 : e1 = v.2.2) (hu1 : u1 = e1 - r1) (he2 : e2 = w.2.2) (hu2 : u2 = e2 - r2) (hud : ud = u1 - u2) (hun : unit = ud - 60) (ht1 : un t1 = v.2.1.toInt.natAbs) (hN : N = t1 <<< (r1.toInt64 &&& 63))
    (hI : DVI N D q r i) (hc : 6 ≤ i) (hm : (r = 0 ∧ more = 0) ∨ (¬ r = 0 ∧ more = 1)) (h : SNC q unit → ∃ v, f2 = va_up f a0 v ∧ CA v (rnd (bb p) (un q * 2 ^ (unit.toInt + (OFF : Int)).toNat) (bb more))) : UPD f f2 a0 (rnd (decide (A.sign ≠ B.sign)) (A.natAbs * W1 / B.natAbs) (decide (A.natAbs * W1 % B.natAbs ≠ 0))) := by
  obtain ⟨a1, a2, a3⟩ := CN_e ha.2.1
  obtain ⟨b1, b2, b3⟩ := CN_e hb.2.1
  have I11 : (11 : Int32).toInt = 11 := by decide
  have I60 : (60 : Int32).toInt = 60 := by decide
  have R1 := room_of hz1 hr1 I11 (by decide)
  have R2 := room_of hz2 hr2 I11 (by decide)
  have x1 : t1 = s1 := un_inj (ht1.trans hs1.symm)
  have x2 : t2 = s2 := un_inj (ht2.trans hs2.symm)
  subst x1; subst x2
  obtain ⟨p1, p2, p3, p4, p5, p6⟩ := big 53 (by decide) (by decide) ha a0' hs1 (by omega) hN
  obtain ⟨q1, q2, q3, q4, q5, q6⟩ := big 53 (by decide) (by decide) hb b0 hs2 (by omega) hD
  rw [show (53 : Nat) - 1 = 52 by decide, show (2 : Nat) ^ 52 = 4503599627370496 by decide] at p1 q1
  rw [show (2 : Nat) ^ 53 = 9007199254740992 by decide] at p2 q2
  have hOF : (OFF : Int) = 6000 := rfl
  have hOF' : OFF = 6000 := rfl
  have L1' := BL_ge (T := un t1) (k := 0) (by rw [Nat.pow_zero]; omega)
  have L2' := BL_ge (T := un t2) (k := 0) (by rw [Nat.pow_zero]; omega)
  have U1 : u1.toInt = v.2.2.toInt - r1.toInt := by rw [hu1, he1, I_sub] <;> omega
  have U2 : u2.toInt = w.2.2.toInt - r2.toInt := by rw [hu2, he2, I_sub] <;> omega
  have U3 : ud.toInt = u1.toInt - u2.toInt := by rw [hud, I_sub] <;> omega
  have U4 : unit.toInt = ud.toInt - 60 := by rw [hun, I_sub, I60] <;> (try rw [I60]) <;> omega
  obtain ⟨k, hk, hk6, hq, hr⟩ := hI ⟨q2, p2, q1⟩
  rw [Int32.le_iff_toInt_le, show (6 : Int32).toInt = 6 by decide] at hc
  have k6 : k = 6 := by omega
  subst k6
  have ql := dvi_q q2 p2 q1 hq
  rw [show 10 * 6 = 60 by decide] at hq
  rw [show (2 : Nat) ^ (10 * 6 + 1) = 2305843009213693952 by decide] at ql
  have qg : 9007199254740992 ≤ un q := by
    rcases Nat.lt_or_ge (un q) 9007199254740992 with z | z
    · exfalso
      have c1 : un q * un D ≤ 9007199254740991 * un D := Nat.mul_le_mul_right _ (by omega)
      have c2 : 4503599627370496 * 2 ^ 60 ≤ un N * 2 ^ 60 := Nat.mul_le_mul_right _ p1
      rw [show (2 : Nat) ^ 60 = 1152921504606846976 by decide] at c2 hq
      omega
    · exact z
  rw [← U1] at p3
  rw [← U2] at q3
  obtain ⟨K, hK⟩ : ∃ K : Nat, unit.toInt + (OFF : Int) = K := ⟨(unit.toInt + (OFF : Int)).toNat, by omega⟩
  obtain ⟨xb, hxb⟩ : ∃ xb : Nat, u2.toInt + (OFF : Int) = xb := ⟨(u2.toInt + (OFF : Int)).toNat, by omega⟩
  have eA : A.natAbs * W1 = un N * 2 ^ (60 + K) * 2 ^ xb := by
    rw [p3, W1_e2, Nat.mul_assoc, Nat.mul_assoc, ← Nat.pow_add, ← Nat.pow_add]
    congr 2
    omega
  have eB : B.natAbs = un D * 2 ^ xb := by rw [q3, hxb, Int.toNat_natCast]
  have P := Nat.two_pow_pos xb
  have d1 : A.natAbs * W1 / B.natAbs = un N * 2 ^ (60 + K) / un D := by rw [eA, eB, Nat.mul_div_mul_right _ _ P]
  have d2 : decide (A.natAbs * W1 % B.natAbs ≠ 0) = decide (un N * 2 ^ (60 + K) % un D ≠ 0) := by
    rw [eA, eB, Nat.mul_mod_mul_right]
    congr 1
    apply propext
    constructor
    · intro z y; exact z (by rw [y, Nat.zero_mul])
    · intro z y
      rcases Nat.mul_eq_zero.mp y with t | t
      · exact z t
      · omega
  have hR := divcore (K := K) hq hr (by rw [show (2 : Nat) ^ 53 = 9007199254740992 by decide]; exact qg)
  obtain ⟨x, h1, h2⟩ := h ⟨Or.inl (by omega), by omega, by omega⟩
  refine ⟨x, h1, ?_⟩
  have hb1 : bb p = decide (A.sign ≠ B.sign) := by
    have := sg_eq hsa hsb
    rcases hp with ⟨z, rfl⟩ | ⟨z, rfl⟩
    · rw [decide_eq_false (p := A.sign ≠ B.sign) (fun y => y (this.mp z))]; rfl
    · rw [decide_eq_true (p := A.sign ≠ B.sign) (fun y => z (this.mpr y))]; rfl
  have hb2 : bb more = decide (un r ≠ 0) := by
    rcases hm with ⟨z, rfl⟩ | ⟨z, rfl⟩
    · rw [decide_eq_false (p := un r ≠ 0) (fun y => y (un_0.mp z))]; rfl
    · rw [decide_eq_true (p := un r ≠ 0) (fun y => z (un_0.mpr y))]; rfl
  unfold rnd at *
  rw [d1, d2, hR, ← hb1, ← hb2]
  rw [hK, Int.toNat_natCast] at h2
  exact h2
-- divide
theorem dz_x {a : AV} {r : Int32} (h : SG (sg a) r) (c : r = 0) : inS (sg a) = (.inr (.inr .gt)) := inS_x (SG_t h (sg_3 a)) c
theorem divx {a b : AV} (h : a = (.inr (.inr .gt)) ∨ b = (.inr (.inr .gt))) : divR a b = (.inr (.inr .gt)) := by
  rcases h with rfl | rfl
  · cases b using AV_el <;> rfl
  · cases a using AV_el <;> rfl
theorem div_ii {v w : V3} {a b : AV} {r s : Int32} (ha : CA v a) (hb : CA w b) (g1 : ISI r v.1) (c1 : ¬ r = 0) (g2 : ISI s w.1) (c2 : ¬ s = 0) : divR a b = (.inr (.inr .gt)) := by
  rcases CA_y ha g1 c1 with ⟨rfl, -⟩ | ⟨rfl, -⟩ <;> rcases CA_y hb g2 c2 with ⟨rfl, -⟩ | ⟨rfl, -⟩ <;> rfl
theorem div_fi {v w : V3} {a b : AV} {r s : Int32} (ha : CA v a) (hb : CA w b) (wa : nW a) (hx : a ≠ (.inr (.inr .gt))) (g1 : ISI r v.1) (c1 : r = 0) (g2 : ISI s w.1) (c2 : ¬ s = 0) : divR a b = .inr (.inl 0) := by
  obtain ⟨A, rfl⟩ := CA_r ha g1 c1 wa hx
  rcases CA_y hb g2 c2 with ⟨rfl, -⟩ | ⟨rfl, -⟩ <;> rfl
theorem ca_z : CA (2, 0, 0) (.inr (.inl 0)) := by
  have := ca_0 (neg := false)
  rw [mkR_r TOP_pos] at this
  exact this
theorem up_z {f f2 : Nat → V3} {a0 : Nat} {y : AV} (e : f2 = va_up f a0 (2, 0, 0)) (h : y = .inr (.inl 0)) : UPD f f2 a0 y := ⟨_, e, by rw [h]; exact ca_z⟩
theorem div_z {f f2 : Nat → V3} {a0 : Nat} {w : V3} {a b : AV} {s : Int32} {n : Int64} (ha : CA (f a0) a) (hb : CA w b) (wa : nW a) (wb : nW b) (hx : a ≠ (.inr (.inr .gt)) ∧ b ≠ (.inr (.inr .gt))) (g2 : ISI s w.1) (c2 : s = 0) (e : n = w.2.1) (c : n = 0) (h : ∀ a, CA (f a0) a → UPD f f2 a0 (inS (sg a))) : UPD f f2 a0 (divR a b) := by
  obtain ⟨B, rfl⟩ := CA_r hb g2 c2 wb hx.2
  have hB : B = 0 := (CA_n0 hb).mpr (by rw [← e, c, L0z])
  have t := h a ha
  have e9 : divR a (.inr (.inl B)) = inS (sg a) := by
    cases a using AV_el with
    | w x => exact absurd wa id
    | r A =>
      show (if B = 0 then inS A.sign else _) = inS (sg (.inr (.inl A)))
      rw [ifp hB]; rfl
    | p =>
      show (if B < 0 then _ else _) = _
      rw [ifn (by omega)]; rfl
    | m =>
      show (if B < 0 then _ else _) = _
      rw [ifn (by omega)]; rfl
    | x => exact absurd rfl hx.1
  rw [e9]; exact t
theorem div_if {v w : V3} {a b : AV} {r s sa sb : Int32} {n : Int64} (p : Int32) (ha : CA v a) (hb : CA w b) (wb : nW b) (hx : b ≠ (.inr (.inr .gt))) (g1 : ISI r v.1) (c1 : ¬ r = 0) (g2 : ISI s w.1) (c2 : s = 0) (e : n = w.2.1) (c : ¬ n = 0) (h1 : SG (sg a) sa) (h2 : SG (sg b) sb) (hp : (sa = sb ∧ p = 0) ∨ (¬ sa = sb ∧ p = 1)) : CA (if p = 0 then 3 else 4, 0, 0) (divR a b) := by
  obtain ⟨B, rfl⟩ := CA_r hb g2 c2 wb hx
  have hB : ¬ B = 0 := fun q => c (Int64.toInt_inj.mp (by rw [e, (CA_n0 hb).mp q, L0z]))
  have t1 := SG_t h1 (sg_3 a)
  have t2 := SG_t h2 (sg_3 (.inr (.inl B)))
  have hs : sa = sb ↔ sg a = sg (.inr (.inl B)) := by rw [← t1, ← t2]; exact Int32.toInt_inj.symm
  rcases CA_y ha g1 c1 with ⟨rfl, -⟩ | ⟨rfl, -⟩
  · show CA _ (if B < 0 then (.inr (.inr .eq)) else (.inr (.inr .lt)))
    rcases sign_c B with ⟨q, y⟩ | ⟨q, y⟩ | ⟨q, y⟩
    · rw [ifp q]
      rcases hp with ⟨z, -⟩ | ⟨-, rfl⟩
      · have u := hs.mp z
        rw [show sg (.inr (.inl B)) = -1 from y] at u
        exact absurd u (by decide)
      · rfl
    · exact absurd q hB
    · rw [ifn (show ¬ B < 0 by omega)]
      rcases hp with ⟨-, rfl⟩ | ⟨z, -⟩
      · rfl
      · exact absurd (hs.mpr (by rw [show sg (.inr (.inl B)) = 1 from y]; rfl)) z
  · show CA _ (if B < 0 then (.inr (.inr .lt)) else (.inr (.inr .eq)))
    rcases sign_c B with ⟨q, y⟩ | ⟨q, y⟩ | ⟨q, y⟩
    · rw [ifp q]
      rcases hp with ⟨-, rfl⟩ | ⟨z, -⟩
      · rfl
      · exact absurd (hs.mpr (by rw [show sg (.inr (.inl B)) = -1 from y]; rfl)) z
    · exact absurd q hB
    · rw [ifn (show ¬ B < 0 by omega)]
      rcases hp with ⟨z, -⟩ | ⟨-, rfl⟩
      · have u := hs.mp z
        rw [show sg (.inr (.inl B)) = 1 from y] at u
        exact absurd u (by decide)
      · rfl
theorem div_ff {f f2 : Nat → V3} {a0 a1 : Nat} {a b : AV} {r s : Int32} {n m : Int64} (ha : CA (f a0) a) (hb : CA (f a1) b) (wa : nW a) (wb : nW b) (hx : a ≠ (.inr (.inr .gt)) ∧ b ≠ (.inr (.inr .gt))) (g1 : ISI r (f a0).1) (c1 : r = 0) (g2 : ISI s (f a1).1) (c2 : s = 0) (e : n = (f a1).2.1) (c : ¬ n = 0) (em : m = (f a0).2.1) (h : (m = 0 ∧ f2 = f) ∨ (¬ m = 0 ∧ ∀ A B, CA (f a0) (.inr (.inl A)) → CA (f a1) (.inr (.inl B)) → A ≠ 0 → B ≠ 0 → UPD f f2 a0 (rnd (decide (A.sign ≠ B.sign)) (A.natAbs * W1 / B.natAbs) (decide (A.natAbs * W1 % B.natAbs ≠ 0))))) : UPD f f2 a0 (divR a b) := by
  obtain ⟨A, rfl⟩ := CA_r ha g1 c1 wa hx.1
  obtain ⟨B, rfl⟩ := CA_r hb g2 c2 wb hx.2
  have hB : ¬ B = 0 := fun q => c (Int64.toInt_inj.mp (by rw [e, (CA_n0 hb).mp q, L0z]))
  show UPD f f2 a0 (if B = 0 then _ else if A = 0 then _ else _)
  rw [ifn hB]
  rcases h with ⟨q, z⟩ | ⟨q, z⟩
  · have hA : A = 0 := (CA_n0 ha).mpr (by rw [← em, q, L0z])
    rw [ifp hA, z, ← hA]; exact UPD_id ha
  · have hA : ¬ A = 0 := fun y => q (Int64.toInt_inj.mp (by rw [em, (CA_n0 ha).mp y, L0z]))
    rw [ifn hA]; exact z A B ha hb hA hB
theorem dz_n {a : AV} {r s : Int32} (h : SG (sg a) r) (c : ¬ r = 0) (h2 : SG (sg a) s) : ¬ s = 0 := fun q => c (Int32.toInt_inj.mp (by rw [SG_t h (sg_3 a), ← SG_t h2 (sg_3 a), q]))
theorem dv_no {k r s : Int32} {P : Prop} (h : ISI r k) (c : r = 0) (h2 : ISI s k) (c2 : ¬ s = 0) : P := by
  exfalso
  rcases h with ⟨q, -⟩ | ⟨-, q1, q2⟩
  · rw [q] at c; exact absurd c (by decide)
  · rcases h2 with ⟨-, z | z⟩ | ⟨z, -⟩
    · exact q1 z
    · exact q2 z
    · exact c2 z
end
