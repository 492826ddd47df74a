noncomputable section
def RAC (p0 p2 : Int64) (p1 : Int32) : Prop := un p0 < 9007199254740992 ∧ un p2 < 9007199254740992 ∧ un p2 ≠ 0 ∧ 0 ≤ p1.toInt
def RAI (p0 p2 : Int64) (p1 : Int32) (rest : Int64) (left : Int32) : Prop := RAC p0 p2 p1 → left.toInt ≤ p1.toInt ∧ -10 < left.toInt ∧ un rest = un p0 * 2 ^ (p1.toInt - max left.toInt 0).toNat % un p2
theorem ra_0 {p0 p2 r : Int64} {p1 : Int32} (e : r = p0 - p0 / p2 * p2) : RAI p0 p2 p1 r p1 := by
  rintro ⟨h1, h2, h3, h4⟩
  have := un_rem e (by omega) (by omega) h3
  refine ⟨by omega, by omega, ?_⟩
  rw [this, show (p1.toInt - max p1.toInt 0).toNat = 0 by omega, Nat.pow_zero, Nat.mul_one]
theorem ra_s {p0 p2 r r2 r3 : Int64} {p1 l mn l2 : Int32} (h : RAI p0 p2 p1 r l) (c : ¬ l ≤ 0) (e1 : mn = if 10 < l then 10 else l) (e2 : r2 = r <<< (mn.toInt64 &&& 63)) (e3 : r3 = r2 - r2 / p2 * p2) (e4 : l2 = l + Int32.ofInt (-10)) : RAI p0 p2 p1 r3 l2 := by
  intro hc
  obtain ⟨i1, i2, i3⟩ := h hc
  obtain ⟨h1, h2, h3, h4⟩ := hc
  rw [Int32.le_iff_toInt_le, I0] at c
  have I10 : (10 : Int32).toInt = 10 := by decide
  have Im10 : (Int32.ofInt (-10)).toInt = -10 := by decide
  have hlr := I_rg l
  have hl2 : l2.toInt = l.toInt - 10 := by rw [e4, I_add, Im10] <;> (try rw [Im10]) <;> omega
  obtain ⟨m, hm, hm2⟩ : ∃ m : Nat, mn.toInt = m ∧ (m : Int) = min l.toInt 10 := by
    refine ⟨(min l.toInt 10).toNat, ?_, by omega⟩
    rw [e1]
    split
    · rename_i q
      rw [Int32.lt_iff_toInt_lt, I10] at q
      rw [I10]; omega
    · rename_i q
      rw [Int32.lt_iff_toInt_lt, I10] at q
      omega
  have hr : un r < un p2 := by rw [i3]; exact Nat.mod_lt _ (by omega)
  have f1 := un_shl hm (by omega) e2
  have p10 : 2 ^ m ≤ 2 ^ 10 := Nat.pow_le_pow_right (by decide) (by omega)
  rw [show (2 : Nat) ^ 10 = 1024 by decide] at p10
  have hlt : un r * 2 ^ m ≤ 9007199254740991 * 1024 := Nat.mul_le_mul (by omega) p10
  rw [Nat.mod_eq_of_lt (by omega)] at f1
  have f3 := un_rem e3 (by omega) (by omega) h3
  refine ⟨by omega, by omega, ?_⟩
  rw [f3, f1, i3, Nat.mod_mul_mod, Nat.mul_assoc, ← Nat.pow_add]
  congr 3
  omega
theorem ra_e {p0 p2 r : Int64} {p1 l : Int32} (h : RAI p0 p2 p1 r l) (c : l ≤ 0) : RAC p0 p2 p1 → un r = un p0 * 2 ^ p1.toInt.toNat % un p2 := fun hc => by
  obtain ⟨i1, i2, i3⟩ := h hc
  rw [Int32.le_iff_toInt_le, I0] at c
  rw [i3]
  congr 3
  omega
theorem tmod_c (A B : Int) : A.tmod B = if A < 0 then -((A.natAbs % B.natAbs : Nat) : Int) else ((A.natAbs % B.natAbs : Nat) : Int) := by
  have hB : A.tmod B = A.tmod (B.natAbs : Int) := by
    rcases Int.natAbs_eq B with q | q
    · conv => lhs; rw [q]
    · conv => lhs; rw [q, Int.tmod_neg]
  rw [hB]
  split
  · rename_i z
    have : A = -(A.natAbs : Int) := by omega
    conv => lhs; rw [this, Int.neg_tmod, ← Int.ofNat_tmod]
  · rename_i z
    have : A = (A.natAbs : Int) := by omega
    conv => lhs; rw [this, ← Int.ofNat_tmod]
theorem rnd_exN {neg st : Bool} {s B : Nat} (h : s < 9007199254740992) (hB : GL ≤ B) (hB2 : B ≤ 971 + OFF) : rnd neg (s * 2 ^ B) st = .inr (.inl (if neg = true then -((s * 2 ^ B : Nat) : Int) else ((s * 2 ^ B : Nat) : Int))) := by
  unfold rnd
  rw [RT_ex h hB, mkR_r]
  have h1 : s * 2 ^ B < 2 ^ 53 * 2 ^ B := Nat.mul_lt_mul_of_pos_right h (Nat.two_pow_pos B)
  rw [← Nat.pow_add] at h1
  exact Nat.lt_of_lt_of_le h1 (le_TOP (by omega))
theorem rs_fin {f f2 : Nat → V3} {a0 : Nat} {v : V3} {A B : Int} {s : Int64} {b u : Int32} (ha : CA v (.inr (.inl A))) (hs : un s < 9007199254740992) (hu : -1074 ≤ u.toInt ∧ u.toInt ≤ 971) (hv : A.natAbs % B.natAbs = un s * 2 ^ (u.toInt + (OFF : Int)).toNat) (hb : bb b = decide (A < 0)) (h : SNC s u → ∃ v, f2 = va_up f a0 v ∧ CA v (rnd (bb b) (un s * 2 ^ (u.toInt + (OFF : Int)).toNat) (bb 0))) : UPD f f2 a0 (.inr (.inl (A.tmod B))) := by
  obtain ⟨x, h1, h2⟩ := h ⟨Or.inl (by omega), by omega, by omega⟩
  refine ⟨x, h1, ?_⟩
  have hO : (OFF : Int) = 6000 := rfl
  have hO' : OFF = 6000 := rfl
  have hG : GL = 4926 := rfl
  rw [rnd_exN hs (by omega) (by omega), hb, ← hv] at h2
  rw [tmod_c]
  by_cases q : A < 0
  · rw [ifp q]; rw [decide_eq_true q, ifp rfl] at h2; exact h2
  · rw [ifn q]; rw [decide_eq_false q, ifn (by decide)] at h2; exact h2
theorem rz_1 {f f2 : Nat → V3} {a0 : Nat} {v w : V3} {A B : Int} {s1 s2 r : Int64} {ea eb eb2 gap b : Int32} (ha : CA v (.inr (.inl A))) (hb : CA w (.inr (.inl B))) (b0 : B ≠ 0) (e1 : ea = v.2.2) (e2 : eb = w.2.2) (eg : gap = ea - eb) (c : ¬ gap < 0) (hs1 : un s1 = v.2.1.toInt.natAbs) (hs2 : un s2 = w.2.1.toInt.natAbs) (hr : RAC s1 s2 gap → un r = un s1 * 2 ^ gap.toInt.toNat % un s2) (hbb : bb b = decide (A < 0)) (e3 : eb2 = w.2.2) (h : SNC r eb2 → ∃ v, f2 = va_up f a0 v ∧ CA v (rnd (bb b) (un r * 2 ^ (eb2.toInt + (OFF : Int)).toNat) (bb 0))) : UPD f f2 a0 (.inr (.inl (A.tmod B))) := by
  obtain ⟨a1, a2, a3⟩ := CN_e ha.2.1
  obtain ⟨b1, b2, b3⟩ := CN_e hb.2.1
  rw [Int32.lt_iff_toInt_lt, I0] at c
  have G : gap.toInt = v.2.2.toInt - w.2.2.toInt := by rw [eg, e1, e2, I_sub] <;> omega
  have n0 : un s2 ≠ 0 := fun q => b0 ((CA_n0 hb).mpr (by omega))
  have h1 := hr ⟨by omega, by omega, n0, by omega⟩
  have hlt : un r < un s2 := by rw [h1]; exact Nat.mod_lt _ (by omega)
  have hO : (OFF : Int) = 6000 := rfl
  subst e3
  refine rs_fin (b := b) ha (by omega) ⟨b2, b3⟩ ?_ hbb h
  rw [CA_abs ha, CA_abs hb, h1, ← hs1, ← hs2, show (v.2.2.toInt + (OFF : Int)).toNat = gap.toInt.toNat + (w.2.2.toInt + (OFF : Int)).toNat by omega, Nat.pow_add, ← Nat.mul_assoc, Nat.mul_mod_mul_right]
theorem rz_2 {f f2 : Nat → V3} {a0 : Nat} {v w : V3} {A B : Int} {s1 s2 t2 d r : Int64} {ea eb ea2 gap n1 n2 z b : Int32} (ha : CA v (.inr (.inl A))) (hb : CA w (.inr (.inl B))) (b0 : B ≠ 0) (e1 : ea = v.2.2) (e2 : eb = w.2.2) (eg : gap = ea - eb) (c : gap < 0) (en : n1 = -gap) (ht2 : un t2 = w.2.1.toInt.natAbs) (hz : z.toInt = 64 - (BL (un t2) : Int)) (cz : ¬ z ≤ n1) (hs2 : un s2 = w.2.1.toInt.natAbs) (en2 : n2 = -gap) (ed : d = s2 <<< (n2.toInt64 &&& 63)) (hs1 : un s1 = v.2.1.toInt.natAbs) (er : r = s1 - s1 / d * d) (hbb : bb b = decide (A < 0)) (e3 : ea2 = v.2.2) (h : SNC r ea2 → ∃ v, f2 = va_up f a0 v ∧ CA v (rnd (bb b) (un r * 2 ^ (ea2.toInt + (OFF : Int)).toNat) (bb 0))) : UPD f f2 a0 (.inr (.inl (A.tmod B))) := by
  obtain ⟨a1, a2, a3⟩ := CN_e ha.2.1
  obtain ⟨b1, b2, b3⟩ := CN_e hb.2.1
  rw [Int32.lt_iff_toInt_lt, I0] at c
  have G : gap.toInt = v.2.2.toInt - w.2.2.toInt := by rw [eg, e1, e2, I_sub] <;> omega
  have N1 : n1.toInt = -gap.toInt := by rw [en, I_neg] <;> omega
  have N2 : n2.toInt = -gap.toInt := by rw [en2, I_neg] <;> omega
  rw [Int32.le_iff_toInt_le] at cz
  have x2 : t2 = s2 := un_inj (ht2.trans hs2.symm)
  subst x2
  have n0 : un t2 ≠ 0 := fun q => b0 ((CA_n0 hb).mpr (by omega))
  obtain ⟨j, hj⟩ : ∃ j : Nat, n2.toInt = j := ⟨n2.toInt.toNat, by omega⟩
  have hb0 := BL_ge (T := un t2) (k := 0) (by rw [Nat.pow_zero]; omega)
  have hd := un_shl hj (by omega) ed
  have hlt : un t2 * 2 ^ j < 9223372036854775808 := by
    have h1 : un t2 * 2 ^ j < 2 ^ BL (un t2) * 2 ^ j := Nat.mul_lt_mul_of_pos_right (BL_lt (T := un t2)) (Nat.two_pow_pos j)
    rw [← Nat.pow_add] at h1
    exact Nat.lt_of_lt_of_le h1 (Nat.pow_le_pow_right (n := 2) (j := 63) (by decide) (by omega))
  rw [Nat.mod_eq_of_lt (by omega)] at hd
  have P := Nat.two_pow_pos j
  have d0 : un d ≠ 0 := by
    rw [hd]; intro q
    rcases Nat.mul_eq_zero.mp q with y | y
    · exact n0 y
    · omega
  have hr := un_rem er (by omega) (by omega) d0
  have hO : (OFF : Int) = 6000 := rfl
  have hle : un s1 % un d ≤ un s1 := Nat.mod_le _ _
  subst e3
  refine rs_fin (b := b) ha (by omega) ⟨a2, a3⟩ ?_ hbb h
  rw [CA_abs ha, CA_abs hb, hr, hd, ← hs1, ← hs2, show (w.2.2.toInt + (OFF : Int)).toNat = j + (v.2.2.toInt + (OFF : Int)).toNat by omega, Nat.pow_add, ← Nat.mul_assoc, Nat.mul_mod_mul_right]
theorem rz_3 {f : Nat → V3} {a0 : Nat} {w : V3} {A B : Int} {t2 : Int64} {ea eb gap n1 z : Int32} (ha : CA (f a0) (.inr (.inl A))) (hb : CA w (.inr (.inl B))) (b0 : B ≠ 0) (e1 : ea = (f a0).2.2) (e2 : eb = w.2.2) (eg : gap = ea - eb) (c : gap < 0) (en : n1 = -gap) (ht2 : un t2 = w.2.1.toInt.natAbs) (hz : z.toInt = 64 - (BL (un t2) : Int)) (cz : z ≤ n1) : UPD f f a0 (.inr (.inl (A.tmod B))) := by
  obtain ⟨a1, a2, a3⟩ := CN_e ha.2.1
  obtain ⟨b1, b2, b3⟩ := CN_e hb.2.1
  rw [Int32.lt_iff_toInt_lt, I0] at c
  have G : gap.toInt = (f a0).2.2.toInt - w.2.2.toInt := by rw [eg, e1, e2, I_sub] <;> omega
  have N1 : n1.toInt = -gap.toInt := by rw [en, I_neg] <;> omega
  rw [Int32.le_iff_toInt_le] at cz
  have n0 : un t2 ≠ 0 := fun q => b0 ((CA_n0 hb).mpr (by omega))
  have hb0 := BL_ge (T := un t2) (k := 0) (by rw [Nat.pow_zero]; omega)
  have hs := BL_self n0
  have hO : (OFF : Int) = 6000 := rfl
  obtain ⟨j, hj⟩ : ∃ j : Nat, n1.toInt = j := ⟨n1.toInt.toNat, by omega⟩
  have hge : 9223372036854775808 ≤ un t2 * 2 ^ j := by
    have h1 : 2 ^ (BL (un t2) - 1) * 2 ^ j ≤ un t2 * 2 ^ j := Nat.mul_le_mul_right _ hs
    rw [← Nat.pow_add] at h1
    exact Nat.le_trans (Nat.pow_le_pow_right (n := 2) (i := 63) (by decide) (by omega)) h1
  have hlt : A.natAbs < B.natAbs := by
    rw [CA_abs ha, CA_abs hb, ← ht2, show (w.2.2.toInt + (OFF : Int)).toNat = j + ((f a0).2.2.toInt + (OFF : Int)).toNat by omega, Nat.pow_add, ← Nat.mul_assoc]
    exact Nat.mul_lt_mul_of_pos_right (by omega) (Nat.two_pow_pos _)
  have e9 : A.tmod B = A := by
    rw [tmod_c, Nat.mod_eq_of_lt hlt]
    split <;> omega
  rw [e9]; exact UPD_id ha
theorem rz_n {w : V3} {B : Int} {s2 t2 d : Int64} {gap n1 n2 z : Int32} {Q : Prop} (hb : CA w (.inr (.inl B))) (b0 : B ≠ 0) (ht2 : un t2 = w.2.1.toInt.natAbs) (hz : z.toInt = 64 - (BL (un t2) : Int)) (c : gap < 0) (en : n1 = -gap) (cz : ¬ z ≤ n1) (hs2 : un s2 = w.2.1.toInt.natAbs) (en2 : n2 = -gap) (ed : d = s2 <<< (n2.toInt64 &&& 63)) (q : d = 0) : Q := by
  exfalso
  rw [Int32.lt_iff_toInt_lt, I0] at c
  rw [Int32.le_iff_toInt_le] at cz
  have x2 : t2 = s2 := un_inj (ht2.trans hs2.symm)
  subst x2
  have e9 : n2 = n1 := by rw [en2, en]
  subst e9
  have n0 : un t2 ≠ 0 := fun q => b0 ((CA_n0 hb).mpr (by omega))
  have hb0 := BL_ge (T := un t2) (k := 0) (by rw [Nat.pow_zero]; omega)
  have hgr := I_rg gap
  have hn : 0 ≤ n2.toInt ∨ n2.toInt = -2147483648 := by
    rcases Int.lt_or_le gap.toInt (-2147483647) with y | y
    · right
      have : gap = -2147483648 := Int32.toInt_inj.mp (by rw [show (-2147483648 : Int32).toInt = -2147483648 by decide]; omega)
      rw [en2, this]; decide
    · left; rw [en2, I_neg] <;> omega
  rcases hn with hn | hn
  · obtain ⟨j, hj⟩ : ∃ j : Nat, n2.toInt = j := ⟨n2.toInt.toNat, by omega⟩
    have hd := un_shl hj (by omega) ed
    have hlt : un t2 * 2 ^ j < 9223372036854775808 := by
      have h1 : un t2 * 2 ^ j < 2 ^ BL (un t2) * 2 ^ j := Nat.mul_lt_mul_of_pos_right (BL_lt (T := un t2)) (Nat.two_pow_pos j)
      rw [← Nat.pow_add] at h1
      exact Nat.lt_of_lt_of_le h1 (Nat.pow_le_pow_right (n := 2) (j := 63) (by decide) (by omega))
    rw [Nat.mod_eq_of_lt (by omega), q, un0] at hd
    have P := Nat.two_pow_pos j
    rcases Nat.mul_eq_zero.mp hd.symm with y | y
    · exact n0 y
    · omega
  · have e0 : n2 = -2147483648 := Int32.toInt_inj.mp (by rw [hn]; decide)
    rw [e0] at ed
    have : (-2147483648 : Int32).toInt64 &&& 63 = (0 : Int32).toInt64 &&& 63 := by decide
    rw [this] at ed
    have hd := un_shl (y := 0) (k := 0) (by decide) (by decide) ed
    rw [q, un0, Nat.pow_zero, Nat.mul_one, Nat.mod_eq_of_lt (un_lt t2)] at hd
    exact n0 hd.symm
-- remainder
theorem rem_x {a b : AV} (h : a = (.inr (.inr .gt)) ∨ b = (.inr (.inr .gt))) : remR a b = (.inr (.inr .gt)) := by
  rcases h with rfl | rfl
  · cases b using AV_el <;> rfl
  · cases a using AV_el <;> rfl
theorem rem_ia {v : V3} {a b : AV} {r : Int32} (ha : CA v a) (g1 : ISI r v.1) (c1 : ¬ r = 0) : remR a b = (.inr (.inr .gt)) := by
  rcases CA_y ha g1 c1 with ⟨rfl, -⟩ | ⟨rfl, -⟩ <;> cases b using AV_el <;> rfl
theorem rem_z {a b : AV} {r : Int32} (wb : nW b) (h : SG (sg b) r) (c : r = 0) : remR a b = (.inr (.inr .gt)) := by
  have t := SG_t h (sg_3 b)
  rw [c, I0] at t
  cases b using AV_el with
  | w x => exact absurd wb id
  | r B =>
    have hB : B = 0 := Int.sign_eq_zero_iff_zero.mp t.symm
    cases a using AV_el with
    | r A =>
      show (if B = 0 then _ else _) = _
      rw [ifp hB]
    | _ => rfl
  | p => exact absurd t (by decide)
  | m => exact absurd t (by decide)
  | x => cases a using AV_el <;> rfl
theorem rem_i {f f2 : Nat → V3} {a0 a1 : Nat} {a b : AV} {r s sa sb nb : Int32} (ha : CA (f a0) a) (hb : CA (f a1) b) (wa : nW a) (hx : a ≠ (.inr (.inr .gt))) (g1 : ISI r (f a0).1) (c1 : r = 0) (g2 : ISI s (f a1).1) (c2 : ¬ s = 0) (h1 : SG (sg a) sa) (h2 : SG (sg b) sb) (en : nb = -sb) (h : (sa = nb ∧ f2 = va_up f a0 (f a1)) ∨ (¬ sa = nb ∧ f2 = f)) : UPD f f2 a0 (remR a b) := by
  obtain ⟨A, rfl⟩ := CA_r ha g1 c1 wa hx
  have t1 : sa.toInt = A.sign := SG_t h1 (sg_3 (.inr (.inl A)))
  have t2 := SG_t h2 (sg_3 b)
  have t3 : nb.toInt = -sg b := by rw [en, I_neg, t2] <;> rcases sg_3 b with q | q | q <;> omega
  have hs : sa = nb ↔ A.sign = -sg b := by rw [← t1, ← t3]; exact Int32.toInt_inj.symm
  rcases CA_y hb g2 c2 with ⟨rfl, -⟩ | ⟨rfl, -⟩
  · show UPD f f2 a0 (if A < 0 then (.inr (.inr .lt)) else .inr (.inl A))
    rcases sign_c A with ⟨q, y⟩ | ⟨q, y⟩ | ⟨q, y⟩
    · rw [ifp q]
      rcases h with ⟨-, z⟩ | ⟨z, -⟩
      · exact up_b hb z rfl
      · exact absurd (hs.mpr (by rw [y]; rfl)) z
    · rw [ifn (by omega)]
      rcases h with ⟨z, -⟩ | ⟨-, z⟩
      · have := hs.mp z; rw [y] at this; exact absurd this (by decide)
      · rw [z]; exact UPD_id ha
    · rw [ifn (by omega)]
      rcases h with ⟨z, -⟩ | ⟨-, z⟩
      · have := hs.mp z; rw [y] at this; exact absurd this (by decide)
      · rw [z]; exact UPD_id ha
  · show UPD f f2 a0 (if 0 < A then (.inr (.inr .eq)) else .inr (.inl A))
    rcases sign_c A with ⟨q, y⟩ | ⟨q, y⟩ | ⟨q, y⟩
    · rw [ifn (by omega)]
      rcases h with ⟨z, -⟩ | ⟨-, z⟩
      · have := hs.mp z; rw [y] at this; exact absurd this (by decide)
      · rw [z]; exact UPD_id ha
    · rw [ifn (by omega)]
      rcases h with ⟨z, -⟩ | ⟨-, z⟩
      · have := hs.mp z; rw [y] at this; exact absurd this (by decide)
      · rw [z]; exact UPD_id ha
    · rw [ifp q]
      rcases h with ⟨-, z⟩ | ⟨z, -⟩
      · exact up_b hb z rfl
      · exact absurd (hs.mpr (by rw [y]; rfl)) z
theorem rem_f {f f1 f2 : Nat → V3} {a0 a1 : Nat} {a b : AV} {r s z0 : Int32} {n : Int64} (hne : a0 ≠ a1) (ha : CA (f a0) a) (hb : CA (f a1) b) (wa : nW a) (wb : nW b) (hx : a ≠ (.inr (.inr .gt)) ∧ b ≠ (.inr (.inr .gt))) (g1 : ISI r (f a0).1) (c1 : r = 0) (g2 : ISI s (f a1).1) (c2 : s = 0) (h0 : SG (sg b) z0) (c0 : ¬ z0 = 0) (hr : ∀ A B, CA (f a0) (.inr (.inl A)) → CA (f a1) (.inr (.inl B)) → B ≠ 0 → UPD f f1 a0 (.inr (.inl (A.tmod B)))) (en : n = (f1 a0).2.1)
    (h : (n = 0 ∧ f2 = f1) ∨ (¬ n = 0 ∧ ∃ sa sb : Int32, (∀ a, CA (f1 a0) a → SG (sg a) sa) ∧ (∀ a, CA (f1 a1) a → SG (sg a) sb) ∧ ((sa = sb ∧ f2 = f1) ∨ (¬ sa = sb ∧ ∀ A B, CA (f1 a1) (.inr (.inl A)) → CA (f1 a0) (.inr (.inl B)) → A ≠ 0 → B ≠ 0 → B.natAbs ≤ A.natAbs → UPD f1 f2 a0 (rnd (decide (A < 0)) (A + B).natAbs false))))) : UPD f f2 a0 (remR a b) := by
  obtain ⟨A, rfl⟩ := CA_r ha g1 c1 wa hx.1
  obtain ⟨B, rfl⟩ := CA_r hb g2 c2 wb hx.2
  have t0 : z0.toInt = B.sign := SG_t h0 (sg_3 (.inr (.inl B)))
  have hB : B ≠ 0 := fun q => c0 (Int32.toInt_inj.mp (by rw [t0, q, I0]; rfl))
  have u1 := hr A B ha hb hB
  have x1 := UPD_at u1
  have x2 : CA (f1 a1) (.inr (.inl B)) := by rw [UPD_ne u1 (Ne.symm hne)]; exact hb
  show UPD f f2 a0 (if B = 0 then _ else if A.tmod B ≠ 0 ∧ (A.tmod B).sign ≠ B.sign then rnd (decide (A.tmod B + B < 0)) (A.tmod B + B).natAbs false else .inr (.inl (A.tmod B)))
  rw [ifn hB]
  rcases h with ⟨q, z⟩ | ⟨q, sa, sb, k1, k2, h⟩
  · have : A.tmod B = 0 := (CA_n0 x1).mpr (by rw [← en, q, L0z])
    rw [ifn (fun y => y.1 this), z]; exact u1
  · have hR : A.tmod B ≠ 0 := fun y => q (Int64.toInt_inj.mp (by rw [en, (CA_n0 x1).mp y, L0z]))
    have hs := sg_eq (A := A.tmod B) (B := B) (k1 _ x1) (k2 _ x2)
    rcases h with ⟨y, z⟩ | ⟨y, z⟩
    · rw [ifn (fun w => w.2 (hs.mp y)), z]; exact u1
    · rw [ifp ⟨hR, fun w => y (hs.mpr w)⟩]
      have hle : (A.tmod B).natAbs ≤ B.natAbs := by
        rw [Int.natAbs_tmod]
        exact Nat.le_of_lt (Nat.mod_lt _ (by omega))
      have := z B (A.tmod B) x2 x1 hB hR hle
      rw [rnd_sgn hle, Int.add_comm B] at this
      exact UPD_2 u1 this
end
