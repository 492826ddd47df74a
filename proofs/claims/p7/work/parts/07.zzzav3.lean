noncomputable section
theorem W1_x : ∃ t : Nat, t = 2 ^ OFF := Exists.intro _ rfl
def W1 : Nat := Classical.choose W1_x
theorem W1_eq : W1 = 2 ^ OFF := Classical.choose_spec W1_x
theorem W1_pos : 0 < W1 := W1_eq.symm ▸ Nat.two_pow_pos _
theorem W1_i : (W1 : Int) = 2 ^ OFF := by rw [W1_eq]; push_cast; rfl
theorem W1_top : W1 * 2 ^ 1024 = TOP := by rw [W1_eq, ← Nat.pow_add, TOP_e, Nat.add_comm]
theorem W1_e2 : W1 = 2 ^ OFF := W1_eq
def sg : AV → Int
  | .inl v => v.toInt.sign
  | .inr (.inl A) => A.sign
  | (.inr (.inr .lt)) => 1
  | (.inr (.inr .eq)) => -1
  | (.inr (.inr .gt)) => 0
def ng : AV → AV
  | .inl v => .inl (-v)
  | .inr (.inl A) => .inr (.inl (-A))
  | (.inr (.inr .lt)) => (.inr (.inr .eq))
  | (.inr (.inr .eq)) => (.inr (.inr .lt))
  | (.inr (.inr .gt)) => (.inr (.inr .gt))
def rndW (v : Int) : AV := rnd (decide (v < 0)) (v.natAbs * W1) false
def turn : AV → AV
  | .inl v => rndW v.toInt
  | a => a
def flr : AV → AV
  | .inr (.inl A) => .inr (.inl (A / W1 * W1))
  | a => a
def cw : AV → Prop
  | .inl _ => True
  | .inr (.inl A) => A % W1 = 0 ∧ -9223372036854775808 ≤ A / W1 ∧ A / W1 < 9223372036854775808
  | _ => False
def wi : AV → Int
  | .inl v => v.toInt
  | .inr (.inl A) => A / W1
  | _ => 0
def UPD (f f' : Nat → V3) (a : Nat) (x : AV) : Prop := ∃ v, f' = va_up f a v ∧ CA v x
theorem va_up_id (f : Nat → V3) (a : Nat) : f = va_up f a (f a) := by
  funext b
  by_cases h : b = a
  · subst h; rw [va_up_self]
  · rw [va_up_ne _ _ h]
theorem UPD_id {f : Nat → V3} {a : Nat} {x : AV} (h : CA (f a) x) : UPD f f a x := ⟨_, va_up_id f a, h⟩
theorem UPD_2 {f f1 f2 : Nat → V3} {a : Nat} {x y : AV} (h1 : UPD f f1 a x) (h2 : UPD f1 f2 a y) : UPD f f2 a y := by
  obtain ⟨v, e1, -⟩ := h1
  obtain ⟨w, e2, h⟩ := h2
  refine ⟨w, ?_, h⟩
  rw [e2, e1]
  funext b
  by_cases q : b = a
  · subst q; rw [va_up_self, va_up_self]
  · rw [va_up_ne _ _ q, va_up_ne _ _ q, va_up_ne _ _ q]
theorem UPD_at {f f1 : Nat → V3} {a : Nat} {x : AV} (h : UPD f f1 a x) : CA (f1 a) x := by
  obtain ⟨v, e, h⟩ := h
  rw [e, va_up_self]; exact h
theorem UPD_ne {f f1 : Nat → V3} {a b : Nat} {x : AV} (h : UPD f f1 a x) (q : b ≠ a) : f1 b = f b := by
  obtain ⟨v, e, h⟩ := h
  rw [e, va_up_ne _ _ q]
theorem sc_nn {n e : Int} (h : 0 ≤ e) : sc n e = n * 2 ^ e.toNat * W1 := by
  have hO : (OFF : Int) = 6000 := rfl
  have hO' : OFF = 6000 := rfl
  rw [sc, W1_i, Int.mul_assoc, ← Int.pow_add]
  congr 2
  omega
theorem sc_ng {n e : Int} {j : Nat} (h : e = -(j : Int)) (hj : j ≤ 6000) : sc n e = n * 2 ^ (OFF - j) ∧ (W1 : Int) = 2 ^ j * 2 ^ (OFF - j) := by
  have hO : (OFF : Int) = 6000 := rfl
  have hO' : OFF = 6000 := rfl
  refine ⟨?_, ?_⟩
  · rw [sc]; congr 2; omega
  · rw [W1_i, ← Int.pow_add]; congr 1; omega
theorem ip_pos (k : Nat) : (0 : Int) < 2 ^ k := Int.pow_pos (by decide)
theorem CN_e {n : Int64} {e : Int32} (h : CN n e) : n.toInt.natAbs < 9007199254740992 ∧ -1074 ≤ e.toInt ∧ e.toInt ≤ 971 := by
  rcases h with ⟨rfl, rfl⟩ | h
  · decide
  · exact ⟨h.2.1, h.2.2.1, h.2.2.2.1⟩
theorem sc_sign {n e : Int} : (sc n e).sign = n.sign := by
  rw [sc, Int.sign_mul, Int.sign_eq_one_of_pos (ip_pos _), Int.mul_one]
theorem CA_k {v : V3} {a : AV} (h : CA v a) : (v.1 = 1 ∧ ∃ x, a = .inl x ∧ v = (1, x, 0)) ∨ (v.1 = 2 ∧ ∃ A, a = .inr (.inl A) ∧ CN v.2.1 v.2.2 ∧ sc v.2.1.toInt v.2.2.toInt = A) ∨ (v.1 = 3 ∧ a = (.inr (.inr .lt)) ∧ v = (3, 0, 0)) ∨ (v.1 = 4 ∧ a = (.inr (.inr .eq)) ∧ v = (4, 0, 0)) ∨ (v.1 = 5 ∧ a = (.inr (.inr .gt)) ∧ v = (5, 0, 0)) := by
  cases a using AV_el with
  | w x => left; exact ⟨by rw [show v = (1, x, 0) from h], x, rfl, h⟩
  | r A => right; left; exact ⟨h.1, A, rfl, h.2⟩
  | p => right; right; left; exact ⟨by rw [show v = (3, 0, 0) from h], rfl, h⟩
  | m => right; right; right; left; exact ⟨by rw [show v = (4, 0, 0) from h], rfl, h⟩
  | x => right; right; right; right; exact ⟨by rw [show v = (5, 0, 0) from h], rfl, h⟩
/-- kinds as the tests see them -/
theorem CA_1 {v : V3} {a : AV} {k : Int32} (h : CA v a) (e : k = v.1) (c : k = 1) : ∃ x, a = .inl x ∧ v = (1, x, 0) := by
  rcases CA_k h with ⟨-, q⟩ | ⟨q, -⟩ | ⟨q, -⟩ | ⟨q, -⟩ | ⟨q, -⟩
  · exact q
  all_goals (exfalso; rw [e, q] at c; exact absurd c (by decide))
theorem CA_2 {v : V3} {a : AV} {k : Int32} (h : CA v a) (e : k = v.1) (c : k = 2) : ∃ A, a = .inr (.inl A) ∧ CN v.2.1 v.2.2 ∧ sc v.2.1.toInt v.2.2.toInt = A := by
  rcases CA_k h with ⟨q, -⟩ | ⟨-, q⟩ | ⟨q, -⟩ | ⟨q, -⟩ | ⟨q, -⟩
  · exfalso; rw [e, q] at c; exact absurd c (by decide)
  · exact q
  all_goals (exfalso; rw [e, q] at c; exact absurd c (by decide))
theorem CA_5 {v : V3} {a : AV} {k : Int32} (h : CA v a) (e : k = v.1) (c : k = 5) : a = (.inr (.inr .gt)) := by
  rcases CA_k h with ⟨q, -⟩ | ⟨q, -⟩ | ⟨q, -⟩ | ⟨q, -⟩ | ⟨-, q, -⟩
  · exfalso; rw [e, q] at c; exact absurd c (by decide)
  · exfalso; rw [e, q] at c; exact absurd c (by decide)
  · exfalso; rw [e, q] at c; exact absurd c (by decide)
  · exfalso; rw [e, q] at c; exact absurd c (by decide)
  · exact q
def isInf : AV → Prop
  | (.inr (.inr .lt)) => True
  | (.inr (.inr .eq)) => True
  | _ => False
theorem CA_inf {v : V3} {a : AV} {r : Int32} (h : CA v a) (g : ISI r v.1) : (r = 1 ∧ isInf a) ∨ (r = 0 ∧ ¬ isInf a) := by
  rcases g with ⟨g1, g2⟩ | ⟨g1, g2, g3⟩
  · left; refine ⟨g1, ?_⟩
    rcases CA_k h with ⟨q, -⟩ | ⟨q, -⟩ | ⟨-, q, -⟩ | ⟨-, q, -⟩ | ⟨q, -⟩
    · rw [q] at g2; exact absurd g2 (by decide)
    · rw [q] at g2; exact absurd g2 (by decide)
    · rw [q]; trivial
    · rw [q]; trivial
    · rw [q] at g2; exact absurd g2 (by decide)
  · right; refine ⟨g1, ?_⟩
    rcases CA_k h with ⟨-, x, q, -⟩ | ⟨-, A, q, -⟩ | ⟨q, -⟩ | ⟨q, -⟩ | ⟨-, q, -⟩
    · rw [q]; exact id
    · rw [q]; exact id
    · exact absurd q g2
    · exact absurd q g3
    · rw [q]; exact id
theorem CA_y {v : V3} {a : AV} {r : Int32} (h : CA v a) (g : ISI r v.1) (c : ¬ r = 0) : (a = (.inr (.inr .lt)) ∧ v.1 = 3) ∨ (a = (.inr (.inr .eq)) ∧ v.1 = 4) := by
  rcases g with ⟨g1, g2⟩ | ⟨g1, -⟩
  · rcases CA_k h with ⟨q, -⟩ | ⟨q, -⟩ | ⟨q1, q, -⟩ | ⟨q1, q, -⟩ | ⟨q, -⟩
    · rw [q] at g2; exact absurd g2 (by decide)
    · rw [q] at g2; exact absurd g2 (by decide)
    · exact Or.inl ⟨q, q1⟩
    · exact Or.inr ⟨q, q1⟩
    · rw [q] at g2; exact absurd g2 (by decide)
  · exact absurd g1 c
theorem CA_n {v : V3} {a : AV} {r : Int32} (h : CA v a) (g : ISI r v.1) (c : r = 0) : (∃ x, a = .inl x ∧ v = (1, x, 0)) ∨ (∃ A, a = .inr (.inl A) ∧ CN v.2.1 v.2.2 ∧ sc v.2.1.toInt v.2.2.toInt = A) ∨ (a = (.inr (.inr .gt)) ∧ v = (5, 0, 0)) := by
  rcases g with ⟨g1, g2⟩ | ⟨g1, g2, g3⟩
  · rw [g1] at c; exact absurd c (by decide)
  · rcases CA_k h with ⟨-, q⟩ | ⟨-, q⟩ | ⟨q, -⟩ | ⟨q, -⟩ | ⟨-, q⟩
    · exact Or.inl q
    · exact Or.inr (Or.inl q)
    · exact absurd q g2
    · exact absurd q g3
    · exact Or.inr (Or.inr q)
-- sign
def SG (s : Int) (r : Int32) : Prop := (r = -1 ∧ s < 0) ∨ (r = 0 ∧ s = 0) ∨ (r = 1 ∧ 0 < s)
theorem SG_t {s : Int} {r : Int32} (h : SG s r) (hs : s = 1 ∨ s = 0 ∨ s = -1) : r.toInt = s := by
  rcases h with ⟨h, q⟩ | ⟨h, q⟩ | ⟨h, q⟩ <;> rw [h]
  · rw [show (-1 : Int32).toInt = -1 by decide]; omega
  · rw [I0]; omega
  · rw [I1]; omega
theorem sg_3 (a : AV) : sg a = 1 ∨ sg a = 0 ∨ sg a = -1 := by
  have h : ∀ z : Int, z.sign = 1 ∨ z.sign = 0 ∨ z.sign = -1 := fun z => by
    rcases Int.lt_trichotomy z 0 with q | q | q
    · right; right; exact Int.sign_eq_neg_one_of_neg q
    · right; left; rw [q]; rfl
    · left; exact Int.sign_eq_one_of_pos q
  cases a using AV_el with
  | w v => exact h _
  | r A => exact h _
  | p => left; rfl
  | m => right; right; rfl
  | x => right; left; rfl
theorem sign_SG {n : Int64} {r : Int32} {z : Int} (h : SGN n r) (e : z.sign = n.toInt.sign) : SG z.sign r := by
  rw [e]
  rcases h with ⟨h, q⟩ | ⟨h, q⟩ | ⟨h, q⟩
  · left; exact ⟨h, by rw [Int.sign_eq_neg_one_of_neg q]; decide⟩
  · right; left; exact ⟨h, by rw [q]; rfl⟩
  · right; right; exact ⟨h, by rw [Int.sign_eq_one_of_pos q]; decide⟩
theorem sign_p {v : V3} {a : AV} {r k : Int32} (h : CA v a) (g : ISI r v.1) (c : ¬ r = 0) (e : k = v.1) (c2 : k = 3) : SG (sg a) 1 := by
  rcases CA_y h g c with ⟨q, -⟩ | ⟨-, q⟩
  · rw [q]; right; right; exact ⟨rfl, by decide⟩
  · rw [e, q] at c2; exact absurd c2 (by decide)
theorem sign_m {v : V3} {a : AV} {r k : Int32} (h : CA v a) (g : ISI r v.1) (c : ¬ r = 0) (e : k = v.1) (c2 : ¬ k = 3) : SG (sg a) (-1) := by
  rcases CA_y h g c with ⟨-, q⟩ | ⟨q, -⟩
  · rw [e, q] at c2; exact absurd rfl c2
  · rw [q]; left; exact ⟨rfl, by decide⟩
theorem sign_f {v : V3} {a : AV} {r s : Int32} {n : Int64} (h : CA v a) (g : ISI r v.1) (c : r = 0) (e : n = v.2.1) (hs : SGN n s) : SG (sg a) s := by
  rcases CA_n h g c with ⟨x, q, hv⟩ | ⟨A, q, -, hA⟩ | ⟨q, hv⟩
  · rw [q]; refine sign_SG hs ?_; rw [e, hv]
  · rw [q]; refine sign_SG hs ?_; rw [e, ← hA, sc_sign]
  · rw [q]
    rw [e, hv] at hs
    rcases hs with ⟨_, z⟩ | ⟨z, -⟩ | ⟨_, z⟩
    · exact absurd z (by decide)
    · right; left; exact ⟨z, rfl⟩
    · exact absurd z (by decide)
-- negate
theorem CN_neg {n v : Int64} {e : Int32} (h : CN n e) (ev : v = -n) : CN v e ∧ v.toInt = -n.toInt := by
  have hb := (CN_e h).1
  have e1 : v.toInt = -n.toInt := by rw [ev, L_neg (by omega)]
  refine ⟨?_, e1⟩
  rcases h with ⟨rfl, h2⟩ | ⟨h0, h1, h2, h3, h4⟩
  · left; exact ⟨by rw [ev]; decide, h2⟩
  · right
    refine ⟨fun q => h0 (Int64.toInt_inj.mp ?_), by omega, h2, h3, ?_⟩
    · rw [q, L0z] at e1; rw [L0z]; omega
    · rcases h4 with q | q
      · left; omega
      · right; exact q
theorem neg_f {f f2 : Nat → V3} {a0 : Nat} {a : AV} {r : Int32} {n v : Int64} (h : CA (f a0) a) (g : ISI r (f a0).1) (c : r = 0) (e : n = (f a0).2.1) (ev : v = -n) (e2 : f2 = va_up f a0 ((f a0).1, v, (f a0).2.2)) : UPD f f2 a0 (ng a) := by
  refine ⟨_, e2, ?_⟩
  rcases CA_n h g c with ⟨x, q, hv⟩ | ⟨A, q, hc, hA⟩ | ⟨q, hv⟩
  · rw [q, ev, e, hv]; rfl
  · rw [q]
    obtain ⟨h1, h2⟩ := CN_neg hc (v := v) (by rw [ev, e])
    rw [q] at h
    refine ⟨h.1, h1, ?_⟩
    show sc v.toInt _ = -A
    rw [h2, ← hA, sc, sc, Int.neg_mul]
  · rw [q, ev, e, hv]; rfl
theorem neg_i {f f2 : Nat → V3} {a0 : Nat} {a : AV} {r k : Int32} (p : Int32) (h : CA (f a0) a) (g : ISI r (f a0).1) (c : ¬ r = 0) (e : k = (f a0).1) (hp : (k = 3 ∧ p = 1) ∨ (¬ k = 3 ∧ p = 0)) (e2 : f2 = va_up f a0 (if p = 0 then 3 else 4, 0, 0)) : UPD f f2 a0 (ng a) := by
  refine ⟨_, e2, ?_⟩
  rcases CA_y h g c with ⟨q, z⟩ | ⟨q, z⟩
  · rcases hp with ⟨-, y⟩ | ⟨y, -⟩
    · rw [q, y]; rfl
    · exact absurd (e.trans z) y
  · rcases hp with ⟨y, -⟩ | ⟨-, y⟩
    · rw [e, z] at y; exact absurd y (by decide)
    · rw [q, y]; rfl
-- setReal, turnReal
theorem sr_c {p : Int64} {s : Int64} {u : Int32} (h : un s = p.toInt.natAbs) (hc : (p.toInt.natAbs < 9223372036854775808 ∨ u.toInt = 0) ∧ -5000 ≤ u.toInt ∧ u.toInt ≤ 5000) : SNC s u := by
  have := L_rg p
  refine ⟨?_, hc.2⟩
  rcases hc.1 with q | q
  · left; omega
  · rcases Nat.lt_or_ge p.toInt.natAbs 9223372036854775808 with z | z
    · left; omega
    · right; exact ⟨by omega, q⟩
def SRC (p : Int64) (u : Int32) : Prop := (p.toInt.natAbs < 9223372036854775808 ∨ u.toInt = 0) ∧ -5000 ≤ u.toInt ∧ u.toInt ≤ 5000
def rndS (v : Int) (u : Int) : AV := rnd (decide (v < 0)) (v.natAbs * 2 ^ (u + (OFF : Int)).toNat) false
theorem sr_e {f f2 : Nat → V3} {a0 : Nat} {p s : Int64} {u : Int32} (b : Int32) (hs : un s = p.toInt.natAbs) (hb : bb b = decide (p.toInt < 0)) (h : SNC s u → ∃ v, f2 = va_up f a0 v ∧ CA v (rnd (bb b) (un s * 2 ^ (u.toInt + (OFF : Int)).toNat) (bb 0))) : SRC p u → UPD f f2 a0 (rndS p.toInt u.toInt) := fun hc => by
  obtain ⟨v, h1, h2⟩ := h (sr_c hs hc)
  refine ⟨v, h1, ?_⟩
  rw [hb, hs] at h2
  exact h2
theorem sr_0 {p : Int64} (c : 0 ≤ p) : bb 0 = decide (p.toInt < 0) := by
  rw [Int64.le_iff_toInt_le, L0z] at c
  rw [decide_eq_false (by omega)]; rfl
theorem sr_1 {p : Int64} (c : ¬ 0 ≤ p) : bb 1 = decide (p.toInt < 0) := by
  rw [Int64.le_iff_toInt_le, L0z] at c
  rw [decide_eq_true (by omega)]; rfl
theorem rndS_0 {v : Int} : rndS v (0 : Int32).toInt = rndW v := by
  have hO : (OFF : Int) = 6000 := rfl
  have hO' : OFF = 6000 := rfl
  unfold rndS rndW
  rw [W1_e2, I0]
  congr 3
theorem tr_1 {f f2 : Nat → V3} {a0 : Nat} {a : AV} {k : Int32} {n s : Int64} {b : Int32} (h : CA (f a0) a) (e : k = (f a0).1) (c : k = 1) (en : n = (f a0).2.1) (hb : bb b = decide (n.toInt < 0)) (hs : un s = (f a0).2.1.toInt.natAbs) (hh : SNC s 0 → ∃ v, f2 = va_up f a0 v ∧ CA v (rnd (bb b) (un s * 2 ^ ((0 : Int32).toInt + (OFF : Int)).toNat) (bb 0))) : UPD f f2 a0 (turn a) := by
  obtain ⟨x, q, hv⟩ := CA_1 h e c
  have := sr_e b (p := n) (u := 0) (by rw [en]; exact hs) hb hh ⟨Or.inr I0, by decide, by decide⟩
  rw [rndS_0] at this
  rw [q]
  rw [en, hv] at this
  exact this
theorem tr_0 {f : Nat → V3} {a0 : Nat} {a : AV} {k : Int32} (h : CA (f a0) a) (e : k = (f a0).1) (c : ¬ k = 1) : UPD f f a0 (turn a) := by
  refine UPD_id ?_
  cases a using AV_el with
  | w x => exfalso; rw [show f a0 = (1, x, 0) from h] at e; exact c e
  | r A => exact h
  | p => exact h
  | m => exact h
  | x => exact h
end
