noncomputable section
theorem ng_0 {v : V3} {A : Int} {n : Int64} (h : CA v (.inr (.inl A))) (e : n = v.2.1) (c : 0 ≤ n) : bb 0 = decide (A < 0) := by
  rw [Int64.le_iff_toInt_le, L0z, e] at c
  have := CA_neg h
  rw [decide_eq_false (by omega)]; rfl
theorem ng_1 {v : V3} {A : Int} {n : Int64} (h : CA v (.inr (.inl A))) (e : n = v.2.1) (c : ¬ 0 ≤ n) : bb 1 = decide (A < 0) := by
  rw [Int64.le_iff_toInt_le, L0z, e] at c
  have := CA_neg h
  rw [decide_eq_true (by omega)]; rfl
def HNN (r k1 k2 : Int32) : Prop := (r = 1 ∧ (k1 = 5 ∨ k2 = 5)) ∨ (r = 0 ∧ ¬ k1 = 5 ∧ ¬ k2 = 5)
theorem hnn_1 {v k1 k2 : Int32} (e : v = k1) (c : v = 5) : HNN 1 k1 k2 := Or.inl ⟨rfl, Or.inl (e ▸ c)⟩
theorem hnn_2 {v k1 k2 : Int32} (e : v = k2) (c : v = 5) : HNN 1 k1 k2 := Or.inl ⟨rfl, Or.inr (e ▸ c)⟩
theorem hnn_0 {v w k1 k2 : Int32} (e : v = k1) (c : ¬ v = 5) (e2 : w = k2) (c2 : ¬ w = 5) : HNN 0 k1 k2 := Or.inr ⟨rfl, e ▸ c, e2 ▸ c2⟩
theorem hnn_y {v w : V3} {a b : AV} {r : Int32} (ha : CA v a) (hb : CA w b) (h : HNN r v.1 w.1) (c : ¬ r = 0) : a = (.inr (.inr .gt)) ∨ b = (.inr (.inr .gt)) := by
  rcases h with ⟨-, q | q⟩ | ⟨q, -⟩
  · exact Or.inl (CA_5 ha rfl q)
  · exact Or.inr (CA_5 hb rfl q)
  · exact absurd q c
theorem hnn_n {v w : V3} {a b : AV} {r : Int32} (ha : CA v a) (hb : CA w b) (h : HNN r v.1 w.1) (c : r = 0) : a ≠ (.inr (.inr .gt)) ∧ b ≠ (.inr (.inr .gt)) := by
  rcases h with ⟨q, -⟩ | ⟨-, q1, q2⟩
  · rw [q] at c; exact absurd c (by decide)
  · constructor
    · intro z; rw [z] at ha; rw [show v = (5, 0, 0) from ha] at q1; exact q1 rfl
    · intro z; rw [z] at hb; rw [show w = (5, 0, 0) from hb] at q2; exact q2 rfl
/-- not infinite, not whole, not the no-number: a real -/
theorem CA_r {v : V3} {a : AV} {r : Int32} (h : CA v a) (g : ISI r v.1) (c : r = 0) (hw : nW a) (hx : a ≠ (.inr (.inr .gt))) : ∃ A, a = .inr (.inl A) := by
  rcases CA_n h g c with ⟨x, q, -⟩ | ⟨A, q, -⟩ | ⟨q, -⟩
  · rw [q] at hw; exact absurd hw id
  · exact ⟨A, q⟩
  · exact absurd q hx
theorem addx_1 {a b : AV} (h : a = (.inr (.inr .gt)) ∨ b = (.inr (.inr .gt))) : addR a b = (.inr (.inr .gt)) := by
  rcases h with rfl | rfl
  · cases b using AV_el <;> rfl
  · cases a using AV_el <;> rfl
theorem ca_5 {v : V3} (h : v = (5, 0, 0)) : CA v (.inr (.inr .gt)) := h
theorem sp5 {f f2 : Nat → V3} {a0 : Nat} {y : AV} (e : f2 = va_up f a0 (5, 0, 0)) (h : y = (.inr (.inr .gt))) : UPD f f2 a0 y := ⟨_, e, by rw [h]; rfl⟩
theorem add_1 {v w : V3} {a b : AV} {r s : Int32} (ha : CA v a) (hb : CA w b) (wb : nW b) (g1 : ISI r v.1) (c1 : ¬ r = 0) (g2 : ISI s w.1) (c2 : s = 0) (hx : b ≠ (.inr (.inr .gt))) : addR a b = a := by
  obtain ⟨B, rfl⟩ := CA_r hb g2 c2 wb hx
  rcases CA_y ha g1 c1 with ⟨rfl, -⟩ | ⟨rfl, -⟩ <;> rfl
theorem add_2 {v w : V3} {a b : AV} {r s k1 k2 : Int32} (ha : CA v a) (hb : CA w b) (g1 : ISI r v.1) (c1 : ¬ r = 0) (g2 : ISI s w.1) (c2 : ¬ s = 0) (e1 : k1 = v.1) (e2 : k2 = w.1) (c : k1 = k2) : addR a b = a := by
  rcases CA_y ha g1 c1 with ⟨rfl, h1⟩ | ⟨rfl, h1⟩ <;> rcases CA_y hb g2 c2 with ⟨rfl, h2⟩ | ⟨rfl, h2⟩
  · rfl
  · rw [e1, e2, h1, h2] at c; exact absurd c (by decide)
  · rw [e1, e2, h1, h2] at c; exact absurd c (by decide)
  · rfl
theorem add_3 {v w : V3} {a b : AV} {r s k1 k2 : Int32} (ha : CA v a) (hb : CA w b) (g1 : ISI r v.1) (c1 : ¬ r = 0) (g2 : ISI s w.1) (c2 : ¬ s = 0) (e1 : k1 = v.1) (e2 : k2 = w.1) (c : ¬ k1 = k2) : addR a b = (.inr (.inr .gt)) := by
  rcases CA_y ha g1 c1 with ⟨rfl, h1⟩ | ⟨rfl, h1⟩ <;> rcases CA_y hb g2 c2 with ⟨rfl, h2⟩ | ⟨rfl, h2⟩
  · rw [e1, e2, h1, h2] at c; exact absurd rfl c
  · rfl
  · rfl
  · rw [e1, e2, h1, h2] at c; exact absurd rfl c
theorem add_4 {v w : V3} {a b : AV} {r s : Int32} (ha : CA v a) (hb : CA w b) (wa : nW a) (hx : a ≠ (.inr (.inr .gt))) (g1 : ISI r v.1) (c1 : r = 0) (g2 : ISI s w.1) (c2 : ¬ s = 0) : addR a b = b := by
  obtain ⟨A, rfl⟩ := CA_r ha g1 c1 wa hx
  rcases CA_y hb g2 c2 with ⟨rfl, -⟩ | ⟨rfl, -⟩ <;> rfl
theorem add_5 {v w : V3} {a b : AV} {r s : Int32} {n : Int64} (ha : CA v a) (hb : CA w b) (wa : nW a) (wb : nW b) (hx : a ≠ (.inr (.inr .gt)) ∧ b ≠ (.inr (.inr .gt))) (g1 : ISI r v.1) (c1 : r = 0) (g2 : ISI s w.1) (c2 : s = 0) (e : n = v.2.1) (c : n = 0) : addR a b = b := by
  obtain ⟨A, rfl⟩ := CA_r ha g1 c1 wa hx.1
  obtain ⟨B, rfl⟩ := CA_r hb g2 c2 wb hx.2
  have : A = 0 := (CA_n0 ha).mpr (by rw [← e, c, L0z])
  show (if A = 0 then _ else _) = _
  rw [ifp this]
theorem add_6 {v w : V3} {a b : AV} {r s : Int32} {n m : Int64} (ha : CA v a) (hb : CA w b) (wa : nW a) (wb : nW b) (hx : a ≠ (.inr (.inr .gt)) ∧ b ≠ (.inr (.inr .gt))) (g1 : ISI r v.1) (c1 : r = 0) (g2 : ISI s w.1) (c2 : s = 0) (e : n = v.2.1) (c : ¬ n = 0) (em : m = w.2.1) (cm : m = 0) : addR a b = a := by
  obtain ⟨A, rfl⟩ := CA_r ha g1 c1 wa hx.1
  obtain ⟨B, rfl⟩ := CA_r hb g2 c2 wb hx.2
  have hA : ¬ A = 0 := fun q => c (Int64.toInt_inj.mp (by rw [e, (CA_n0 ha).mp q, L0z]))
  have hB : B = 0 := (CA_n0 hb).mpr (by rw [← em, cm, L0z])
  show (if A = 0 then _ else if B = 0 then _ else _) = _
  rw [ifn hA, ifp hB]
theorem add_7 {f f2 : Nat → V3} {a0 a1 : Nat} {a b : AV} {r s q : Int32} {n m : Int64} (ha : CA (f a0) a) (hb : CA (f a1) b) (wa : nW a) (wb : nW b) (hx : a ≠ (.inr (.inr .gt)) ∧ b ≠ (.inr (.inr .gt))) (g1 : ISI r (f a0).1) (c1 : r = 0) (g2 : ISI s (f a1).1) (c2 : s = 0) (e : n = (f a0).2.1) (c : ¬ n = 0) (em : m = (f a1).2.1) (cm : ¬ m = 0)
    (ho : ∀ A B, CA (f a0) (.inr (.inl A)) → CA (f a1) (.inr (.inl B)) → A ≠ 0 → B ≠ 0 → CMPN A.natAbs B.natAbs q)
    (h : (¬ q < 0 ∧ ∀ A B, CA (f a0) (.inr (.inl A)) → CA (f a1) (.inr (.inl B)) → A ≠ 0 → B ≠ 0 → B.natAbs ≤ A.natAbs → UPD f f2 a0 (rnd (decide (A < 0)) (A + B).natAbs false)) ∨ (q < 0 ∧ ∀ A B, CA (f a1) (.inr (.inl A)) → CA (f a0) (.inr (.inl B)) → A ≠ 0 → B ≠ 0 → B.natAbs ≤ A.natAbs → UPD f f2 a0 (rnd (decide (A < 0)) (A + B).natAbs false))) : UPD f f2 a0 (addR a b) := by
  obtain ⟨A, rfl⟩ := CA_r ha g1 c1 wa hx.1
  obtain ⟨B, rfl⟩ := CA_r hb g2 c2 wb hx.2
  have hA : ¬ A = 0 := fun q => c (Int64.toInt_inj.mp (by rw [e, (CA_n0 ha).mp q, L0z]))
  have hB : ¬ B = 0 := fun q => cm (Int64.toInt_inj.mp (by rw [em, (CA_n0 hb).mp q, L0z]))
  show UPD f f2 a0 (if A = 0 then _ else if B = 0 then _ else _)
  rw [ifn hA, ifn hB]
  have hc := ho A B ha hb hA hB
  rcases h with ⟨hq, h⟩ | ⟨hq, h⟩
  · have hle : B.natAbs ≤ A.natAbs := by
      rcases hc with ⟨z, -⟩ | ⟨-, z⟩ | ⟨-, z⟩
      · rw [z] at hq; exact absurd (by decide) hq
      · omega
      · omega
    rw [← rnd_sgn hle]; exact h A B ha hb hA hB hle
  · have hle : A.natAbs ≤ B.natAbs := by
      rcases hc with ⟨-, z⟩ | ⟨z, -⟩ | ⟨z, -⟩
      · omega
      · rw [z] at hq; exact absurd hq (by decide)
      · rw [z] at hq; exact absurd hq (by decide)
    rw [Int.add_comm A B, ← rnd_sgn hle]; exact h B A hb ha hB hA hle
theorem up_b {f f2 : Nat → V3} {a0 a1 : Nat} {b y : AV} (hb : CA (f a1) b) (e : f2 = va_up f a0 (f a1)) (h : y = b) : UPD f f2 a0 y := ⟨_, e, by rw [h]; exact hb⟩
theorem up_a {f : Nat → V3} {a0 : Nat} {a y : AV} (ha : CA (f a0) a) (h : y = a) : UPD f f a0 y := by rw [h]; exact UPD_id ha
-- multiply
theorem inS_x {s : Int32} {z : Int} (h : s.toInt = z) (c : s = 0) : inS z = (.inr (.inr .gt)) := by
  have : z = 0 := by rw [← h, c, I0]
  rw [this]; rfl
theorem inS_v {s : Int32} {z : Int} (p : Int32) (h : s.toInt = z) (c : ¬ s = 0) (hp : (0 ≤ s ∧ p = 0) ∨ (¬ 0 ≤ s ∧ p = 1)) : CA (if p = 0 then 3 else 4, 0, 0) (inS z) := by
  have h0 : z ≠ 0 := fun q => c (Int32.toInt_inj.mp (by rw [h, q, I0]))
  unfold inS
  rw [ifn h0]
  rcases hp with ⟨q, rfl⟩ | ⟨q, rfl⟩
  · rw [Int32.le_iff_toInt_le, I0, h] at q
    rw [ifn (show ¬ z < 0 by omega)]; rfl
  · rw [Int32.le_iff_toInt_le, I0, h] at q
    rw [ifp (show z < 0 by omega)]; rfl
theorem sg_mul {a b : AV} {r s t : Int32} (h1 : SG (sg a) r) (h2 : SG (sg b) s) (e : t = r * s) : t.toInt = sg a * sg b := by
  have x := SG_t h1 (sg_3 a)
  have y := SG_t h2 (sg_3 b)
  have hb : -1 ≤ sg a * sg b ∧ sg a * sg b ≤ 1 := by
    rcases sg_3 a with p | p | p <;> rcases sg_3 b with q | q | q <;> rw [p, q] <;> decide
  rw [e, Int32.toInt_mul, x, y]
  exact n_bi (by omega) (by omega)
theorem mulx {a b : AV} (h : a = (.inr (.inr .gt)) ∨ b = (.inr (.inr .gt))) : mulR a b = (.inr (.inr .gt)) := by
  rcases h with rfl | rfl
  · cases b using AV_el <;> rfl
  · cases a using AV_el <;> rfl
theorem mul_i1 {v : V3} {a b : AV} {r : Int32} (ha : CA v a) (hx : a ≠ (.inr (.inr .gt)) ∧ b ≠ (.inr (.inr .gt))) (g : ISI r v.1) (c : ¬ r = 0) : mulR a b = inS (sg a * sg b) := by
  rcases CA_y ha g c with ⟨rfl, -⟩ | ⟨rfl, -⟩ <;> cases b using AV_el <;> first | rfl | exact absurd rfl hx.2
theorem mul_i2 {w : V3} {a b : AV} {s : Int32} (hb : CA w b) (hx : a ≠ (.inr (.inr .gt)) ∧ b ≠ (.inr (.inr .gt))) (g : ISI s w.1) (c : ¬ s = 0) : mulR a b = inS (sg a * sg b) := by
  rcases CA_y hb g c with ⟨rfl, -⟩ | ⟨rfl, -⟩ <;> cases a using AV_el <;> first | rfl | exact absurd rfl hx.1
theorem mul_fin {f f2 : Nat → V3} {a0 a1 : Nat} {a b : AV} {r s t : Int32} (p : Int32) (ha : CA (f a0) a) (hb : CA (f a1) b) (wa : nW a) (wb : nW b) (hx : a ≠ (.inr (.inr .gt)) ∧ b ≠ (.inr (.inr .gt))) (g1 : ISI r (f a0).1) (c1 : r = 0) (g2 : ISI s (f a1).1) (c2 : s = 0) (ht : t.toInt = sg a * sg b) (hp : (0 ≤ t ∧ p = 0) ∨ (¬ 0 ≤ t ∧ p = 1)) (h : ∀ A B, CA (f a0) (.inr (.inl A)) → CA (f a1) (.inr (.inl B)) → UPD f f2 a0 (rnd (bb p) (A.natAbs * B.natAbs / W1) false)) : UPD f f2 a0 (mulR a b) := by
  obtain ⟨A, rfl⟩ := CA_r ha g1 c1 wa hx.1
  obtain ⟨B, rfl⟩ := CA_r hb g2 c2 wb hx.2
  have h1 := h A B ha hb
  have e : bb p = decide (A.sign * B.sign < 0) := by
    rw [show A.sign * B.sign = t.toInt from ht.symm]
    rcases hp with ⟨q, rfl⟩ | ⟨q, rfl⟩
    · rw [Int32.le_iff_toInt_le, I0] at q
      rw [decide_eq_false (by omega)]; rfl
    · rw [Int32.le_iff_toInt_le, I0] at q
      rw [decide_eq_true (by omega)]; rfl
  rw [e] at h1
  exact h1
end
