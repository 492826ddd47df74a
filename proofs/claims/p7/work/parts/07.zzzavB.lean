noncomputable section
def ik : AV → Int
  | (.inr (.inr .lt)) => 1
  | (.inr (.inr .eq)) => -1
  | _ => 0
def vi : AV → Int
  | .inl v => v.toInt * W1
  | .inr (.inl A) => A
  | _ => 0
def ordv (a b : AV) : Int := if ik a = 0 ∧ ik b = 0 then vi a - vi b else ik a - ik b
theorem SG_ci {x y r : Int32} (h : CMPI x y r) : SG (x.toInt - y.toInt) r := by
  rcases h with ⟨h, c⟩ | ⟨h, c⟩ | ⟨h, c⟩
  · rw [Int32.lt_iff_toInt_lt] at c; left; exact ⟨h, by omega⟩
  · right; left; exact ⟨h, by rw [c]; omega⟩
  · rw [Int32.lt_iff_toInt_lt] at c; right; right; exact ⟨h, by omega⟩
theorem SG_cl {x y : Int64} {r : Int32} (h : CMPL x y r) : SG (x.toInt - y.toInt) r := by
  rcases h with ⟨h, c⟩ | ⟨h, c⟩ | ⟨h, c⟩
  · rw [Int64.lt_iff_toInt_lt] at c; left; exact ⟨h, by omega⟩
  · right; left; exact ⟨h, by rw [c]; omega⟩
  · rw [Int64.lt_iff_toInt_lt] at c; right; right; exact ⟨h, by omega⟩
theorem SG_of {s t : Int} {r : Int32} (h : SG s r) (h1 : s < 0 → t < 0) (h2 : s = 0 → t = 0) (h3 : 0 < s → 0 < t) : SG t r := by
  rcases h with ⟨h, c⟩ | ⟨h, c⟩ | ⟨h, c⟩
  · left; exact ⟨h, h1 c⟩
  · right; left; exact ⟨h, h2 c⟩
  · right; right; exact ⟨h, h3 c⟩
theorem SG_neg {s : Int} {r v : Int32} (h : SG s r) (e : v = -r) : SG (-s) v := by
  rcases h with ⟨h, c⟩ | ⟨h, c⟩ | ⟨h, c⟩
  · right; right; exact ⟨by rw [e, h]; decide, by omega⟩
  · right; left; exact ⟨by rw [e, h]; decide, by omega⟩
  · left; exact ⟨by rw [e, h], by omega⟩
theorem or_1 {A B : Int} {s1 s2 t1 t2 r : Int32} (h1 : SG A.sign s1) (h2 : SG B.sign s2) (c : ¬ s1 = s2) (k1 : SG A.sign t1) (k2 : SG B.sign t2) (h : CMPI t1 t2 r) : SG (A - B) r := by
  have x1 := SG_t h1 (sg_3 (.inr (.inl A)))
  have x2 := SG_t h2 (sg_3 (.inr (.inl B)))
  have y1 : t1.toInt = A.sign := SG_t k1 (sg_3 (.inr (.inl A)))
  have y2 : t2.toInt = B.sign := SG_t k2 (sg_3 (.inr (.inl B)))
  have hne : ¬ A.sign = B.sign := fun q => c ((sg_eq h1 h2).mpr q)
  have := SG_ci h
  rw [y1, y2] at this
  refine SG_of this ?_ ?_ ?_ <;> rcases sign_c A with p | p | p <;> rcases sign_c B with q | q | q <;> omega
theorem or_2 {A B : Int} {s1 s2 t : Int32} (h1 : SG A.sign s1) (h2 : SG B.sign s2) (c : s1 = s2) (h : SG A.sign t) (c2 : t = 0) : SG (A - B) 0 := by
  have e := (sg_eq h1 h2).mp c
  have y : t.toInt = A.sign := SG_t h (sg_3 (.inr (.inl A)))
  rw [c2, I0] at y
  right; left; refine ⟨rfl, ?_⟩
  rcases sign_c A with p | p | p <;> rcases sign_c B with q | q | q <;> omega
theorem or_3 {A B : Int} {s1 s2 t u o r : Int32} (h1 : SG A.sign s1) (h2 : SG B.sign s2) (c : s1 = s2) (h : SG A.sign t) (c2 : ¬ t = 0) (hu : SG A.sign u) (ho : A ≠ 0 → B ≠ 0 → CMPN A.natAbs B.natAbs o) (er : r = u * o) : SG (A - B) r := by
  have e := (sg_eq h1 h2).mp c
  have y : t.toInt = A.sign := SG_t h (sg_3 (.inr (.inl A)))
  have hA : A ≠ 0 := fun q => c2 (Int32.toInt_inj.mp (by rw [y, q, I0]; rfl))
  have hB : B ≠ 0 := by rcases sign_c A with p | p | p <;> rcases sign_c B with q | q | q <;> omega
  have z := ho hA hB
  rcases hu with ⟨a, b⟩ | ⟨a, b⟩ | ⟨a, b⟩
  · rcases z with ⟨z, w⟩ | ⟨z, w⟩ | ⟨z, w⟩
    · right; right; exact ⟨by rw [er, a, z]; decide, by rcases sign_c A with p | p | p <;> rcases sign_c B with q | q | q <;> omega⟩
    · right; left; exact ⟨by rw [er, a, z]; decide, by rcases sign_c A with p | p | p <;> rcases sign_c B with q | q | q <;> omega⟩
    · left; exact ⟨by rw [er, a, z]; decide, by rcases sign_c A with p | p | p <;> rcases sign_c B with q | q | q <;> omega⟩
  · exact absurd b (by rcases sign_c A with p | p | p <;> omega)
  · rcases z with ⟨z, w⟩ | ⟨z, w⟩ | ⟨z, w⟩
    · left; exact ⟨by rw [er, a, z]; decide, by rcases sign_c A with p | p | p <;> rcases sign_c B with q | q | q <;> omega⟩
    · right; left; exact ⟨by rw [er, a, z]; decide, by rcases sign_c A with p | p | p <;> rcases sign_c B with q | q | q <;> omega⟩
    · right; right; exact ⟨by rw [er, a, z]; decide, by rcases sign_c A with p | p | p <;> rcases sign_c B with q | q | q <;> omega⟩
/-- A / W1 and the place of A -/
theorem W_fl (A : Int) : A / W1 * W1 ≤ A ∧ A < (A / W1 + 1) * W1 := by
  have h := W1_pos
  exact ⟨Int.ediv_mul_le _ (by omega), Int.lt_ediv_add_one_mul_self _ (by omega)⟩
theorem W_lt {x y : Int} (h : x < y) : x * W1 < y * W1 := Int.mul_lt_mul_of_pos_right h (by have := W1_pos; omega)
theorem W_le {x y : Int} (h : x ≤ y) : x * W1 ≤ y * W1 := Int.mul_le_mul_of_nonneg_right h (by have := W1_pos; omega)
theorem ow_1 {v : V3} {A : Int} {x : Int64} {e c s r : Int32} (h : CA v (.inr (.inl A))) (he : e = v.2.2) (c1 : ¬ e < 0) (hc : CWP c (.inr (.inl A))) (c2 : c = 0) (hs : SG A.sign s) (er : r = -s) : SG (x.toInt * W1 - A) r := by
  have hx := L_rg x
  rw [Int32.lt_iff_toInt_lt, I0, he] at c1
  have hd := dv_nn (by omega) h.2.2
  have hn : ¬ cw (.inr (.inl A)) := by
    rcases hc with ⟨z, -⟩ | ⟨-, z⟩
    · rw [z] at c2; exact absurd c2 (by decide)
    · exact z
  have hout : A / W1 < -9223372036854775808 ∨ 9223372036854775808 ≤ A / W1 := by
    rcases Int.lt_or_le (A / W1) (-9223372036854775808) with q | q
    · exact Or.inl q
    · rcases Int.lt_or_le (A / W1) 9223372036854775808 with z | z
      · exact absurd ⟨hd.2, q, z⟩ hn
      · exact Or.inr z
  have hf := W_fl A
  have hW := W1_pos
  rcases hout with q | q
  · have l1 := W_le (x := A / W1 + 1) (y := x.toInt) (by omega)
    have hA : A < 0 := by have := W_le (x := A / W1 + 1) (y := 0) (by omega); omega
    refine SG_of (SG_neg hs er) ?_ ?_ ?_ <;> rcases sign_c A with p | p | p <;> omega
  · have l1 := W_lt (x := x.toInt) (y := A / W1) (by omega)
    have hA : 0 < A := by have := W_lt (x := 0) (y := A / W1) (by omega); omega
    refine SG_of (SG_neg hs er) ?_ ?_ ?_ <;> rcases sign_c A with p | p | p <;> omega
theorem ow_f {v : V3} {A : Int} {fl : Int64} {e c : Int32} (h : CA v (.inr (.inl A))) (he : e = v.2.2) (hf : ∀ A, CA v (.inr (.inl A)) → -9223372036854775808 ≤ A / W1 → A / W1 < 9223372036854775808 → fl.toInt = A / W1) (hc : e < 0 ∨ (CWP c (.inr (.inl A)) ∧ ¬ c = 0)) : fl.toInt = A / W1 := by
  rcases hc with q | ⟨q, z⟩
  · rw [Int32.lt_iff_toInt_lt, I0, he] at q
    have := fl_fit h q
    exact hf A h (by omega) (by omega)
  · rcases q with ⟨-, y⟩ | ⟨y, -⟩
    · exact hf A h y.2.1 y.2.2
    · exact absurd y z
theorem ow_2 {A : Int} {x fl : Int64} {r : Int32} (hf : fl.toInt = A / W1) (c : ¬ x = fl) (h : CMPL x fl r) : SG (x.toInt * W1 - A) r := by
  have hW := W_fl A
  rw [← hf] at hW
  have hne : x.toInt ≠ fl.toInt := fun q => c (Int64.toInt_inj.mp q)
  refine SG_of (SG_cl h) ?_ ?_ ?_
  · intro q
    have := W_lt (x := x.toInt) (y := fl.toInt) (by omega)
    omega
  · intro q; omega
  · intro q
    have := W_le (x := fl.toInt + 1) (y := x.toInt) (by omega)
    omega
theorem ow_3 {v : V3} {A : Int} {x fl : Int64} {e : Int32} (h : CA v (.inr (.inl A))) (hf : fl.toInt = A / W1) (c : x = fl) (he : e = v.2.2) (c1 : ¬ 0 ≤ e) : SG (x.toInt * W1 - A) (-1) := by
  have hW := W_fl A
  rw [c, hf]
  rw [Int32.le_iff_toInt_le, I0, he] at c1
  left; refine ⟨rfl, ?_⟩
  have h2 : A % W1 ≠ 0 := by
    intro q
    have := cwp_1 (k := v.1) (e := v.2.2) h rfl h.1 rfl (by rw [Int32.lt_iff_toInt_lt, I0]; omega)
    have hfit := fl_fit h (by omega)
    rcases this with ⟨z, -⟩ | ⟨-, z⟩
    · exact absurd z (by decide)
    · exact z ⟨q, by omega, by omega⟩
  have h3 := Int.mul_ediv_add_emod A W1
  have h4 := Int.emod_nonneg A (show (W1 : Int) ≠ 0 by have := W1_pos; omega)
  rw [Int.mul_comm] at h3
  omega
theorem ow_4 {v : V3} {A : Int} {x fl : Int64} {e : Int32} (h : CA v (.inr (.inl A))) (hf : fl.toInt = A / W1) (c : x = fl) (he : e = v.2.2) (c1 : 0 ≤ e) : SG (x.toInt * W1 - A) 0 := by
  rw [c, hf]
  rw [Int32.le_iff_toInt_le, I0, he] at c1
  have hd := dv_nn c1 h.2.2
  have h3 := Int.mul_ediv_add_emod A W1
  rw [hd.2, Int.mul_comm] at h3
  right; left; exact ⟨rfl, by omega⟩
-- of
theorem io_1 {v : V3} {a : AV} {r s : Int32} (h : CA v a) (g : ISI r v.1) (c : ¬ r = 0) (hs : SG (sg a) s) : s.toInt = ik a := by
  have := SG_t hs (sg_3 a)
  rcases CA_y h g c with ⟨rfl, -⟩ | ⟨rfl, -⟩ <;> exact this
theorem io_0 {v : V3} {a : AV} {r : Int32} (h : CA v a) (g : ISI r v.1) (c : r = 0) : (0 : Int32).toInt = ik a := by
  rcases CA_n h g c with ⟨x, rfl, -⟩ | ⟨A, rfl, -⟩ | ⟨rfl, -⟩ <;> rfl
theorem ik_n {v : V3} {a : AV} {r : Int32} (h : CA v a) (g : ISI r v.1) (c : r = 0) : ik a = 0 := by
  rcases CA_n h g c with ⟨x, rfl, -⟩ | ⟨A, rfl, -⟩ | ⟨rfl, -⟩ <;> rfl
theorem ik_y {v : V3} {a : AV} {r : Int32} (h : CA v a) (g : ISI r v.1) (c : ¬ r = 0) : ik a ≠ 0 := by
  rcases CA_y h g c with ⟨rfl, -⟩ | ⟨rfl, -⟩ <;> decide
theorem of_i {a b : AV} {x y r : Int32} (hx : x.toInt = ik a) (hy : y.toInt = ik b) (hi : ik a ≠ 0 ∨ ik b ≠ 0) (h : CMPI x y r) : SG (ordv a b) r := by
  have := SG_ci h
  rw [hx, hy] at this
  unfold ordv
  rw [ifn (by rintro ⟨q1, q2⟩; rcases hi with z | z; exact z q1; exact z q2)]
  exact this
theorem of_f {a b : AV} {r : Int32} (h1 : ik a = 0) (h2 : ik b = 0) (h : SG (vi a - vi b) r) : SG (ordv a b) r := by
  unfold ordv
  rw [ifp ⟨h1, h2⟩]; exact h
theorem of_ww {v w : V3} {a b : AV} {k1 k2 r : Int32} {n m : Int64} (ha : CA v a) (hb : CA w b) (e1 : k1 = v.1) (c1 : k1 = 1) (e2 : k2 = w.1) (c2 : k2 = 1) (en : n = v.2.1) (em : m = w.2.1) (h : CMPL n m r) : SG (vi a - vi b) r := by
  obtain ⟨x, rfl, hv⟩ := CA_1 ha e1 c1
  obtain ⟨y, rfl, hw⟩ := CA_1 hb e2 c2
  have en : n = x := by rw [en, hv]
  have em : m = y := by rw [em, hw]
  rw [en, em] at h
  refine SG_of (SG_cl h) ?_ ?_ ?_
  · intro q; have := W_lt (x := x.toInt) (y := y.toInt) (by omega); show x.toInt * W1 - y.toInt * W1 < 0; omega
  · intro q; have : x.toInt = y.toInt := by omega
    show x.toInt * W1 - y.toInt * W1 = 0; rw [this]; omega
  · intro q; have := W_lt (x := y.toInt) (y := x.toInt) (by omega); show 0 < x.toInt * W1 - y.toInt * W1; omega
theorem nx_r {v : V3} {a : AV} {k : Int32} {r : Int32} (h : CA v a) (e : k = v.1) (c : ¬ k = 1) (g : ISI r v.1) (cr : r = 0) (hx : a ≠ (.inr (.inr .gt))) : ∃ A, a = .inr (.inl A) := by
  rcases CA_n h g cr with ⟨x, rfl, hv⟩ | ⟨A, rfl, -⟩ | ⟨rfl, -⟩
  · rw [hv] at e; exact absurd e c
  · exact ⟨A, rfl⟩
  · exact absurd rfl hx
theorem of_wr {v w : V3} {a b : AV} {k1 k2 r s : Int32} {n : Int64} (ha : CA v a) (hb : CA w b) (e1 : k1 = v.1) (c1 : k1 = 1) (e2 : k2 = w.1) (c2 : ¬ k2 = 1) (g : ISI s w.1) (cs : s = 0) (hx : b ≠ (.inr (.inr .gt))) (en : n = v.2.1) (h : ∀ A, CA w (.inr (.inl A)) → SG (n.toInt * W1 - A) r) : SG (vi a - vi b) r := by
  obtain ⟨x, rfl, hv⟩ := CA_1 ha e1 c1
  obtain ⟨B, rfl⟩ := nx_r hb e2 c2 g cs hx
  have en : n = x := by rw [en, hv]
  have := h B hb
  rw [en] at this
  exact this
theorem of_rw {v w : V3} {a b : AV} {k1 k2 r q s : Int32} {n : Int64} (ha : CA v a) (hb : CA w b) (e1 : k1 = v.1) (c1 : ¬ k1 = 1) (e2 : k2 = w.1) (c2 : k2 = 1) (g : ISI s v.1) (cs : s = 0) (hx : a ≠ (.inr (.inr .gt))) (en : n = w.2.1) (h : ∀ A, CA v (.inr (.inl A)) → SG (n.toInt * W1 - A) q) (er : r = -q) : SG (vi a - vi b) r := by
  obtain ⟨y, rfl, hw⟩ := CA_1 hb e2 c2
  obtain ⟨A, rfl⟩ := nx_r ha e1 c1 g cs hx
  have en : n = y := by rw [en, hw]
  have := SG_neg (h A ha) er
  rw [en] at this
  show SG (A - y.toInt * W1) r
  rw [show A - y.toInt * W1 = -(y.toInt * W1 - A) by omega]; exact this
theorem of_rr {v w : V3} {a b : AV} {k1 k2 r s t : Int32} (ha : CA v a) (hb : CA w b) (e1 : k1 = v.1) (c1 : ¬ k1 = 1) (e2 : k2 = w.1) (c2 : ¬ k2 = 1) (g1 : ISI s v.1) (cs : s = 0) (g2 : ISI t w.1) (ct : t = 0) (hx : a ≠ (.inr (.inr .gt)) ∧ b ≠ (.inr (.inr .gt))) (h : ∀ A B, CA v (.inr (.inl A)) → CA w (.inr (.inl B)) → SG (A - B) r) : SG (vi a - vi b) r := by
  obtain ⟨A, rfl⟩ := nx_r ha e1 c1 g1 cs hx.1
  obtain ⟨B, rfl⟩ := nx_r hb e2 c2 g2 ct hx.2
  exact h A B ha hb
/-- goesBefore -/
def BEF (a b : AV) : Prop := (a ≠ (.inr (.inr .gt)) ∧ b = (.inr (.inr .gt))) ∨ (a ≠ (.inr (.inr .gt)) ∧ b ≠ (.inr (.inr .gt)) ∧ ordv a b < 0)
theorem CA_n5 {v : V3} {a : AV} {k : Int32} (h : CA v a) (e : k = v.1) (c : ¬ k = 5) : a ≠ (.inr (.inr .gt)) := by
  rintro rfl
  rw [show v = (5, 0, 0) from h] at e
  exact c e
theorem gb_1 {v w : V3} {a b : AV} {k1 k2 : Int32} (ha : CA v a) (hb : CA w b) (e1 : k1 = v.1) (c1 : ¬ k1 = 5) (e2 : k2 = w.1) (c2 : k2 = 5) : (1 : Int32) = 1 ∧ BEF a b ∨ (1 : Int32) = 0 ∧ ¬ BEF a b := Or.inl ⟨rfl, Or.inl ⟨CA_n5 ha e1 c1, CA_5 hb e2 c2⟩⟩
theorem gb_2 {v : V3} {a b : AV} {k1 : Int32} (ha : CA v a) (e1 : k1 = v.1) (c1 : k1 = 5) : (0 : Int32) = 1 ∧ BEF a b ∨ (0 : Int32) = 0 ∧ ¬ BEF a b := Or.inr ⟨rfl, by
  have := CA_5 ha e1 c1
  rintro (⟨q, -⟩ | ⟨q, -⟩) <;> exact q this⟩
theorem gb_3 {v w : V3} {a b : AV} {k1 k2 k3 : Int32} {Q : Prop} (e1 : k1 = v.1) (c1 : ¬ k1 = 5) (e2 : k2 = v.1) (c2 : k2 = 5) : Q := absurd (e1.trans (e2.symm.trans c2)) c1
theorem gb_4 {v w : V3} {a b : AV} {k1 k2 r : Int32} (s : Int32) (ha : CA v a) (hb : CA w b) (e1 : k1 = v.1) (c1 : ¬ k1 = 5) (e2 : k2 = w.1) (c2 : ¬ k2 = 5) (h : a ≠ (.inr (.inr .gt)) → b ≠ (.inr (.inr .gt)) → SG (ordv a b) r) (hs : (0 ≤ r ∧ s = 0) ∨ (¬ 0 ≤ r ∧ s = 1)) : s = 1 ∧ BEF a b ∨ s = 0 ∧ ¬ BEF a b := by
  have n1 := CA_n5 ha e1 c1
  have n2 := CA_n5 hb e2 c2
  have h1 := h n1 n2
  have hr : ordv a b < 0 ↔ ¬ 0 ≤ r := by
    rcases h1 with ⟨z, y⟩ | ⟨z, y⟩ | ⟨z, y⟩ <;> rw [z]
    · exact ⟨fun _ => by decide, fun _ => y⟩
    · exact ⟨fun q => by omega, fun q => absurd (by decide) q⟩
    · exact ⟨fun q => by omega, fun q => absurd (by decide) q⟩
  rcases hs with ⟨q, rfl⟩ | ⟨q, rfl⟩
  · right; refine ⟨rfl, ?_⟩
    rintro (⟨-, z⟩ | ⟨-, -, z⟩)
    · exact n2 z
    · exact (hr.mp z) q
  · left; exact ⟨rfl, Or.inr ⟨n1, n2, hr.mpr q⟩⟩
end
