def GR (n : Int64) (e : Int32) : Prop := (n = 0 ∧ e = 0) ∨ (n.toInt % 2 = 1 ∧ -1074 ≤ e.toInt ∧ ∃ t : Nat, t ≤ 53 ∧ n.toInt.natAbs ≤ 2 ^ t ∧ e.toInt + t ≤ 1024)
def RK (k : Int32) (n : Int64) (e : Int32) : Prop := k = 3 ∨ k = 4 ∨ k = 5 ∨ (k = 2 ∧ GR n e)
def VK (k : Int32) (n : Int64) (e : Int32) : Prop := k = 1 ∨ RK k n e
def AK (K : Nat → Int32) (N : Nat → Int64) (E : Nat → Int32) : Prop := ∀ j, j < 32 → VK (K j) (N j) (E j)
def PP (m : Int64) (x : Int32) : Prop := m = 0 ∨ (-1074 ≤ x.toInt ∧ ∃ t : Nat, t ≤ 53 ∧ m.toInt.natAbs ≤ 2 ^ t ∧ x.toInt + t ≤ 1024)
def PQ (n : Int64) (e : Int32) : Prop := (n = 0 ∧ e = 0) ∨ (¬ n = 0 ∧ -1074 ≤ e.toInt ∧ ∃ t : Nat, t ≤ 53 ∧ n.toInt.natAbs ≤ 2 ^ t ∧ e.toInt + t ≤ 1024)
theorem L0 : (0 : Int64).toInt = 0 := by decide
theorem L1 : (1 : Int64).toInt = 1 := by decide
theorem L_ne0 {n : Int64} (h : ¬ n = 0) : n.toInt ≠ 0 := fun q => h (Int64.toInt_inj.mp (by rw [q, L0]))
theorem p53 {t : Nat} (h : t ≤ 53) : 2 ^ t ≤ 9007199254740992 := Nat.pow_le_pow_right (n := 2) (by decide) h
theorem GR_n {n : Int64} {e : Int32} (h : GR n e) : n.toInt.natAbs ≤ 9007199254740992 := by
  rcases h with ⟨rfl, -⟩ | ⟨-, -, t, h1, h2, -⟩
  · rw [L0]; decide
  · exact Nat.le_trans h2 (p53 h1)
theorem GR_e {n : Int64} {e : Int32} (h : GR n e) : -1074 ≤ e.toInt ∧ e.toInt ≤ 1024 := by
  rcases h with ⟨-, rfl⟩ | ⟨-, h0, t, h1, h2, h3⟩
  · rw [I0]; decide
  · omega
theorem GR_PP {n : Int64} {e : Int32} (h : GR n e) : PP n e := by
  rcases h with ⟨rfl, -⟩ | ⟨-, h0, h1⟩
  · exact Or.inl rfl
  · exact Or.inr ⟨h0, h1⟩
theorem L_negA {n : Int64} (h : n.toInt.natAbs ≤ 9007199254740992) : (-n).toInt = -n.toInt := L_neg (by omega)
theorem PP_neg {n v : Int64} {e : Int32} (h : PP n e) (ev : v = -n) : PP v e := by
  rcases h with rfl | ⟨h0, t, h1, h2, h3⟩
  · left; rw [ev]; decide
  · right
    refine ⟨h0, t, h1, ?_, h3⟩
    rw [ev, L_negA (Nat.le_trans h2 (p53 h1)), Int.natAbs_neg]; exact h2
theorem GR_neg {n v : Int64} {e : Int32} (h : GR n e) (ev : v = -n) : GR v e := by
  have hb := GR_n h
  rcases h with ⟨rfl, h2⟩ | ⟨ho, h0, t, h1, h2, h3⟩
  · left; rw [ev]; exact ⟨by decide, h2⟩
  · right
    have e1 := L_negA hb
    refine ⟨by rw [ev, e1]; omega, h0, t, h1, ?_, h3⟩
    rw [ev, e1, Int.natAbs_neg]; exact h2
theorem RK_of {k : Int32} {n : Int64} {e : Int32} (h : k = 2 ∧ GR n e) : RK k n e := Or.inr (Or.inr (Or.inr h))
theorem VK_of {k : Int32} {n : Int64} {e : Int32} (h : RK k n e) : VK k n e := Or.inr h
theorem VK_2 {k : Int32} {n : Int64} {e : Int32} (h : k = 2 ∧ GR n e) : VK k n e := Or.inr (RK_of h)
theorem RK_no1 {k : Int32} {n : Int64} {e : Int32} (h : VK k n e) (c : ¬ k = 1) : RK k n e := h.resolve_left c
theorem RK_GR {k : Int32} {n : Int64} {e : Int32} (h : RK k n e) (c5 : ¬ k = 5) (c3 : ¬ k = 3) (c4 : ¬ k = 4) : GR n e := by
  rcases h with h | h | h | h
  · exact absurd h c3
  · exact absurd h c4
  · exact absurd h c5
  · exact h.2
theorem RK_2 {k : Int32} {n : Int64} {e : Int32} (h : RK k n e) (c : k = 2) : GR n e := by
  rcases h with h | h | h | h
  · rw [c] at h; exact absurd h (by decide)
  · rw [c] at h; exact absurd h (by decide)
  · rw [c] at h; exact absurd h (by decide)
  · exact h.2
theorem VK_2' {k : Int32} {n : Int64} {e : Int32} (h : VK k n e) (c : k = 2) : GR n e := by
  rcases h with h | h
  · rw [c] at h; exact absurd h (by decide)
  · exact RK_2 h c
theorem gt_n {r k : Int32} (h : (r = 1 ∧ (k = 3 ∨ k = 4)) ∨ (r = 0 ∧ ¬ k = 3 ∧ ¬ k = 4)) (c : r = 0) : ¬ k = 3 ∧ ¬ k = 4 := by
  rcases h with h | h
  · rw [h.1] at c; exact absurd c (by decide)
  · exact h.2
theorem gt_y {r k : Int32} (h : (r = 1 ∧ (k = 3 ∨ k = 4)) ∨ (r = 0 ∧ ¬ k = 3 ∧ ¬ k = 4)) (c : ¬ r = 0) : k = 3 ∨ k = 4 := by
  rcases h with h | h
  · exact h.2
  · exact absurd h.1 c
theorem gt_VK {r k : Int32} {n n2 : Int64} {e e2 : Int32} (h : (r = 1 ∧ (k = 3 ∨ k = 4)) ∨ (r = 0 ∧ ¬ k = 3 ∧ ¬ k = 4)) (c : ¬ r = 0) {k' : Int32} (q : k' = k ∧ n2 = n ∧ e2 = e) : RK k' n2 e2 := by
  rcases gt_y h c with h | h
  · left; rw [q.1, h]
  · right; left; rw [q.1, h]
theorem sp_RK {k : Int32} {n : Int64} {e : Int32} {z : Int32} (hz : z = 3 ∨ z = 4 ∨ z = 5) (q : k = z ∧ n = 0 ∧ e = 0) : RK k n e := by
  rcases hz with h | h | h
  · left; rw [q.1, h]
  · right; left; rw [q.1, h]
  · right; right; left; rw [q.1, h]
-- plain
theorem pl_0 {m : Int64} {x : Int32} (h : PP m x) (c : ¬ m = 0) : PQ m x := by
  rcases h with h | h
  · exact absurd h c
  · exact Or.inr ⟨c, h⟩
theorem pl_00 {m : Int64} (c : m = 0) : PQ m 0 := Or.inl ⟨c, rfl⟩
theorem pl_x1 {n : Int64} {e : Int32} (h : PQ n e) (c : n = 0) : GR n e := by
  rcases h with h | h
  · exact Or.inl h
  · exact absurd c h.1
theorem pl_x2 {n v : Int64} {e : Int32} (h : PQ n e) (ev : v = n &&& 1) (c : ¬ v = 0) : GR n e := by
  rcases h with h | h
  · exact Or.inl h
  · right
    have h1 : ¬ n.toInt % 2 = 0 := fun q => c (by rw [ev]; exact L_and1.mpr q)
    exact ⟨by omega, h.2⟩
theorem pl_s {n v n2 : Int64} {e e2 : Int32} (h : PQ n e) (c0 : ¬ n = 0) (ev : v = n &&& 1) (c1 : v = 0) (e1 : n2 = n >>> ((1 : Int32).toInt64 &&& 63)) (ee : e2 = e + 1) : PQ n2 e2 ∧ n2.toInt.natAbs < n.toInt.natAbs := by
  have h2 : n2.toInt = n.toInt / 2 := by rw [e1, L_shr n (y := 1) (k := 1) (by decide) (by decide)]; rfl
  have h3 : n.toInt % 2 = 0 := L_and1.mp (by rw [← ev]; exact c1)
  have h4 := L_ne0 c0
  have h5 : n2.toInt.natAbs * 2 = n.toInt.natAbs := by omega
  refine ⟨?_, by omega⟩
  rcases h with h | ⟨-, hE, t, ht, hn, he⟩
  · exact absurd h.1 c0
  · have h6 : ¬ n2 = 0 := fun q => by rw [q, L0] at h5; simp at h5; omega
    right
    have ht1 : 1 ≤ t := by
      rcases Nat.eq_zero_or_pos t with q | q
      · subst q; simp at hn; omega
      · exact q
    obtain ⟨t', rfl⟩ : ∃ t', t = t' + 1 := ⟨t - 1, by omega⟩
    have h7 : e2.toInt = e.toInt + 1 := by rw [ee, I_add, I1] <;> rw [I1] <;> omega
    refine ⟨h6, by omega, t', by omega, ?_, by omega⟩
    rw [Nat.pow_succ] at hn
    omega
-- size
theorem sz_p {p : Int64} (c : 0 ≤ p) : -9223372036854775808 < p.toInt → p.toInt = p.toInt.natAbs := fun _ => by
  rw [Int64.le_iff_toInt_le, L0] at c
  omega
theorem sz_n {p v : Int64} (c : ¬ 0 ≤ p) (e : v = -p) : -9223372036854775808 < p.toInt → v.toInt = p.toInt.natAbs := fun h => by
  rw [Int64.le_iff_toInt_le, L0] at c
  rw [e, L_neg h]
  omega
theorem wh_x {p : Int32} (h0 : ¬ p < 0) (h3 : ¬ p = 3) (c : p ≤ 3) (n0 : ¬ p = 0) (n1 : ¬ p = 1) (n2 : ¬ p = 2) : False := by
  rw [Int32.lt_iff_toInt_lt, I0] at h0
  rw [Int32.le_iff_toInt_le, show (3 : Int32).toInt = 3 by decide] at c
  have a0 := lv_neT n0 (a := 0) (by decide)
  have a1 := lv_neT n1 (a := 1) (by decide)
  have a2 := lv_neT n2 (a := 2) (by decide)
  have a3 := lv_neT h3 (a := 3) (by decide)
  omega
theorem wh_y {p : Int32} (c : p ≤ 3) (h : p = 4) : False := by rw [h] at c; exact absurd c (by decide)
