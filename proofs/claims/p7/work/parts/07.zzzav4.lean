noncomputable section
theorem ip_le {a b : Nat} (h : a ≤ b) : (2 : Int) ^ a ≤ 2 ^ b := by
  obtain ⟨c, rfl⟩ : ∃ c, b = a + c := ⟨b - a, by omega⟩
  rw [Int.pow_add]
  have h1 := ip_pos a
  have h2 := ip_pos c
  have : (2 : Int) ^ a * 1 ≤ 2 ^ a * 2 ^ c := Int.mul_le_mul_of_nonneg_left (by omega) (by omega)
  omega
theorem dv_nn {n e A : Int} (h : 0 ≤ e) (hA : sc n e = A) : A / W1 = n * 2 ^ e.toNat ∧ A % W1 = 0 := by
  have hW : (W1 : Int) ≠ 0 := by have := W1_pos; omega
  rw [← hA, sc_nn h]
  exact ⟨Int.mul_ediv_cancel _ hW, Int.mul_emod_left _ _⟩
theorem dv_ng {n e A : Int} {j : Nat} (h : e = -(j : Int)) (hj : j ≤ 6000) (hA : sc n e = A) : A / W1 = n / 2 ^ j ∧ A % W1 = n % 2 ^ j * 2 ^ (OFF - j) := by
  obtain ⟨h1, h2⟩ := sc_ng (n := n) h hj
  have hp := ip_pos (OFF - j)
  rw [← hA, h1, h2]
  refine ⟨Int.mul_ediv_mul_of_pos_left _ _ hp, ?_⟩
  rw [Int.mul_comm n, Int.mul_comm (2 ^ j), Int.mul_emod_mul_of_pos _ _ hp, Int.mul_comm]
theorem div_big {n : Int} {j : Nat} (hn : n.natAbs < 9007199254740992) (hj : 53 ≤ j) : n / 2 ^ j = if n < 0 then -1 else 0 := by
  have h1 : (2 : Int) ^ 53 ≤ 2 ^ j := ip_le hj
  rw [show (2 : Int) ^ 53 = 9007199254740992 by decide] at h1
  generalize (2 : Int) ^ j = p at h1
  split
  · rename_i q
    exact (Int.ediv_emod_unique (a := n) (b := p) (r := n + p) (q := -1) (by omega)).mpr ⟨by omega, by omega, by omega⟩ |>.1
  · rename_i q
    exact Int.ediv_eq_zero_of_lt (by omega) (by omega)
theorem div_le_abs {n : Int} {j : Nat} (hn : n.natAbs < 9007199254740992) : (n / 2 ^ j).natAbs < 9007199254740992 := by
  have hp := ip_pos j
  have h1 : n / 2 ^ j * 2 ^ j ≤ n := Int.ediv_mul_le _ (by omega)
  have h2 : n < (n / 2 ^ j + 1) * 2 ^ j := Int.lt_ediv_add_one_mul_self _ hp
  generalize n / 2 ^ j = q at *
  generalize (2 : Int) ^ j = p at *
  rcases Int.lt_or_le q 0 with z | z
  · have : (q + 1) * p ≤ (q + 1) * 1 := Int.mul_le_mul_of_nonpos_left (by omega) (by omega)
    omega
  · have : q * 1 ≤ q * p := Int.mul_le_mul_of_nonneg_left (by omega) z
    omega
-- floor
theorem fl_a {v : V3} {n r : Int64} {e ex ngx mn : Int32} {A : Int} (h : CA v (.inr (.inl A))) (he : e = v.2.2) (c : ¬ 0 ≤ e) (hn : n = v.2.1) (hx : ex = v.2.2) (e1 : ngx = -ex) (e2 : mn = if 63 < ngx then 63 else ngx) (e3 : r = n >>> (mn.toInt64 &&& 63)) : r.toInt = A / W1 := by
  obtain ⟨-, hc, hA⟩ := h
  obtain ⟨b1, b2, b3⟩ := CN_e hc
  rw [Int32.le_iff_toInt_le, I0, he] at c
  obtain ⟨j, hj⟩ : ∃ j : Nat, v.2.2.toInt = -(j : Int) := ⟨(-v.2.2.toInt).toNat, by omega⟩
  have h1 : ngx.toInt = j := by rw [e1, hx, I_neg] <;> omega
  have h2 : mn.toInt = ((min j 63 : Nat) : Int) := by
    rw [e2]
    have h63 : (63 : Int32).toInt = 63 := by decide
    split
    · rename_i q
      rw [Int32.lt_iff_toInt_lt, h63, h1] at q
      rw [h63]; omega
    · rename_i q
      rw [Int32.lt_iff_toInt_lt, h63, h1] at q
      omega
  have h3 := L_shr n h2 (by omega)
  rw [← e3] at h3
  rw [h3, (dv_ng hj (by omega) hA).1, hn]
  rcases Nat.le_total j 63 with q | q
  · rw [Nat.min_eq_left q]
  · rw [Nat.min_eq_right q, div_big b1 (by omega), div_big b1 (by omega)]
theorem fl_b {v : V3} {n r : Int64} {e ex : Int32} {A : Int} (h : CA v (.inr (.inl A))) (he : e = v.2.2) (c : 0 ≤ e) (hn : n = v.2.1) (hx : ex = v.2.2) (e3 : r = n <<< (ex.toInt64 &&& 63)) (f1 : -9223372036854775808 ≤ A / W1) (f2 : A / W1 < 9223372036854775808) : r.toInt = A / W1 := by
  obtain ⟨-, hc, hA⟩ := h
  obtain ⟨b1, b2, b3⟩ := CN_e hc
  rw [Int32.le_iff_toInt_le, I0, he] at c
  rw [(dv_nn c hA).1] at f1 f2 ⊢
  obtain ⟨j, hj⟩ : ∃ j : Nat, v.2.2.toInt = (j : Int) := ⟨v.2.2.toInt.toNat, by omega⟩
  rw [hj, Int.toNat_natCast] at f1 f2 ⊢
  have hj64 : j < 64 := by
    rcases hc with ⟨z1, z2⟩ | ⟨z1, -⟩
    · rw [z2, I0] at hj; omega
    · rcases Nat.lt_or_ge j 64 with q | q
      · exact q
      · exfalso
        have h0 : v.2.1.toInt ≠ 0 := fun w => z1 (Int64.toInt_inj.mp (by rw [w, L0z]))
        have h64 : (2 : Int) ^ 64 ≤ 2 ^ j := ip_le q
        rw [show (2 : Int) ^ 64 = 18446744073709551616 by decide] at h64
        generalize (2 : Int) ^ j = p at *
        rcases Int.lt_or_le v.2.1.toInt 0 with y | y
        · have : v.2.1.toInt * p ≤ -1 * p := Int.mul_le_mul_of_nonneg_right (by omega) (by omega)
          omega
        · have : 1 * p ≤ v.2.1.toInt * p := Int.mul_le_mul_of_nonneg_right (by omega) (by omega)
          omega
  rw [e3, L_shl n (y := ex) (k := j) (by rw [hx]; exact hj) hj64 (by rw [hn]; exact f1) (by rw [hn]; exact f2), hn]
theorem fl_fit {v : V3} {A : Int} (h : CA v (.inr (.inl A))) (c : v.2.2.toInt < 0) : (A / W1).natAbs < 9007199254740992 := by
  obtain ⟨-, hc, hA⟩ := h
  obtain ⟨b1, b2, b3⟩ := CN_e hc
  obtain ⟨j, hj⟩ : ∃ j : Nat, v.2.2.toInt = -(j : Int) := ⟨(-v.2.2.toInt).toNat, by omega⟩
  rw [(dv_ng hj (by omega) hA).1]
  exact div_le_abs b1
-- exact roundings
theorem RT_ex {s B : Nat} {st : Bool} (h : s < 9007199254740992) (hB : GL ≤ B) : RT (s * 2 ^ B) st = s * 2 ^ B := by
  have : BL s ≤ 53 := BL_le h
  exact RT_e (by omega)
theorem rndW_ex {v : Int} (h : v.natAbs < 9007199254740992) : rndW v = .inr (.inl (v * W1)) := by
  unfold rndW rnd
  rw [W1_e2, RT_ex h (by decide), ← W1_e2, mkR_r]
  · by_cases q : v < 0
    · rw [decide_eq_true q, ifp rfl]
      congr 2
      push_cast
      rw [← Int.neg_mul]
      congr 1
      omega
    · rw [decide_eq_false q, ifn (by decide)]
      congr 2
      push_cast
      congr 1
      omega
  · rw [← W1_top, Nat.mul_comm]
    refine Nat.mul_lt_mul_of_pos_left ?_ W1_pos
    exact Nat.lt_of_lt_of_le (show v.natAbs < 2 ^ 53 from h) (Nat.pow_le_pow_right (by decide) (show 53 ≤ 1024 by decide))
-- roundDown
theorem rd_1 {f f2 : Nat → V3} {a0 : Nat} {a : AV} {k e : Int32} {n : Int64} (h : CA (f a0) a) (ek : k = (f a0).1) (c : k = 2) (he : e = (f a0).2.2) (c2 : ¬ 0 ≤ e) (hf : ∀ A, CA (f a0) (.inr (.inl A)) → -9223372036854775808 ≤ A / W1 → A / W1 < 9223372036854775808 → n.toInt = A / W1) (hs : SRC n 0 → UPD f f2 a0 (rndS n.toInt (0 : Int32).toInt)) : UPD f f2 a0 (flr a) := by
  obtain ⟨A, rfl, -, -⟩ := CA_2 h ek c
  rw [Int32.le_iff_toInt_le, I0, he] at c2
  have h1 := fl_fit h (by omega)
  have h2 := hf A h (by omega) (by omega)
  have h3 := hs ⟨Or.inr I0, by decide, by decide⟩
  rw [rndS_0, h2, rndW_ex h1] at h3
  exact h3
theorem rd_2 {f : Nat → V3} {a0 : Nat} {a : AV} {k e : Int32} (h : CA (f a0) a) (ek : k = (f a0).1) (c : k = 2) (he : e = (f a0).2.2) (c2 : 0 ≤ e) : UPD f f a0 (flr a) := by
  obtain ⟨A, rfl, -, hA⟩ := CA_2 h ek c
  rw [Int32.le_iff_toInt_le, I0, he] at c2
  refine UPD_id ?_
  show CA (f a0) (.inr (.inl (A / W1 * W1)))
  have h1 := dv_nn c2 hA
  have h2 := Int.mul_ediv_add_emod A W1
  rw [h1.2, Int.add_zero, Int.mul_comm] at h2
  rw [h2]; exact h
theorem rd_0 {f : Nat → V3} {a0 : Nat} {a : AV} {k : Int32} (h : CA (f a0) a) (e : k = (f a0).1) (c : ¬ k = 2) : UPD f f a0 (flr a) := by
  refine UPD_id ?_
  cases a using AV_el with
  | w x => exact h
  | r A => exfalso; exact c (e.trans h.1)
  | p => exact h
  | m => exact h
  | x => exact h
-- countsAsWhole
def CWP (r : Int32) (a : AV) : Prop := (r = 1 ∧ cw a) ∨ (r = 0 ∧ ¬ cw a)
theorem cwp_w {v : V3} {a : AV} {k : Int32} (h : CA v a) (e : k = v.1) (c : k = 1) : CWP 1 a := by
  obtain ⟨x, rfl, -⟩ := CA_1 h e c
  exact Or.inl ⟨rfl, trivial⟩
theorem cwp_n {v : V3} {a : AV} {k k2 : Int32} (h : CA v a) (e : k = v.1) (c : ¬ k = 2) (e2 : k2 = v.1) (c2 : ¬ k2 = 1) : CWP 0 a := by
  refine Or.inr ⟨rfl, ?_⟩
  cases a using AV_el with
  | w x => exfalso; rw [show v = (1, x, 0) from h] at e2; exact c2 e2
  | r A => exfalso; exact c (e.trans h.1)
  | p => exact id
  | m => exact id
  | x => exact id
theorem odd_mod {n : Int} {j : Nat} (h : n % 2 = 1) (hj : 1 ≤ j) : n % 2 ^ j ≠ 0 := by
  obtain ⟨i, rfl⟩ : ∃ i, j = i + 1 := ⟨j - 1, by omega⟩
  intro q
  have h1 := Int.mul_ediv_add_emod n (2 ^ (i + 1))
  rw [q, Int.pow_succ] at h1
  have h2 : n = 2 * (2 ^ i * (n / (2 ^ i * 2))) := by
    rw [← Int.mul_assoc, Int.mul_comm 2]; omega
  omega
theorem cwp_1 {v : V3} {a : AV} {k e : Int32} (h : CA v a) (ek : k = v.1) (c : k = 2) (he : e = v.2.2) (c2 : e < 0) : CWP 0 a := by
  obtain ⟨A, rfl, hc, hA⟩ := CA_2 h ek c
  rw [Int32.lt_iff_toInt_lt, I0, he] at c2
  refine Or.inr ⟨rfl, fun q => ?_⟩
  rcases hc with ⟨-, z⟩ | ⟨z0, z1, z2, z3, z4⟩
  · rw [z, I0] at c2; omega
  · obtain ⟨j, hj⟩ : ∃ j : Nat, v.2.2.toInt = -(j : Int) := ⟨(-v.2.2.toInt).toNat, by omega⟩
    have h1 := (dv_ng hj (by omega) hA).2
    rw [q.1] at h1
    have h2 : v.2.1.toInt % 2 = 1 := by
      rcases z4 with w | w
      · exact w
      · rw [w, I_971] at c2; omega
    have h3 := odd_mod h2 (j := j) (by omega)
    rcases Int.mul_eq_zero.mp h1.symm with w | w
    · exact h3 w
    · have := ip_pos (OFF - j); omega
theorem cwp_2 {v : V3} {a : AV} {k e : Int32} (h : CA v a) (ek : k = v.1) (c : k = 2) (he : e = v.2.2) (c2 : 63 < e) : CWP 0 a := by
  obtain ⟨A, rfl, hc, hA⟩ := CA_2 h ek c
  rw [Int32.lt_iff_toInt_lt, show (63 : Int32).toInt = 63 by decide, he] at c2
  refine Or.inr ⟨rfl, fun q => ?_⟩
  rcases hc with ⟨-, z⟩ | ⟨z0, z1, z2, z3, z4⟩
  · rw [z, I0] at c2; omega
  · have h1 := (dv_nn (by omega) hA).1
    obtain ⟨-, q1, q2⟩ := q
    rw [h1] at q1 q2
    have h0 : v.2.1.toInt ≠ 0 := fun w => z0 (Int64.toInt_inj.mp (by rw [w, L0z]))
    have h64 : (2 : Int) ^ 64 ≤ 2 ^ v.2.2.toInt.toNat := ip_le (by omega)
    rw [show (2 : Int) ^ 64 = 18446744073709551616 by decide] at h64
    generalize (2 : Int) ^ v.2.2.toInt.toNat = p at *
    rcases Int.lt_or_le v.2.1.toInt 0 with y | y
    · have : v.2.1.toInt * p ≤ -1 * p := Int.mul_le_mul_of_nonneg_right (by omega) (by omega)
      omega
    · have : 1 * p ≤ v.2.1.toInt * p := Int.mul_le_mul_of_nonneg_right (by omega) (by omega)
      omega
/-- shifted up and down again: nothing is lost just where it fits -/
theorem shlr {n x y : Int64} {e e2 : Int32} {k : Nat} (he : e.toInt = k) (he2 : e2.toInt = k) (hk : k < 64) (e1 : x = n <<< (e.toInt64 &&& 63)) (e3 : y = x >>> (e2.toInt64 &&& 63)) : y = n ↔ (-9223372036854775808 ≤ n.toInt * 2 ^ k ∧ n.toInt * 2 ^ k < 9223372036854775808) := by
  have hy := L_shr x he2 hk
  rw [← e3] at hy
  have hx := L_shlm n he hk
  rw [← e1] at hx
  have hr := L_rg x
  have hp := ip_pos k
  constructor
  · intro q
    rw [q] at hy
    have h1 := Int.mul_ediv_add_emod x.toInt (2 ^ k)
    have h2 := Int.emod_nonneg x.toInt (show (2 : Int) ^ k ≠ 0 by omega)
    have h3 := Int.emod_lt_of_pos x.toInt hp
    rw [← hy, Int.mul_comm] at h1
    have h63 : (2 : Int) ^ k ≤ 2 ^ 63 := ip_le (by omega)
    rw [show (2 : Int) ^ 63 = 9223372036854775808 by decide] at h63
    have h4 : x.toInt % 2 ^ 64 = (n.toInt * 2 ^ k) % 2 ^ 64 := by
      rw [hx]
      exact Int.bmod_emod
    rw [show (2 : Int) ^ 64 = 18446744073709551616 by decide] at h4
    generalize n.toInt * 2 ^ k = w at *
    generalize x.toInt % 2 ^ k = r at *
    omega
  · intro q
    rw [n_bm q.1 q.2] at hx
    apply Int64.toInt_inj.mp
    rw [hy, hx, Int.mul_ediv_cancel _ (by omega)]
theorem cwp_3 {v : V3} {a : AV} {k e1 e2 ea eb : Int32} {n m x y : Int64} (r : Int32) (h : CA v a) (ek : k = v.1) (c : k = 2) (h1 : e1 = v.2.2) (c1 : ¬ e1 < 0) (h2 : e2 = v.2.2) (c2 : ¬ 63 < e2) (hn : n = v.2.1) (ha : ea = v.2.2) (hx : x = n <<< (ea.toInt64 &&& 63)) (hb : eb = v.2.2) (hy : y = x >>> (eb.toInt64 &&& 63)) (hm : m = v.2.1) (hr : (y = m ∧ r = 1) ∨ (¬ y = m ∧ r = 0)) : CWP r a := by
  obtain ⟨A, rfl, hc, hA⟩ := CA_2 h ek c
  rw [Int32.lt_iff_toInt_lt, I0, h1] at c1
  rw [Int32.lt_iff_toInt_lt, show (63 : Int32).toInt = 63 by decide, h2] at c2
  obtain ⟨j, hj⟩ : ∃ j : Nat, v.2.2.toInt = (j : Int) := ⟨v.2.2.toInt.toNat, by omega⟩
  have hs := shlr (by rw [ha]; exact hj) (by rw [hb]; exact hj) (by omega) hx hy
  have hd := dv_nn (by omega) hA
  rw [hj, Int.toNat_natCast] at hd
  have hq : cw (.inr (.inl A)) ↔ y = m := by
    rw [hm, ← hn, hs, hn, ← hd.1]
    exact ⟨fun z => z.2, fun z => ⟨hd.2, z⟩⟩
  rcases hr with ⟨z, w⟩ | ⟨z, w⟩
  · exact Or.inl ⟨w, hq.mpr z⟩
  · exact Or.inr ⟨w, fun q => z (hq.mp q)⟩
theorem aw_cw {v : V3} {a : AV} {r : Int64} (h : CA v a) (g : cw a) (e : r = v.2.1 <<< (v.2.2.toInt64 &&& 63)) : r.toInt = wi a := by
  cases a using AV_el with
  | w x =>
    rw [show v = (1, x, 0) from h] at e
    show r.toInt = x.toInt
    have h1 : r.toInt = x.toInt * 2 ^ 0 := by
      rw [e]
      have := L_rg x
      exact L_shl x (y := 0) (k := 0) (by decide) (by decide) (by rw [Int.pow_zero, Int.mul_one]; exact this.1) (by rw [Int.pow_zero, Int.mul_one]; exact this.2)
    rw [h1, Int.pow_zero, Int.mul_one]
  | r A =>
    have hc := h.2.1
    have hA := h.2.2
    have h0 : 0 ≤ v.2.2 := by
      rw [Int32.le_iff_toInt_le, I0]
      rcases Int.lt_or_le v.2.2.toInt 0 with z | z
      · rcases cwp_1 (k := v.1) h rfl h.1 rfl (by rw [Int32.lt_iff_toInt_lt, I0]; exact z) with w | w
        · exact absurd w.1 (by decide)
        · exact absurd g w.2
      · exact z
    exact fl_b h rfl h0 rfl rfl e g.2.1 g.2.2
  | p => exact absurd g id
  | m => exact absurd g id
  | x => exact absurd g id
end
