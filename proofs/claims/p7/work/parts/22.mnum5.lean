theorem sp_gt {r k k' : Int32} {n : Int64} {e : Int32} (h : (r = 1 ∧ (k = 3 ∨ k = 4)) ∨ (r = 0 ∧ ¬ k = 3 ∧ ¬ k = 4)) (c : ¬ r = 0) (q : k' = k ∧ n = 0 ∧ e = 0) : RK k' n e := by
  rcases gt_y h c with z | z
  · left; rw [q.1, z]
  · right; left; rw [q.1, z]
theorem mu_e {na nb : Int64} {ea eb s v w : Int32} (ga : GR na ea) (gb : GR nb eb) (hs : 0 ≤ s.toInt ∧ s.toInt ≤ 54) (e1 : v = ea + eb) (e2 : w = v + s) : -5000 ≤ w.toInt ∧ w.toInt ≤ 5000 := by
  have h1 := GR_e ga
  have h2 := GR_e gb
  have a : v.toInt = ea.toInt + eb.toInt := by rw [e1, I_add] <;> omega
  have b : w.toInt = v.toInt + s.toInt := by rw [e2, I_add] <;> omega
  omega
theorem di_e {na nb : Int64} {ea eb s v w : Int32} (ga : GR na ea) (gb : GR nb eb) (hs : -200 ≤ s.toInt ∧ s.toInt ≤ 200) (e1 : v = ea - eb) (e2 : w = v + s) : -5000 ≤ w.toInt ∧ w.toInt ≤ 5000 := by
  have h1 := GR_e ga
  have h2 := GR_e gb
  have a : v.toInt = ea.toInt - eb.toInt := by rw [e1, I_sub] <;> omega
  have b : w.toInt = v.toInt + s.toInt := by rw [e2, I_add] <;> omega
  omega
theorem RK_n {k r : Int32} {n : Int64} {e : Int32} (h : RK k n e) (c5 : ¬ k = 5) (g : ¬ k = 3 ∧ ¬ k = 4) : GR n e := RK_GR h c5 g.1 g.2
theorem RK_is2 {k : Int32} {n : Int64} {e : Int32} (h : RK k n e) (c5 : ¬ k = 5) (g : ¬ k = 3 ∧ ¬ k = 4) : k = 2 := by
  rcases h with h | h | h | h
  · exact absurd h g.1
  · exact absurd h g.2
  · exact absurd h c5
  · exact h.1
theorem RK_eq {a k : Int32} {b n : Int64} {c e : Int32} (q : a = k ∧ b = n ∧ c = e) (h : RK k n e) : RK a b c := by rw [q.1, q.2.1, q.2.2]; exact h
theorem VK_eq {a k : Int32} {b n : Int64} {c e : Int32} (q : a = k ∧ b = n ∧ c = e) (h : VK k n e) : VK a b c := by rw [q.1, q.2.1, q.2.2]; exact h
theorem PP_m1 : PP (-1) 0 := Or.inr ⟨by decide, 0, by decide, by decide, by decide⟩
theorem ro_pp {n v : Int64} {e w : Int32} (g : GR n e) (c1 : e < 0) (c2 : -62 ≤ e) (ew : w = -e) (ev : v = n >>> (w.toInt64 &&& 63)) : PP v 0 := by
  have h1 := GR_n g
  rw [Int32.lt_iff_toInt_lt, I0] at c1
  rw [Int32.le_iff_toInt_le, show (-62 : Int32).toInt = -62 by decide] at c2
  have hw : w.toInt = -e.toInt := by rw [ew, I_neg (by omega)]
  have hk : w.toInt = ((-e.toInt).toNat : Int) := by omega
  have hv : v.toInt = n.toInt / 2 ^ (-e.toInt).toNat := by rw [ev]; exact L_shr n hk (by omega)
  have hp : (0 : Int) < 2 ^ (-e.toInt).toNat := Int.pow_pos (by decide)
  generalize (2 : Int) ^ (-e.toInt).toNat = p at hv hp
  have hb : v.toInt.natAbs ≤ n.toInt.natAbs := by
    rw [hv]
    rcases (show 0 ≤ n.toInt ∨ n.toInt < 0 by omega) with z | z
    · have a1 := Int.ediv_nonneg z (show 0 ≤ p by omega)
      have a2 := Int.ediv_le_self p z
      omega
    · have a1 := Int.ediv_neg_of_neg_of_pos z hp
      have a2 : n.toInt ≤ n.toInt / p := Int.le_ediv_of_mul_le hp (by
        have := Int.mul_nonneg (show 0 ≤ -n.toInt by omega) (show 0 ≤ p - 1 by omega)
        rw [Int.mul_sub, Int.neg_mul, Int.mul_one] at this
        omega)
      omega
  right
  exact ⟨by decide, 53, by decide, by rw [show (2 : Nat) ^ 53 = 9007199254740992 by decide]; omega, by decide⟩
theorem tb_g {r k k' : Int32} {n : Int64} {e : Int32} {z : Int32} (hz : z = 3 ∨ z = 4) (c2 : ¬ k = 2) : RK z n e ∧ (k = 2 → GR n e) := ⟨by rcases hz with h | h; exact Or.inl h; exact Or.inr (Or.inl h), fun h => absurd h c2⟩
theorem sp_3 {p k : Int32} {n : Int64} {e : Int32} (c1 : ¬ p < 3) (c2 : p ≤ 5) (q : k = p ∧ n = 0 ∧ e = 0) : RK k n e := by
  rw [Int32.lt_iff_toInt_lt, show (3 : Int32).toInt = 3 by decide] at c1
  rw [Int32.le_iff_toInt_le, show (5 : Int32).toInt = 5 by decide] at c2
  refine sp_RK (z := p) ?_ q
  rcases (show p.toInt = 3 ∨ p.toInt = 4 ∨ p.toInt = 5 by omega) with z | z | z
  · left; exact Int32.toInt_inj.mp (by rw [z]; decide)
  · right; left; exact Int32.toInt_inj.mp (by rw [z]; decide)
  · right; right; exact Int32.toInt_inj.mp (by rw [z]; decide)
theorem re_e {n : Int64} {e p v : Int32} (g : GR n e) (c1 : ¬ p < -1200) (c2 : p ≤ 1200) (ev : v = e + p) : -5000 ≤ v.toInt ∧ v.toInt ≤ 5000 := by
  have h := GR_e g
  rw [Int32.lt_iff_toInt_lt, show (-1200 : Int32).toInt = -1200 by decide] at c1
  rw [Int32.le_iff_toInt_le, show (1200 : Int32).toInt = 1200 by decide] at c2
  have : v.toInt = e.toInt + p.toInt := by rw [ev, I_add] <;> omega
  omega
theorem AK_put {K K' : Nat → Int32} {N N' : Nat → Int64} {E E' : Nat → Int32} {i : Nat} {k : Int32} {n : Int64} {e : Int32} (h : AK K N E) (q : K' = upd K i k ∧ N' = vp_updL N i n ∧ E' = upd E i e) (v : VK k n e) : AK K' N' E' := by
  intro j hj
  rw [q.1, q.2.1, q.2.2]
  by_cases z : j = i
  · subst z; rw [pk_us, pk_uLs, pk_us]; exact v
  · rw [pk_un z, pk_uLn z, pk_un z]; exact h j hj
theorem vp_lt {i : Int32} (hi : vp_in i 32) : i.toNatClampNeg < 32 := Nat.not_le.mp fun q => hi (Or.inr q)
theorem AK_at {K : Nat → Int32} {N : Nat → Int64} {E : Nat → Int32} {i : Int32} {a : Int32} {b : Int64} {c : Int32} (h : AK K N E) (hi : vp_in i 32) (q : a = K i.toNatClampNeg ∧ b = N i.toNatClampNeg ∧ c = E i.toNatClampNeg) : VK a b c := by
  rw [q.1, q.2.1, q.2.2]; exact h _ (vp_lt hi)
theorem po_s {x v : Int32} (c : ¬ x ≤ 0) (e : v = x >>> ((1 : Int32) &&& 31)) : v.toInt.toNat < x.toInt.toNat := by
  rw [Int32.le_iff_toInt_le, I0] at c
  have h := pk_shr x ((1 : Int32) &&& 31) 1 (by decide)
  rw [← e, Int.shiftRight_eq_div_pow] at h
  have : v.toInt = x.toInt / 2 := h
  omega
theorem GR_1 : GR 1 0 := Or.inr ⟨by decide, by decide, 0, by decide, by decide, by decide⟩
theorem RK_1 : RK 2 1 0 := RK_of ⟨rfl, GR_1⟩
