noncomputable section
theorem ifp {c : Prop} {d : Decidable c} {α : Type} {a b : α} (h : c) : @ite α c d a b = a := @if_pos c d h α a b
theorem ifn {c : Prop} {d : Decidable c} {α : Type} {a b : α} (h : ¬ c) : @ite α c d a b = b := @if_neg c d h α a b
/-- a real m * 2^x is held as the integer m * 2^(x + OFF) -/
def OFF : Nat := 6000
theorem OFF_eq : OFF = 6000 := rfl
def sc (m x : Int) : Int := m * 2 ^ (x + (OFF : Int)).toNat
def BL (T : Nat) : Nat := if T = 0 then 0 else T.log2 + 1
theorem BL_eq {T k : Nat} (h1 : 2 ^ k ≤ T) (h2 : T < 2 ^ (k + 1)) : BL T = k + 1 := by
  have h0 : T ≠ 0 := by have := Nat.two_pow_pos k; omega
  rw [BL, ifn h0]
  have a := (Nat.log2_lt h0).mpr h2
  have b := Nat.log2_self_le h0
  have c : k ≤ T.log2 := by
    rcases Nat.lt_or_ge T.log2 k with q | q
    · have := (Nat.log2_lt h0).mp q; omega
    · exact q
  omega
theorem BL_le {T k : Nat} (h : T < 2 ^ k) : BL T ≤ k := by
  by_cases h0 : T = 0
  · rw [BL, ifp h0]; omega
  · rw [BL, ifn h0]; exact (Nat.log2_lt h0).mpr h
theorem BL_lt {T : Nat} : T < 2 ^ BL T := by
  by_cases h0 : T = 0
  · rw [BL, ifp h0, h0]; decide
  · rw [BL, ifn h0]; exact (Nat.log2_lt h0).mp (by omega)
theorem BL_ge {T k : Nat} (h : 2 ^ k ≤ T) : k + 1 ≤ BL T := by
  have h1 := BL_lt (T := T)
  have h2 : 2 ^ k < 2 ^ BL T := Nat.lt_of_le_of_lt h h1
  exact (Nat.pow_lt_pow_iff_right (by decide)).mp h2
theorem BL_self {T : Nat} (h : T ≠ 0) : 2 ^ (BL T - 1) ≤ T := by
  rw [BL, ifn h]; exact Nat.log2_self_le h
theorem BL_mul {s B : Nat} (h : s ≠ 0) : BL (s * 2 ^ B) = BL s + B := by
  have h1 := BL_self h
  have h2 := BL_lt (T := s)
  have h3 : BL s = (BL s - 1) + 1 := by
    have := BL_ge (T := s) (k := 0) (by rw [Nat.pow_zero]; omega)
    omega
  have e : BL (s * 2 ^ B) = (BL s - 1 + B) + 1 := by
    apply BL_eq
    · rw [Nat.pow_add]; exact Nat.mul_le_mul_right _ h1
    · rw [show BL s - 1 + B + 1 = BL s + B by omega, Nat.pow_add]
      exact Nat.mul_lt_mul_of_pos_right h2 (Nat.two_pow_pos B)
  omega
def GL : Nat := OFF - 1074
def RG (T : Nat) : Nat := max (BL T - 53) GL
/-- rounded up, at d dropped bits -/
def RU (s d : Nat) (st : Bool) : Prop := 2 ^ (d - 1) < s % 2 ^ d ∨ (s % 2 ^ d = 2 ^ (d - 1) ∧ (st = true ∨ s / 2 ^ d % 2 = 1))
def RF (s d : Nat) (st : Bool) : Nat := s / 2 ^ d + @ite Nat (RU s d st) (Classical.propDecidable _) 1 0
def RT (T : Nat) (st : Bool) : Nat := RF T (RG T) st * 2 ^ RG T
theorem p_div {s B d : Nat} {r : Nat} (h : r < 2 ^ B) : (s * 2 ^ B + r) / 2 ^ (B + d) = s / 2 ^ d := by
  rw [Nat.pow_add, ← Nat.div_div_eq_div_mul, Nat.mul_comm s, Nat.mul_add_div (Nat.two_pow_pos B), Nat.div_eq_of_lt h, Nat.add_zero]
theorem p_mod {s B d : Nat} {r : Nat} (h : r < 2 ^ B) : (s * 2 ^ B + r) % 2 ^ (B + d) = s % 2 ^ d * 2 ^ B + r := by
  rw [Nat.pow_add, Nat.mod_mul, Nat.mul_comm s, Nat.mul_add_div (Nat.two_pow_pos B), Nat.div_eq_of_lt h, Nat.add_zero, Nat.mul_add_mod, Nat.mod_eq_of_lt h, Nat.mul_comm (2 ^ B), Nat.add_comm]
theorem RU_st {s d B r : Nat} {st st' : Bool} (hd : 1 ≤ d) (hr : r < 2 ^ B) (hs : st = true ↔ (r ≠ 0 ∨ st' = true)) : RU (s * 2 ^ B + r) (B + d) st' ↔ RU s d st := by
  unfold RU
  rw [p_div hr, p_mod hr, show 2 ^ (B + d - 1) = 2 ^ (d - 1) * 2 ^ B by rw [← Nat.pow_add]; congr 1; omega]
  have hB := Nat.two_pow_pos B
  generalize s % 2 ^ d = a
  generalize 2 ^ (d - 1) = h
  generalize 2 ^ B = b at *
  have e1 : h * b < a * b + r ↔ (h < a ∨ (a = h ∧ r ≠ 0)) := by
    constructor
    · intro q
      rcases Nat.lt_trichotomy h a with z | z | z
      · exact Or.inl z
      · refine Or.inr ⟨z.symm, ?_⟩
        rw [z] at q; omega
      · exfalso
        have : (a + 1) * b ≤ h * b := Nat.mul_le_mul_right b z
        rw [Nat.succ_mul] at this
        omega
    · intro q
      rcases q with q | ⟨q, z⟩
      · have : h * b < a * b := Nat.mul_lt_mul_of_pos_right q hB
        omega
      · rw [q]; omega
  have e2 : a * b + r = h * b ↔ (a = h ∧ r = 0) := by
    constructor
    · intro q
      rcases Nat.lt_trichotomy h a with z | z | z
      · have : h * b < a * b := Nat.mul_lt_mul_of_pos_right z hB
        omega
      · refine ⟨z.symm, ?_⟩
        rw [z] at q; omega
      · exfalso
        have : (a + 1) * b ≤ h * b := Nat.mul_le_mul_right b z
        rw [Nat.succ_mul] at this
        omega
    · rintro ⟨q, z⟩
      rw [q, z]; omega
  rw [e1, e2, hs]
  by_cases z : r = 0
  · simp [z]
  · simp [z]
theorem RF_of {s s' d d' : Nat} {st st' : Bool} (h1 : s' / 2 ^ d' = s / 2 ^ d) (h2 : RU s' d' st' ↔ RU s d st) : RF s' d' st' = RF s d st := by
  unfold RF
  rw [h1]
  by_cases h : RU s d st
  · rw [ifp h, ifp (h2.mpr h)]
  · rw [ifn h, ifn (fun q => h (h2.mp q))]
theorem RF_st {s d B r : Nat} {st st' : Bool} (hd : 1 ≤ d) (hr : r < 2 ^ B) (hs : st = true ↔ (r ≠ 0 ∨ st' = true)) : RF (s * 2 ^ B + r) (B + d) st' = RF s d st := RF_of (p_div hr) (RU_st hd hr hs)
theorem RF_or {s d : Nat} (hd : 2 ≤ d) : RF (s + (1 - s % 2)) d false = RF s d true := by
  obtain ⟨k, rfl⟩ : ∃ k, d = k + 2 := ⟨d - 2, by omega⟩
  have e0 : s + (1 - s % 2) = s / 2 * 2 ^ 1 + 1 := by rw [Nat.pow_one]; omega
  have e1 : s = s / 2 * 2 ^ 1 + s % 2 := by rw [Nat.pow_one]; omega
  have h1 : (s + (1 - s % 2)) / 2 ^ (k + 2) = s / 2 ^ (k + 2) := by
    rw [e0, show k + 2 = 1 + (k + 1) by omega, p_div (by decide)]
    conv => rhs; rw [e1]
    rw [p_div (by omega)]
  have h2 : (s + (1 - s % 2)) % 2 ^ (k + 2) = s / 2 % 2 ^ (k + 1) * 2 + 1 := by
    rw [e0, show k + 2 = 1 + (k + 1) by omega, p_mod (by decide), Nat.pow_one]
  have h3 : s % 2 ^ (k + 2) = s / 2 % 2 ^ (k + 1) * 2 + s % 2 := by
    conv => lhs; rw [e1]
    rw [show k + 2 = 1 + (k + 1) by omega, p_mod (by omega), Nat.pow_one]
  refine RF_of h1 ?_
  unfold RU
  rw [h1, h2, h3, show 2 ^ (k + 2 - 1) = 2 ^ k * 2 by rw [← Nat.pow_succ]; rfl]
  generalize s / 2 % 2 ^ (k + 1) = a
  generalize 2 ^ k = h
  constructor
  · intro q
    rcases q with q | q
    · rcases Nat.lt_or_ge h a with z | z
      · left; omega
      · rcases (show s % 2 = 0 ∨ s % 2 = 1 by omega) with y | y
        · right; exact ⟨by omega, Or.inl rfl⟩
        · left; omega
    · omega
  · intro q
    left
    rcases q with q | q
    · omega
    · omega
theorem BL_s {s B r T : Nat} (h : s ≠ 0) (hr : r < 2 ^ B) (eT : s * 2 ^ B + r = T) : BL T = BL s + B := by
  subst eT
  have h1 := BL_self h
  have h2 := BL_lt (T := s)
  have h3 := BL_ge (T := s) (k := 0) (by rw [Nat.pow_zero]; omega)
  have : BL (s * 2 ^ B + r) = (BL s - 1 + B) + 1 := by
    apply BL_eq
    · rw [Nat.pow_add]; exact Nat.le_trans (Nat.mul_le_mul_right _ h1) (Nat.le_add_right _ _)
    · rw [show BL s - 1 + B + 1 = BL s + B by omega, Nat.pow_add]
      have : (s + 1) * 2 ^ B ≤ 2 ^ BL s * 2 ^ B := Nat.mul_le_mul_right _ h2
      rw [Nat.succ_mul] at this
      omega
  omega
/-- the grid of a value that begins at bit L of s, s at scale B -/
theorem RG_s {s B r : Nat} (h : s ≠ 0) (hr : r < 2 ^ B) : RG (s * 2 ^ B + r) = max (BL s + B - 53) GL := by
  have e : BL (s * 2 ^ B + r) = BL s + B := BL_s h hr rfl
  rw [RG, e]
/-- what is rounded may be cut where 54 bits or more are left, if it is told that something was lost -/
theorem RT_st {s B r : Nat} {st st' : Bool} (h : 2 ^ 53 ≤ s) (hr : r < 2 ^ B) (hs : st = true ↔ (r ≠ 0 ∨ st' = true)) : RT (s * 2 ^ B + r) st' = RT (s * 2 ^ B) st := by
  have h0 : s ≠ 0 := by have := Nat.two_pow_pos 53; omega
  have h1 := BL_ge h
  have g1 := RG_s h0 hr
  have g2 : RG (s * 2 ^ B) = max (BL s + B - 53) GL := by rw [← RG_s h0 (Nat.two_pow_pos B), Nat.add_zero]
  unfold RT
  rw [g1, g2]
  obtain ⟨d, hd, e⟩ : ∃ d, 1 ≤ d ∧ max (BL s + B - 53) GL = B + d := ⟨max (BL s + B - 53) GL - B, by omega, by omega⟩
  rw [e, RF_st hd hr hs]
  congr 1
  have := RF_st (s := s) (B := B) (r := 0) (st := st) (st' := st) hd (Nat.two_pow_pos B) (by simp)
  rw [Nat.add_zero] at this
  exact this.symm
theorem BL_or {s : Nat} (h : s ≠ 0) : BL (s + (1 - s % 2)) = BL s := by
  have h1 := BL_self h
  have h2 := BL_lt (T := s)
  have h3 := BL_ge (T := s) (k := 0) (by rw [Nat.pow_zero]; omega)
  have : BL (s + (1 - s % 2)) = (BL s - 1) + 1 := by
    apply BL_eq
    · omega
    · rw [show BL s - 1 + 1 = BL s by omega]
      obtain ⟨k, hk⟩ : ∃ k, BL s = k + 1 := ⟨BL s - 1, by omega⟩
      rw [hk, Nat.pow_succ] at h2 ⊢
      omega
  omega
/-- the lost part may be told by the last bit where 55 bits or more are left -/
theorem RT_or {s B : Nat} (h : 2 ^ 54 ≤ s) : RT ((s + (1 - s % 2)) * 2 ^ B) false = RT (s * 2 ^ B) true := by
  have h0 : s ≠ 0 := by have := Nat.two_pow_pos 54; omega
  have h1 := BL_ge h
  have g2 : RG (s * 2 ^ B) = max (BL s + B - 53) GL := by rw [← RG_s h0 (Nat.two_pow_pos B), Nat.add_zero]
  have g1 : RG ((s + (1 - s % 2)) * 2 ^ B) = max (BL s + B - 53) GL := by rw [← BL_or h0, ← RG_s (s := s + (1 - s % 2)) (r := 0) (by omega) (Nat.two_pow_pos B), Nat.add_zero]
  unfold RT
  rw [g1, g2]
  obtain ⟨d, hd, e⟩ : ∃ d, 2 ≤ d ∧ max (BL s + B - 53) GL = B + d := ⟨max (BL s + B - 53) GL - B, by omega, by omega⟩
  rw [e]
  congr 1
  have a1 := RF_st (s := s) (B := B) (r := 0) (st := true) (st' := true) (d := d) (by omega) (Nat.two_pow_pos B) (by simp)
  have a2 := RF_st (s := s + (1 - s % 2)) (B := B) (r := 0) (st := false) (st' := false) (d := d) (by omega) (Nat.two_pow_pos B) (by simp)
  rw [Nat.add_zero] at a1 a2
  rw [a1, a2]; exact RF_or hd
/-- dropping d bits of s, at scale B -/
theorem RT_d {s B d : Nat} {st : Bool} (hd : 1 ≤ d) (h : s ≠ 0) (e : max (BL s + B - 53) GL = B + d) : RT (s * 2 ^ B) st = RF s d st * 2 ^ (B + d) := by
  have g2 : RG (s * 2 ^ B) = max (BL s + B - 53) GL := by rw [← RG_s h (Nat.two_pow_pos B), Nat.add_zero]
  unfold RT
  rw [g2, e]
  congr 1
  have := RF_st (s := s) (B := B) (r := 0) (st := st) (st' := st) hd (Nat.two_pow_pos B) (by simp)
  rw [Nat.add_zero] at this
  exact this
theorem GL_pos : 1 ≤ GL := by decide
theorem RT_0 {st : Bool} : RT 0 st = 0 := by
  have h : 0 < 2 ^ (RG 0 - 1) := Nat.two_pow_pos _
  have n : ¬ RU 0 (RG 0) st := by
    unfold RU
    rw [Nat.zero_mod]
    omega
  unfold RT RF
  rw [ifn n, Nat.zero_div, Nat.zero_add, Nat.zero_mul]
/-- nothing is dropped -/
theorem RT_e {s B : Nat} {st : Bool} (e : max (BL s + B - 53) GL ≤ B) : RT (s * 2 ^ B) st = s * 2 ^ B := by
  by_cases h : s = 0
  · subst h; rw [Nat.zero_mul]; exact RT_0
  · have g2 : RG (s * 2 ^ B) = max (BL s + B - 53) GL := by rw [← RG_s h (Nat.two_pow_pos B), Nat.add_zero]
    have g3 : GL ≤ RG (s * 2 ^ B) := by rw [g2]; omega
    have g4 : RG (s * 2 ^ B) ≤ B := by rw [g2]; exact e
    have hg := GL_pos
    generalize eG : RG (s * 2 ^ B) = G at *
    obtain ⟨j, rfl⟩ : ∃ j, B = G + j := ⟨B - G, by omega⟩
    have h1 : s * 2 ^ (G + j) = s * 2 ^ j * 2 ^ G := by rw [Nat.mul_assoc, ← Nat.pow_add, Nat.add_comm]
    have n : ¬ RU (s * 2 ^ (G + j)) G st := by
      unfold RU
      rw [h1, Nat.mul_mod_left]
      have := Nat.two_pow_pos (G - 1)
      omega
    unfold RT
    rw [eG]
    unfold RF
    rw [ifn n, Nat.add_zero, h1, Nat.mul_div_cancel _ (Nat.two_pow_pos G)]
end
