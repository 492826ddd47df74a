noncomputable section
/-- what a value is: a whole number, a real (scaled), the infinities, the no-number -/
abbrev AV : Type := Int64 ⊕ Int ⊕ Ordering
/-- the five: a whole number, a real, plus and minus infinity, no number -/
theorem AV_el {motive : AV → Prop} (w : ∀ v : Int64, motive (.inl v)) (r : ∀ A : Int, motive (.inr (.inl A))) (p : motive (.inr (.inr .lt))) (m : motive (.inr (.inr .eq))) (x : motive (.inr (.inr .gt))) (a : AV) : motive a := by
  rcases a with v | A | _ | _ | _
  · exact w v
  · exact r A
  · exact p
  · exact m
  · exact x
theorem L0z : (0 : Int64).toInt = 0 := by decide
def bb (p : Int32) : Bool := decide (¬ p = 0)
theorem bb_t {p : Int32} (h : ¬ p = 0) : bb p = true := decide_eq_true h
theorem bb_f {p : Int32} (h : p = 0) : bb p = false := decide_eq_false (fun q => q h)
theorem TOP_x : ∃ t : Nat, t = 2 ^ (1024 + OFF) := Exists.intro _ rfl
def TOP : Nat := Classical.choose TOP_x
theorem TOP_e : TOP = 2 ^ (1024 + OFF) := Classical.choose_spec TOP_x
theorem TOP_pos : 0 < TOP := TOP_e.symm ▸ Nat.two_pow_pos _
theorem TOP_le {a : Nat} (h : 1024 + OFF ≤ a) : TOP ≤ 2 ^ a := Nat.le_trans (Nat.le_of_eq TOP_e) (Nat.pow_le_pow_right (by decide) h)
theorem le_TOP {a : Nat} (h : a ≤ 1024 + OFF) : 2 ^ a ≤ TOP := Nat.le_trans (Nat.pow_le_pow_right (by decide) h) (Nat.le_of_eq TOP_e.symm)
def mkR (neg : Bool) (R : Nat) : AV := if TOP ≤ R then (if neg = true then (.inr (.inr .eq)) else (.inr (.inr .lt))) else .inr (.inl (if neg = true then -(R : Int) else R))
def rnd (neg : Bool) (T : Nat) (st : Bool) : AV := mkR neg (RT T st)
def CN (n : Int64) (e : Int32) : Prop := (n = 0 ∧ e = 0) ∨ (¬ n = 0 ∧ n.toInt.natAbs < 9007199254740992 ∧ -1074 ≤ e.toInt ∧ e.toInt ≤ 971 ∧ (n.toInt % 2 = 1 ∨ e = 971))
def CA (v : V3) : AV → Prop
  | .inl x => v = (1, x, 0)
  | .inr (.inl A) => v.1 = 2 ∧ CN v.2.1 v.2.2 ∧ sc v.2.1.toInt v.2.2.toInt = A
  | (.inr (.inr .lt)) => v = (3, 0, 0)
  | (.inr (.inr .eq)) => v = (4, 0, 0)
  | (.inr (.inr .gt)) => v = (5, 0, 0)
-- signum
def SGN (p : Int64) (r : Int32) : Prop := (r = -1 ∧ p.toInt < 0) ∨ (r = 0 ∧ p.toInt = 0) ∨ (r = 1 ∧ 0 < p.toInt)
theorem sgn_e {p v3 v5 v8 v9 : Int64} {r : Int32} (e3 : v3 = p >>> ((63 : Int32).toInt64 &&& 63)) (e5 : v5 = -p) (e8 : v8 = (v5.toUInt64 >>> ((63 : Int32).toInt64.toUInt64 &&& Int64.toUInt64 63)).toInt64) (e9 : v9 = v3 ||| v8) (er : r = v9.toInt32) : SGN p r := by
  have h3 := L_shr p (y := 63) (k := 63) (by decide) (by decide)
  rw [← e3, show (2 : Int) ^ 63 = 9223372036854775808 by decide] at h3
  have h5 := un_neg e5
  have h8 := un_shr (y := 63) (k := 63) (by decide) (by decide) e8
  rw [show (2 : Nat) ^ 63 = 9223372036854775808 by decide] at h8
  have hp := un_of p
  have hl := un_lt p
  have hr := L_rg p
  rcases Int.lt_trichotomy p.toInt 0 with q | q | q
  · left
    have a : v3 = -1 := Int64.toInt_inj.mp (by rw [h3, show (-1 : Int64).toInt = -1 by decide]; omega)
    refine ⟨?_, q⟩
    have b : v8 = 0 ∨ v8 = 1 := by
      have : un v8 = 0 ∨ un v8 = 1 := by have := un_lt v5; omega
      rcases this with z | z
      · left; exact un_inj (by rw [z]; rfl)
      · right; exact un_inj (by rw [z]; rfl)
    rw [er, e9, a]
    rcases b with b | b <;> rw [b] <;> decide
  · right; left
    have a : v3 = 0 := Int64.toInt_inj.mp (by rw [h3, L0z]; omega)
    have b : v8 = 0 := un_inj (by
      have : un p = 0 := by split at hp <;> omega
      rw [h8, h5, this]; decide)
    exact ⟨by rw [er, e9, a, b]; decide, q⟩
  · right; right
    have a : v3 = 0 := Int64.toInt_inj.mp (by rw [h3, L0z]; omega)
    have b : v8 = 1 := un_inj (by
      rw [un1]
      have : un p < 9223372036854775808 ∧ 0 < un p := by split at hp <;> omega
      omega)
    exact ⟨by rw [er, e9, a, b]; decide, q⟩
-- sizeOf
theorem so_p {p : Int64} (c : 0 ≤ p) : un p = p.toInt.natAbs := by
  rw [Int64.le_iff_toInt_le, L0z] at c
  have := un_p c
  omega
theorem so_n {p v : Int64} (c : ¬ 0 ≤ p) (e : v = -p) : un v = p.toInt.natAbs := by
  rw [Int64.le_iff_toInt_le, L0z] at c
  have h := un_neg e
  have hp := un_of p
  have hl := un_lt p
  split at hp <;> omega
-- dropBits
def DBC (p : Int64) (d : Int32) : Prop := 1 ≤ d.toInt ∧ (un p < 9223372036854775808 ∨ (un p = 9223372036854775808 ∧ d.toInt = 11))
def DRV (p : Int64) (d : Int32) (k r h : Int64) : Prop := DBC p d → un k = un p / 2 ^ d.toInt.toNat ∧ r.toInt = ((un p % 2 ^ d.toInt.toNat : Nat) : Int) ∧ h.toInt = ((2 ^ (d.toInt.toNat - 1) : Nat) : Int) ∧ un k < 9223372036854775808
theorem dr_0 {p : Int64} {d : Int32} {st : Bool} (c : ¬ d ≤ 63) : DBC p d → un 0 = RF (un p) d.toInt.toNat st := by
  rintro ⟨h1, h2⟩
  rw [Int32.le_iff_toInt_le, show (63 : Int32).toInt = 63 by decide] at c
  have h3 : un p < 9223372036854775808 := by omega
  have h4 : 2 ^ 63 ≤ 2 ^ (d.toInt.toNat - 1) := Nat.pow_le_pow_right (by decide) (by omega)
  have h5 : 2 ^ d.toInt.toNat = 2 ^ (d.toInt.toNat - 1) * 2 := by rw [← Nat.pow_succ]; congr 1; omega
  rw [show (2 : Nat) ^ 63 = 9223372036854775808 by decide] at h4
  unfold RF
  rw [Nat.div_eq_of_lt (by omega), ifn]
  · rfl
  · unfold RU
    rw [Nat.mod_eq_of_lt (by omega)]
    omega
theorem dr_v {p k a r h : Int64} {d d1 : Int32} (c : d ≤ 63) (e1 : k = (p.toUInt64 >>> (d.toInt64.toUInt64 &&& Int64.toUInt64 63)).toInt64) (e2 : a = k <<< (d.toInt64 &&& 63)) (e3 : r = p - a) (e4 : d1 = d - 1) (e5 : h = 1 <<< (d1.toInt64 &&& 63)) : DRV p d k r h := by
  rintro ⟨h1, h2⟩
  rw [Int32.le_iff_toInt_le, show (63 : Int32).toInt = 63 by decide] at c
  obtain ⟨n, hn⟩ : ∃ n : Nat, d.toInt = n := ⟨d.toInt.toNat, by omega⟩
  have hk := un_shr hn (by omega) e1
  have ha := un_shl hn (by omega) e2
  have hd1 : d1.toInt = ((n - 1 : Nat) : Int) := by rw [e4, I_sub, I1] <;> (try rw [I1]) <;> omega
  have hh := un_shl hd1 (by omega) e5
  have hl := un_lt p
  have e6 : d.toInt.toNat = n := by omega
  rw [e6]
  have w : un p / 2 ^ n * 2 ^ n + un p % 2 ^ n = un p := by rw [Nat.mul_comm]; exact Nat.div_add_mod _ _
  have w2 := Nat.mod_lt (un p) (Nat.two_pow_pos n)
  rw [hk, Nat.mod_eq_of_lt (by omega)] at ha
  have hr := un_sub e3 (by rw [ha]; omega)
  rw [ha] at hr
  have hr2 : un r = un p % 2 ^ n := by omega
  have p1 : 2 ^ (n - 1) ≤ 2 ^ 62 := Nat.pow_le_pow_right (by decide) (by omega)
  have p2 : 2 ^ n ≤ 2 ^ 63 := Nat.pow_le_pow_right (by decide) (by omega)
  have p3 : 2 ^ 1 ≤ 2 ^ n := Nat.pow_le_pow_right (by decide) (by omega)
  rw [show (2 : Nat) ^ 62 = 4611686018427387904 by decide] at p1
  rw [show (2 : Nat) ^ 63 = 9223372036854775808 by decide] at p2
  rw [un1, Nat.one_mul, Nat.mod_eq_of_lt (by omega)] at hh
  refine ⟨hk, ?_, ?_, ?_⟩
  · rw [un_of r, ifp (by omega), hr2]
  · rw [un_of h, ifp (by omega), hh]
  · rw [hk]
    have : un p / 2 ^ n ≤ un p / 2 ^ 1 := Nat.div_le_div_left p3 (by decide)
    rw [Nat.pow_one] at this
    omega
theorem dr_up {p k r h v : Int64} {d : Int32} {st : Bool} (g : DRV p d k r h) (ev : v = k + 1) (u : DBC p d → RU (un p) d.toInt.toNat st) : DBC p d → un v = RF (un p) d.toInt.toNat st := fun hc => by
  obtain ⟨h1, h2, h3, h4⟩ := g hc
  have := un_add ev
  rw [un1, Nat.mod_eq_of_lt (by omega)] at this
  unfold RF
  rw [ifp (u hc), this, h1]
theorem dr_no {p k r h : Int64} {d : Int32} {st : Bool} (g : DRV p d k r h) (u : DBC p d → ¬ RU (un p) d.toInt.toNat st) : DBC p d → un k = RF (un p) d.toInt.toNat st := fun hc => by
  obtain ⟨h1, h2, h3, h4⟩ := g hc
  unfold RF
  rw [ifn (u hc), h1]; rfl
theorem dr_u1 {p k r h : Int64} {d : Int32} {st : Bool} (g : DRV p d k r h) (c : h < r) : DBC p d → RU (un p) d.toInt.toNat st := fun hc => by
  obtain ⟨h1, h2, h3, h4⟩ := g hc
  rw [Int64.lt_iff_toInt_lt, h2, h3] at c
  exact Or.inl (Int.ofNat_lt.mp c)
theorem dr_eq {p k r h : Int64} {d : Int32} (g : DRV p d k r h) (c : r = h) : DBC p d → un p % 2 ^ d.toInt.toNat = 2 ^ (d.toInt.toNat - 1) := fun hc => by
  obtain ⟨h1, h2, h3, h4⟩ := g hc
  rw [c, h3] at h2
  exact (Int.ofNat_inj.mp h2).symm
theorem dr_u2 {p k r h : Int64} {d m : Int32} (g : DRV p d k r h) (c : r = h) (hm : ¬ m = 0) : DBC p d → RU (un p) d.toInt.toNat (bb m) := fun hc => Or.inr ⟨dr_eq g c hc, Or.inl (bb_t hm)⟩
theorem dr_u3 {p k r h v : Int64} {d : Int32} {st : Bool} (g : DRV p d k r h) (c : r = h) (ev : v = k &&& 1) (c1 : v = 1) : DBC p d → RU (un p) d.toInt.toNat st := fun hc => Or.inr ⟨dr_eq g c hc, Or.inr (by
  have := un_and1 ev
  rw [c1, un1, (g hc).1] at this
  exact this.symm)⟩
theorem dr_n1 {p k r h : Int64} {d : Int32} {st : Bool} (g : DRV p d k r h) (c : ¬ h < r) (c2 : ¬ r = h) : DBC p d → ¬ RU (un p) d.toInt.toNat st := fun hc q => by
  obtain ⟨h1, h2, h3, h4⟩ := g hc
  rw [Int64.lt_iff_toInt_lt, h2, h3] at c
  rcases q with q | q
  · exact c (Int.ofNat_lt.mpr q)
  · exact c2 (Int64.toInt_inj.mp (by rw [h2, h3, q.1]))
theorem dr_n2 {p k r h v : Int64} {d m : Int32} (g : DRV p d k r h) (c : ¬ h < r) (hm : m = 0) (ev : v = k &&& 1) (c1 : ¬ v = 1) : DBC p d → ¬ RU (un p) d.toInt.toNat (bb m) := fun hc q => by
  obtain ⟨h1, h2, h3, h4⟩ := g hc
  rw [Int64.lt_iff_toInt_lt, h2, h3] at c
  rcases q with q | ⟨-, q | q⟩
  · exact c (Int.ofNat_lt.mpr q)
  · rw [bb_f hm] at q; exact absurd q (by decide)
  · have := un_and1 ev
    rw [h1, q] at this
    exact c1 (un_inj (by rw [this]; rfl))
end
