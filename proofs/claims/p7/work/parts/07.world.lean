def CX (h0 ra v1 v2 v3 : Nat) (cR : ClassId) (g : Nat → Option Nat) (Y : va_W) : va_W := (h0, .inr (1, [.ref ra, .ref v1, .ref v2, .ref v3])) :: (ra, .inl (cR, 32, .inr (.inr (.inr (.inr g))))) :: Y
def TY (cR c1 c2 c3 : ClassId) : zT := [(cR, .object "MixedNumbers$Value"), (c1, .int), (c2, .long), (c3, .int)]
def zH (LP : List Nat) (v1 v2 v3 : Nat) (g : Nat → Option Nat) : Prop := v1 ∈ LP ∧ v2 ∈ LP ∧ v3 ∈ LP ∧ ∀ j, j < 32 → ∃ y, y ∈ LP ∧ g j = some y
theorem zH_at {LP : List Nat} {v1 v2 v3 : Nat} {g : Nat → Option Nat} (h : zH LP v1 v2 v3 g) {i : Int32} (hi : vp_in i 32) : ∃ y, y ∈ LP ∧ g i.toNatClampNeg = some y := h.2.2.2 _ (Nat.not_le.mp fun q => hi (Or.inr q))
theorem zH_up {LP : List Nat} {v1 v2 v3 y k : Nat} {g g' : Nat → Option Nat} (h : zH LP v1 v2 v3 g) (hy : y ∈ LP) (e : g' = va_up g k (some y)) : zH LP v1 v2 v3 g' := by
  refine ⟨h.1, h.2.1, h.2.2.1, fun j hj => ?_⟩
  rw [e]
  by_cases q : j = k
  · subst q; exact ⟨y, hy, va_up_self _ _ _⟩
  · rw [va_up_ne _ _ q]; exact h.2.2.2 j hj
/-- the reference's cells -/
abbrev MS : Type := Int32 × Int64 × Int32 × Int32 × Int64 × Int32 × Int32 × Int64 × Int32 × Int64 × Int32 × (Nat → Int32) × (Nat → Int64) × (Nat → Int32)
def MW (h0 a1 a2 a3 : Nat) (c1 c2 c3 : ClassId) (u : MS) : va_W := match u with
  | (ka, na, ea, kb, nb, eb, k, n, e, bits, scale, K, N, E) => [(h0, .inr (2, [.ref a1, .ref a2, .ref a3, .int ka, .long na, .int ea, .int kb, .long nb, .int eb, .int k, .long n, .int e, .long bits, .int scale])), (a1, .inl (c1, 32, .inl K)), (a2, .inl (c2, 32, .inr (.inl N))), (a3, .inl (c3, 32, .inl E))]
def rowOK (a n : Int32) : Prop := 0 ≤ a.toInt ∧ 0 ≤ n.toInt ∧ a.toInt + n.toInt ≤ 32
theorem I0 : (0 : Int32).toInt = 0 := by decide
theorem I1 : (1 : Int32).toInt = 1 := by decide
theorem I32 : (32 : Int32).toInt = 32 := by decide
theorem Io1 : (Int32.ofInt 1).toInt = 1 := by decide
theorem Iom : (Int32.ofInt (-1)).toInt = -1 := by decide
theorem reg_1 {p : Int32} (h1 : ¬ p < 0) (h2 : ¬ 32 ≤ p) : vp_in p 32 := by
  rw [Int32.lt_iff_toInt_lt, I0] at h1
  rw [Int32.le_iff_toInt_le, I32] at h2
  exact vp_in_iff.mpr ⟨by omega, by omega⟩
theorem reg_0a {p : Int32} (h : p < 0) : ¬ vp_in p 32 := fun q => q (Or.inl h)
theorem reg_0b {p : Int32} (h : 32 ≤ p) : ¬ vp_in p 32 := fun q => by
  rw [Int32.le_iff_toInt_le, I32] at h
  have := (vp_in_iff.mp q).2
  omega
theorem reg_of {r p : Int32} (h : (r = 1 ∧ vp_in p 32) ∨ (r = 0 ∧ ¬ vp_in p 32)) (c : ¬ r = 0) : vp_in p 32 := by
  rcases h with h | h
  · exact h.2
  · exact absurd h.1 c
theorem reg_no {r p : Int32} (h : (r = 1 ∧ vp_in p 32) ∨ (r = 0 ∧ ¬ vp_in p 32)) (c : r = 0) : ¬ vp_in p 32 := by
  rcases h with h | h
  · rw [h.1] at c; exact absurd c (by decide)
  · exact h.2
theorem row_t {a n v : Int32} (h1 : ¬ a < 0) (h2 : ¬ 32 < a) (h3 : ¬ n < 0) (e : v = 32 - a) (h4 : ¬ v < n) : rowOK a n := by
  rw [Int32.lt_iff_toInt_lt] at h1 h2 h3 h4
  rw [I0] at h1 h3
  rw [I32] at h2
  have h5 : v.toInt = 32 - a.toInt := by rw [e, I_sub, I32] <;> rw [I32] <;> omega
  exact ⟨by omega, by omega, by omega⟩
theorem row_f1 {a n : Int32} (h : a < 0) : ¬ rowOK a n := fun q => by
  rw [Int32.lt_iff_toInt_lt, I0] at h
  have := q.1
  omega
theorem row_f2 {a n : Int32} (h : 32 < a) : ¬ rowOK a n := fun q => by
  rw [Int32.lt_iff_toInt_lt, I32] at h
  have := q.2
  omega
theorem row_f3 {a n : Int32} (h : n < 0) : ¬ rowOK a n := fun q => by
  rw [Int32.lt_iff_toInt_lt, I0] at h
  have := q.2.1
  omega
theorem row_f4 {a n v : Int32} (h1 : ¬ a < 0) (h2 : ¬ 32 < a) (e : v = 32 - a) (h4 : v < n) : ¬ rowOK a n := fun q => by
  rw [Int32.lt_iff_toInt_lt] at h1 h2 h4
  rw [I0] at h1
  rw [I32] at h2
  have h5 : v.toInt = 32 - a.toInt := by rw [e, I_sub, I32] <;> rw [I32] <;> omega
  have := q.2.2
  omega
theorem row_of {r a n : Int32} (h : (r = 1 ∧ rowOK a n) ∨ (r = 0 ∧ ¬ rowOK a n)) (c : ¬ r = 0) : rowOK a n := by
  rcases h with h | h
  · exact h.2
  · exact absurd h.1 c
theorem row_no {r a n : Int32} (h : (r = 1 ∧ rowOK a n) ∨ (r = 0 ∧ ¬ rowOK a n)) (c : r = 0) : ¬ rowOK a n := by
  rcases h with h | h
  · rw [h.1] at c; exact absurd c (by decide)
  · exact h.2
theorem sum_idx {a n i v : Int32} (h : rowOK a n) (hi : 0 ≤ i.toInt) (c : ¬ n ≤ i) (e : v = a + i) : vp_in v 32 := by
  obtain ⟨h1, h2, h3⟩ := h
  rw [Int32.le_iff_toInt_le] at c
  have h5 : v.toInt = a.toInt + i.toInt := by rw [e, I_add] <;> omega
  exact vp_in_iff.mpr ⟨by omega, by omega⟩
theorem inc_nn {n i v : Int32} (hi : 0 ≤ i.toInt) (c : ¬ n ≤ i) (e : v = i + Int32.ofInt 1) : 0 ≤ v.toInt := by
  rw [Int32.le_iff_toInt_le] at c
  have h1 := I_rg n
  have h5 : v.toInt = i.toInt + 1 := by rw [e, I_add, Io1] <;> rw [Io1] <;> omega
  omega
theorem pol_idx {a n i v : Int32} (h : rowOK a n) (hi : i.toInt < n.toInt) (c : ¬ i < 0) (e : v = a + i) : vp_in v 32 := by
  obtain ⟨h1, h2, h3⟩ := h
  rw [Int32.lt_iff_toInt_lt, I0] at c
  have h5 : v.toInt = a.toInt + i.toInt := by rw [e, I_add] <;> omega
  exact vp_in_iff.mpr ⟨by omega, by omega⟩
theorem pol_0 {a n v : Int32} (h : rowOK a n) (e : v = n - 1) : v.toInt < n.toInt := by
  obtain ⟨h1, h2, h3⟩ := h
  have h5 : v.toInt = n.toInt - 1 := by rw [e, I_sub, I1] <;> rw [I1] <;> omega
  omega
theorem pol_n {n i v : Int32} (hi : i.toInt < n.toInt) (c : ¬ i < 0) (e : v = i + Int32.ofInt (-1)) : v.toInt < n.toInt := by
  rw [Int32.lt_iff_toInt_lt, I0] at c
  have h1 := I_rg i
  have h5 : v.toInt = i.toInt + -1 := by rw [e, I_add, Iom] <;> rw [Iom] <;> omega
  omega
theorem pol_m {i v : Int32} (c : ¬ i < 0) (e : v = i + Int32.ofInt (-1)) : (v.toInt + 1).toNat < (i.toInt + 1).toNat := by
  rw [Int32.lt_iff_toInt_lt, I0] at c
  have h1 := I_rg i
  have h5 : v.toInt = i.toInt + -1 := by rw [e, I_add, Iom] <;> rw [Iom] <;> omega
  omega
theorem dec_upc {x b y c : Int32} (hc : c = b) (h : ¬ c ≤ x) (e : y = x + Int32.ofInt 1) : (b.toInt - y.toInt).toNat < (b.toInt - x.toInt).toNat := dec_up (hc ▸ h) e
theorem srt_0 {a n v : Int32} (h : rowOK a n) (e : v = a + 1) : a.toInt < v.toInt := by
  obtain ⟨h1, h2, h3⟩ := h
  have h5 : v.toInt = a.toInt + 1 := by rw [e, I_add, I1] <;> rw [I1] <;> omega
  omega
theorem srt_n {a n i v c : Int32} (h : rowOK a n) (hi : a.toInt < i.toInt) (hc : c = a + n) (q : ¬ c ≤ i) (e : v = i + Int32.ofInt 1) : a.toInt < v.toInt := by
  obtain ⟨h1, h2, h3⟩ := h
  rw [Int32.le_iff_toInt_le] at q
  have h4 : c.toInt = a.toInt + n.toInt := by rw [hc, I_add] <;> omega
  have h5 : v.toInt = i.toInt + 1 := by rw [e, I_add, Io1] <;> rw [Io1] <;> omega
  omega
theorem srt_b {a n i c : Int32} (h : rowOK a n) (hc : c = a + n) (q : ¬ c ≤ i) : i.toInt < 32 := by
  obtain ⟨h1, h2, h3⟩ := h
  rw [Int32.le_iff_toInt_le] at q
  have h4 : c.toInt = a.toInt + n.toInt := by rw [hc, I_add] <;> omega
  omega
theorem vp_of {p : Int32} (h1 : 0 ≤ p.toInt) (h2 : p.toInt < 32) : vp_in p 32 := vp_in_iff.mpr ⟨h1, h2⟩
theorem ins_i {a p x v : Int32} (h1 : 0 ≤ a.toInt) (h3 : p.toInt < 32) (h4 : x.toInt ≤ p.toInt) (c : ¬ x ≤ a) (e : v = x - 1) : vp_in v 32 := by
  rw [Int32.le_iff_toInt_le] at c
  have h5 : v.toInt = x.toInt - 1 := by rw [e, I_sub, I1] <;> rw [I1] <;> omega
  exact vp_of (by omega) (by omega)
theorem ins_n {a p x v : Int32} (h1 : 0 ≤ a.toInt) (h3 : p.toInt < 32) (h4 : x.toInt ≤ p.toInt) (c : ¬ x ≤ a) (e : v = x + Int32.ofInt (-1)) : a.toInt ≤ v.toInt ∧ v.toInt ≤ p.toInt ∧ (v.toInt - a.toInt).toNat < (x.toInt - a.toInt).toNat := by
  rw [Int32.le_iff_toInt_le] at c
  have h5 : v.toInt = x.toInt + -1 := by rw [e, I_add, Iom] <;> rw [Iom] <;> omega
  omega
theorem ne_of {a b x : Int64} (c : ¬ a = 0) (ha : a = x) (hb : b = x) : ¬ b = 0 := by rw [hb, ← ha]; exact c
