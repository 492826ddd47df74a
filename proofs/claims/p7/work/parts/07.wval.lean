theorem be_3 {f f1 f2 f3 : Nat → V3} {a b : Nat} {k e : Int32} {n : Int64} (k1 : k = (f b).1) (e1 : f1 = va_up f a (k, (f a).2.1, (f a).2.2)) (k2 : n = (f1 b).2.1) (e2 : f2 = va_up f1 a ((f1 a).1, n, (f1 a).2.2)) (k3 : e = (f2 b).2.2) (e3 : f3 = va_up f2 a ((f2 a).1, (f2 a).2.1, e)) : f3 = va_up f a (f b) := by
  subst k1; subst e1; subst k2; subst e2; subst k3; subst e3
  funext c
  by_cases h : c = a
  · subst h
    by_cases h2 : b = c
    · subst h2; simp [va_up]
    · simp [va_up, h2]
  · simp [va_up, h]
theorem st_3 {f f1 f2 f3 : Nat → V3} {a : Nat} {k e : Int32} {n : Int64} (e1 : f1 = va_up f a (k, (f a).2.1, (f a).2.2)) (e2 : f2 = va_up f1 a ((f1 a).1, n, (f1 a).2.2)) (e3 : f3 = va_up f2 a ((f2 a).1, (f2 a).2.1, e)) : f3 = va_up f a (k, n, e) := by
  subst e1; subst e2; subst e3
  funext b
  by_cases h : b = a <;> simp [va_up, h]
def ISI (r k : Int32) : Prop := (r = 1 ∧ (k = 3 ∨ k = 4)) ∨ (r = 0 ∧ ¬ k = 3 ∧ ¬ k = 4)
theorem isi_1 {v k : Int32} (e : v = k) (c : v = 3) : ISI 1 k := Or.inl ⟨rfl, Or.inl (e ▸ c)⟩
theorem isi_2 {v k : Int32} (e : v = k) (c : v = 4) : ISI 1 k := Or.inl ⟨rfl, Or.inr (e ▸ c)⟩
theorem isi_0 {v w k : Int32} (e : v = k) (c : ¬ v = 3) (e2 : w = k) (c2 : ¬ w = 4) : ISI 0 k := Or.inr ⟨rfl, e ▸ c, e2 ▸ c2⟩
theorem isi_w {r k : Int32} (h : ISI r k) (hk : k = 1) : r = 0 := by
  rcases h with ⟨-, h⟩ | h
  · subst hk; exact absurd h (by decide)
  · exact h.1
def CMPL (x y : Int64) (r : Int32) : Prop := (r = -1 ∧ x < y) ∨ (r = 0 ∧ x = y) ∨ (r = 1 ∧ y < x)
def CMPI (x y : Int32) (r : Int32) : Prop := (r = -1 ∧ x < y) ∨ (r = 0 ∧ x = y) ∨ (r = 1 ∧ y < x)
theorem cl_lt {x y : Int64} (c : ¬ y ≤ x) : CMPL x y (-1) := Or.inl ⟨rfl, Int64.not_le.mp c⟩
theorem cl_eq {x y : Int64} (c : x = y) : CMPL x y 0 := Or.inr (Or.inl ⟨rfl, c⟩)
theorem cl_gt {x y : Int64} (c : y ≤ x) (d : ¬ x = y) : CMPL x y 1 := Or.inr (Or.inr ⟨rfl, Int64.not_le.mp fun h => d (Int64.le_antisymm h c)⟩)
theorem ci_lt {x y : Int32} (c : ¬ y ≤ x) : CMPI x y (-1) := Or.inl ⟨rfl, Int32.not_le.mp c⟩
theorem ci_eq {x y : Int32} (c : x = y) : CMPI x y 0 := Or.inr (Or.inl ⟨rfl, c⟩)
theorem ci_gt {x y : Int32} (c : y ≤ x) (d : ¬ x = y) : CMPI x y 1 := Or.inr (Or.inr ⟨rfl, Int32.not_le.mp fun h => d (Int32.le_antisymm h c)⟩)
theorem cl_z {x y : Int64} {r : Int32} (h : CMPL x y r) (hx : x = 0) (hy : y = 0) : r = 0 := by
  subst hx; subst hy
  rcases h with h | h | h
  · exact absurd h.2 (by decide)
  · exact h.1
  · exact absurd h.2 (by decide)
theorem cw_a {v k : Int32} (e : v = k) (c : v = 2) (h : k = 1) : False := by
  subst e; rw [h] at c; exact absurd c (by decide)
theorem aw_e {a n : Int64} {b e : Int32} {r : Int64} (e1 : a = n) (e2 : b = e) (e3 : r = a <<< (b.toInt64 &&& 63)) : r = n <<< (e.toInt64 &&& 63) := by subst e1; subst e2; exact e3
theorem aw_z {n r : Int64} {e : Int32} (h : r = n <<< (e.toInt64 &&& 63)) (hn : n = 0) (he : e = 0) : r = 0 := by subst hn; subst he; rw [h]; decide
/-- all of the pool is whole 0 -/
def FZ (LP : List Nat) (f : Nat → V3) : Prop := ∀ a ∈ LP, f a = (1, 0, 0)
theorem fz_k {LP : List Nat} {f : Nat → V3} {a : Nat} (h : FZ LP f) (ha : a ∈ LP) : (f a).1 = 1 := by rw [h a ha]
theorem fz_n {LP : List Nat} {f : Nat → V3} {a : Nat} (h : FZ LP f) (ha : a ∈ LP) : (f a).2.1 = 0 := by rw [h a ha]
theorem fz_e {LP : List Nat} {f : Nat → V3} {a : Nat} (h : FZ LP f) (ha : a ∈ LP) : (f a).2.2 = 0 := by rw [h a ha]
theorem fz_up {LP : List Nat} {f g : Nat → V3} {b c : Nat} (h : FZ LP f) (hb : b ∈ LP) (e : g = va_up f c (f b)) : FZ LP g := by
  intro a ha
  subst e
  by_cases q : a = c
  · subst q; rw [va_up_self]; exact h b hb
  · rw [va_up_ne _ _ q]; exact h a ha
theorem fz_5 {LP : List Nat} {f : Nat → V3} {a : Nat} {v : Int32} (h : FZ LP f) (ha : a ∈ LP) (e : v = (f a).1) (c : v = 5) : False := by
  rw [e, fz_k h ha] at c; exact absurd c (by decide)
def ARW (r : Int32) (v w : V3) : Prop := (r = 1 ∧ v.1 = 1 ∧ w.1 = 1) ∨ (r = 0 ∧ ¬ (v.1 = 1 ∧ w.1 = 1))
theorem ar_1 {x y : Int32} {v w : V3} (e1 : x = v.1) (c1 : x = 1) (e2 : y = w.1) (c2 : y = 1) : ARW 1 v w := Or.inl ⟨rfl, e1 ▸ c1, e2 ▸ c2⟩
theorem ar_2 {x : Int32} {v w : V3} (e1 : x = v.1) (c1 : ¬ x = 1) : ARW 0 v w := Or.inr ⟨rfl, fun h => c1 (e1.trans h.1)⟩
theorem ar_3 {y : Int32} {v w : V3} (e2 : y = w.1) (c2 : ¬ y = 1) : ARW 0 v w := Or.inr ⟨rfl, fun h => c2 (e2.trans h.2)⟩
theorem ar_y {r : Int32} {v w : V3} (h : ARW r v w) (h1 : v.1 = 1) (h2 : w.1 = 1) : r = 1 := by
  rcases h with h | h
  · exact h.1
  · exact absurd ⟨h1, h2⟩ h.2
theorem ar_n {r : Int32} {v w : V3} (h : ARW r v w) (h1 : v.1 = 1) (h2 : w.1 = 1) (c : r = 0) : False := by
  rw [ar_y h h1 h2] at c; exact absurd c (by decide)
theorem cw_n {r k : Int32} (h : k = 1 → r = 1) (hk : k = 1) (c : r = 0) : False := by rw [h hk] at c; exact absurd c (by decide)
/-- an answer of operate, compare: -1 where refused, else z where all registers are whole 0 -/
def ANS (C A : Prop) (z r : Int32) : Prop := (¬ C → r = -1) ∧ (C → A → r = z)
theorem ans_no {C A : Prop} {z : Int32} (h : ¬ C) : ANS C A z (-1) := ⟨fun _ => rfl, fun q => absurd q h⟩
theorem ans_y {C A : Prop} {z r : Int32} (h : C) (e : A → r = z) : ANS C A z r := ⟨fun q => absurd h q, fun _ => e⟩
theorem ans_eq {C A B : Prop} {z r r2 : Int32} (h : ANS C A z r) (h2 : ANS C B z r2) (a : A) (b : B) : r = r2 := by
  by_cases q : C
  · rw [h.2 q a, h2.2 q b]
  · rw [h.1 q, h2.1 q]
def OPC (p1 p2 p3 p4 : Int32) : Prop := vp_in p2 32 ∧ vp_in p3 32 ∧ vp_in p4 32 ∧ ¬ p1 < 0 ∧ ¬ 17 < p1
def CPC (p1 p2 p3 : Int32) : Prop := vp_in p2 32 ∧ vp_in p3 32 ∧ ¬ p1 < 0 ∧ ¬ 2 < p1
def OPZ (p : Int32) : Int32 := if p = 4 ∨ p = 5 then 1 else 0
def CPZ (p : Int32) : Int32 := if p = 1 then 0 else 1
theorem opz_1 {p : Int32} (c : ¬ 3 < p) : OPZ p = 0 := if_neg fun h => by rcases h with rfl | rfl <;> exact c (by decide)
theorem opz_2 {p : Int32} (c : 5 < p) : OPZ p = 0 := if_neg fun h => by rcases h with rfl | rfl <;> exact absurd c (by decide)
theorem opz_3 {p : Int32} (c : ¬ 5 < p) (d : ¬ p = 3) (e : 2 < p) : OPZ p = 1 := if_pos (by
  have h1 : (5 : Int32).toInt = 5 := by decide
  have h2 : (2 : Int32).toInt = 2 := by decide
  have h3 : (3 : Int32).toInt = 3 := by decide
  have h4 : (4 : Int32).toInt = 4 := by decide
  rw [Int32.lt_iff_toInt_lt, h1] at c
  rw [Int32.lt_iff_toInt_lt, h2] at e
  rw [← Int32.toInt_inj, h3] at d
  rw [← Int32.toInt_inj, ← Int32.toInt_inj, h4, h1]
  omega)
theorem i_lt {a b : Int32} (p : Int32) (c : p < a) (h : a < b) : p < b := by
  rw [Int32.lt_iff_toInt_lt] at c h ⊢
  omega
theorem i_ge {a b : Int32} (p : Int32) (c : ¬ a < p) (h : a < b) : ¬ b < p := by
  rw [Int32.lt_iff_toInt_lt] at c h ⊢
  omega
theorem i_gt {a b : Int32} (p : Int32) (c : a < p) (h : b < a) : b < p := by
  rw [Int32.lt_iff_toInt_lt] at c h ⊢
  omega
theorem i_le {p a : Int32} (c : p ≤ a) : ¬ a < p := Int32.not_lt.mpr c
theorem i_nle {p a : Int32} (c : ¬ p ≤ a) : a < p := Int32.not_le.mp c
theorem cpz_0 {p : Int32} (c : ¬ p = 1) : 1 = CPZ p := (if_neg c).symm
theorem cpz_1 {p : Int32} (c : p = 1) : 0 = CPZ p := (if_pos c).symm
theorem cpz_2 {p : Int32} (c0 : ¬ p < 0) (c2 : ¬ 2 < p) (d0 : ¬ p = 0) (d2 : ¬ p = 2) : p = 1 := by
  have h2 : (2 : Int32).toInt = 2 := by decide
  rw [Int32.lt_iff_toInt_lt, I0] at c0
  rw [Int32.lt_iff_toInt_lt, h2] at c2
  rw [← Int32.toInt_inj, I0] at d0
  rw [← Int32.toInt_inj, h2] at d2
  rw [← Int32.toInt_inj, I1]
  omega
theorem p_0 {p : Int32} (h : p = 0) : ¬ p = 1 := by rw [h]; decide
theorem p_2 {p : Int32} (h : p = 2) : ¬ p = 1 := by rw [h]; decide
/-- the reference's registers are whole 0 -/
def RZ (K : Nat → Int32) (N : Nat → Int64) (E : Nat → Int32) : Prop := ∀ j, j < 32 → K j = 1 ∧ N j = 0 ∧ E j = 0
theorem vp_j {p : Int32} (h : vp_in p 32) : p.toNatClampNeg < 32 := Nat.not_le.mp fun q => h (Or.inr q)
def KV (LP : List Nat) (f : Nat → V3) (g : Nat → Option Nat) (p : Int32) (P : V3 → Prop) : Prop := ∃ y, y ∈ LP ∧ g p.toNatClampNeg = some y ∧ P (f y)
theorem kv_z {LP : List Nat} {f : Nat → V3} {g : Nat → Option Nat} {p : Int32} {P : V3 → Prop} (h : KV LP f g p P) (z : FZ LP f) : P (1, 0, 0) := by
  obtain ⟨y, hy, -, q⟩ := h
  rw [z y hy] at q
  exact q
theorem kv_i {LP : List Nat} {f : Nat → V3} {g : Nat → Option Nat} {p : Int32} {P : V3 → Prop} {y : Nat} (hy : y ∈ LP) (gy : g p.toNatClampNeg = some y) (q : P (f y)) : KV LP f g p P := ⟨y, hy, gy, q⟩
theorem pw_e {f : Nat → V3} {b : Nat} {r : Int64} (h : r = (f b).2.1 <<< ((f b).2.2.toInt64 &&& 63)) (h1 : (f b).2.1 = 0) (h2 : (f b).2.2 = 0) : r = 0 := aw_z h h1 h2
theorem pw_1 {r : Int64} (h : r = 0) (c : r < -65536) : False := by subst h; exact absurd c (by decide)
theorem pw_2 {r : Int64} (h : r = 0) (c : ¬ r ≤ 65536) : False := by subst h; exact absurd c (by decide)
theorem pw_3 {r : Int64} (h : r = 0) (c : 65536 < r) : False := by subst h; exact absurd c (by decide)
theorem op_dr {p r : Int32} {v w : V3} (c1 : 2 < p) (c2 : ¬ 5 < p) (h : (p = 3 → r = 0) ∧ (¬ p = 3 → v.1 = 1 → w.1 = 1 → w.2.1 = 0 → r = 1)) (h1 : v.1 = 1) (h2 : w.1 = 1) (h3 : w.2.1 = 0) : r = OPZ p := by
  by_cases q : p = 3
  · rw [h.1 q, q]; decide
  · rw [h.2 q h1 h2 h3, opz_3 c2 q c1]
theorem no_z {p r : Int64} (h : -9223372036854775808 < p.toInt → r.toInt = p.toInt.natAbs) (q : p = 0) : r = 0 := by
  subst q
  have h0 : (0 : Int64).toInt = 0 := by decide
  have h1 := h (by rw [h0]; decide)
  rw [← Int64.toInt_inj, h1, h0]
  rfl
theorem no_zs {p r v : Int64} (h : -9223372036854775808 < p.toInt → r.toInt = p.toInt.natAbs) (e : v = r >>> ((62 : Int32).toInt64 &&& 63)) (q : p = 0) : v = 0 := by
  rw [e, no_z h q]; decide
theorem eq3 {a k : Int32} {b n : Int64} {c e : Int32} (q : a = k ∧ b = n ∧ c = e) (h : k = 2 ∧ n = 0 ∧ e = 0) : a = 2 ∧ b = 0 ∧ c = 0 := ⟨q.1.trans h.1, q.2.1.trans h.2.1, q.2.2.trans h.2.2⟩
theorem iw_1 {x : Int32} (h : x = 0) (c : x < 0) : False := by subst h; exact absurd c (by decide)
theorem iw_2 {x : Int32} (h : x = 0) (c : ¬ x ≤ 63) : False := by subst h; exact absurd c (by decide)
theorem iw_3 {x : Int32} (h : x = 0) (c : x = 63) : False := by subst h; exact absurd c (by decide)
theorem iw_4 {p v w : Int64} {x : Int32} (e1 : v = p <<< (x.toInt64 &&& 63)) (e2 : w = v >>> (x.toInt64 &&& 63)) (hp : p = 0) (hx : x = 0) (c : ¬ w = p) : False := by
  subst hp; subst hx; subst e1; subst e2; exact c (by decide)
theorem pw_n {k r : Int32} {n : Int64} {e : Int32} (h : k = 2 → n = 0 → e = 0 → r = 1) (h1 : k = 2) (h2 : n = 0) (h3 : e = 0) (c : r = 0) : False := by rw [h h1 h2 h3] at c; exact absurd c (by decide)
theorem opz_n {a p : Int32} (h : (5 : Int32) < a) (c : ¬ p < a) : OPZ p = 0 := opz_2 (by
  rw [Int32.lt_iff_toInt_lt] at h c ⊢
  omega)
theorem op_w {p r : Int32} {Q : Prop} (c : p < 7) (d3 : ¬ p = 3) (d6 : ¬ p = 6) (h : (¬ 3 < p → r = 0) ∧ (3 < p → Q → r = 1)) (q : Q) : r = OPZ p := by
  by_cases g : 3 < p
  · rw [h.2 g q]
    refine (opz_3 ?_ d3 (i_gt _ g (by decide))).symm
    have h5 : (5 : Int32).toInt = 5 := by decide
    have h6 : (6 : Int32).toInt = 6 := by decide
    have h7 : (7 : Int32).toInt = 7 := by decide
    rw [Int32.lt_iff_toInt_lt, h7] at c
    rw [← Int32.toInt_inj, h6] at d6
    rw [Int32.lt_iff_toInt_lt, h5]
    omega
  · rw [h.1 g, opz_1 g]
theorem i_7 {p : Int32} (c1 : ¬ p ≤ 11) (c2 : p < 12) : p < 7 := by
  exfalso
  have h1 : (11 : Int32).toInt = 11 := by decide
  have h2 : (12 : Int32).toInt = 12 := by decide
  rw [Int32.le_iff_toInt_le, h1] at c1
  rw [Int32.lt_iff_toInt_lt, h2] at c2
  omega
theorem k15 {k : Int32} (h : k = 1) (c : k = 5) : False := by subst h; exact absurd c (by decide)
theorem ig_n {r k : Int32} (h : (r = 1 ∧ (k = 3 ∨ k = 4)) ∨ (r = 0 ∧ ¬ k = 3 ∧ ¬ k = 4)) (c : ¬ r = 0) (hk : k = 1) : False := c (isi_w h hk)
theorem ll_1 {a b : Int64} (c : ¬ b ≤ a) (h1 : a = 0) (h2 : b = 0) : False := by subst h1; subst h2; exact c (by decide)
theorem ll_2 {a b : Int64} (c : b < a) (h1 : a = 0) (h2 : b = 0) : False := by subst h1; subst h2; exact absurd c (by decide)
theorem p01 {p : Int32} (c : p = 0) (h : p = 1) : False := by subst c; exact absurd h (by decide)
theorem rz_t {K : Nat → Int32} {N : Nat → Int64} {E : Nat → Int32} {p a c : Int32} {b : Int64} (z : RZ K N E) (h : vp_in p 32) (q : a = K p.toNatClampNeg ∧ b = N p.toNatClampNeg ∧ c = E p.toNatClampNeg) : a = 1 ∧ b = 0 ∧ c = 0 := by
  rw [q.1, q.2.1, q.2.2]; exact z _ (vp_j h)
theorem ce_0 {ka kb ea eb r : Int32} {na nb : Int64} (h : ka = 1 → kb = 1 → na = nb → ea = eb → r = 1) (a : ka = 1 ∧ na = 0 ∧ ea = 0) (b : kb = 1 ∧ nb = 0 ∧ eb = 0) (c : r = 0) : False := by
  rw [h a.1 b.1 (a.2.1.trans b.2.1.symm) (a.2.2.trans b.2.2.symm)] at c; exact absurd c (by decide)
theorem ce_2 {ka kb ea eb r : Int32} {na nb : Int64} (h : ka = 1 → kb = 1 → na = 0 → nb = 0 → ((1 : Int32) = 0 → r = 0) ∧ ((1 : Int32) = 1 → r = 1)) (a : ka = 1 ∧ na = 0 ∧ ea = 0) (b : kb = 1 ∧ nb = 0 ∧ eb = 0) (c : r = 0) : False := by
  rw [(h a.1 b.1 a.2.1 b.2.1).2 rfl] at c; exact absurd c (by decide)
theorem ce_1 {ka kb ea eb r : Int32} {na nb : Int64} (h : ka = 1 → kb = 1 → na = 0 → nb = 0 → ((0 : Int32) = 0 → r = 0) ∧ ((0 : Int32) = 1 → r = 1)) (a : ka = 1 ∧ na = 0 ∧ ea = 0) (b : kb = 1 ∧ nb = 0 ∧ eb = 0) : r = 0 := (h a.1 b.1 a.2.1 b.2.1).1 rfl
theorem nm_1 {v k : Int32} (e : v = k) (c : ¬ 3 ≤ v) : k < 3 := e ▸ Int32.not_le.mp c
theorem nm_2 {v k : Int32} (e : v = k) (c : 3 ≤ v) : ¬ k < 3 := e ▸ Int32.not_lt.mpr c
