noncomputable section
def ofw (a : AV) : Int64 := Int64.ofInt (wi a)
def fdS (x y : Int64) : Int64 := if (x ^^^ y) < 0 ∧ ¬ x / y * y = x then x / y - 1 else x / y
def fmS (x y : Int64) : Int64 := x - y * fdS x y
def shS (x y : Int64) : Int64 := if y ≤ -64 ∨ 64 ≤ y then 0 else if y < 0 then (x.toUInt64 >>> ((-y).toInt32.toInt64.toUInt64 &&& Int64.toUInt64 63)).toInt64 else x <<< (y.toInt32.toInt64 &&& 63)
def addA (p : Int32) (a b : AV) : AV := match a, b with
  | .inl x, .inl y => .inl (if p = 0 then x + y else if p = 1 then x - y else x * y)
  | a, b => if p = 2 then mulR (turn a) (turn b) else addR (turn a) (if p = 1 then ng (turn b) else turn b)
def divB (p : Int32) (a b : AV) : AV := if p = 5 then remR a b else if p = 4 then flr (divR a b) else divR a b
def divA (p : Int32) (a b : AV) : AV := match a, b with
  | .inl x, .inl y => if p = 3 then divB p (turn a) (turn b) else if p = 4 then .inl (fdS x y) else .inl (fmS x y)
  | a, b => divB p (turn a) (turn b)
def divE (p : Int32) (a b : AV) : Int32 := match a, b with
  | .inl _, .inl y => if ¬ p = 3 ∧ y = 0 then 1 else 0
  | _, _ => 0
def powOK (b : AV) : Prop := cw b ∧ -65536 ≤ wi b ∧ wi b ≤ 65536
def powE (b : AV) : Int32 := @ite Int32 (powOK b) (Classical.propDecidable _) 0 3
def pw : Nat → Nat → AV → AV → AV
  | 0, _, _, acc => acc
  | k + 1, n, b, acc => if n = 0 then acc else pw k (n / 2) (mulR b b) (if n % 2 = 1 then mulR acc b else acc)
def powA (a b : AV) : AV := if wi b < 0 then divR (.inr (.inl W1)) (pw 32 (wi b).natAbs (turn a) (.inr (.inl W1))) else pw 32 (wi b).natAbs (turn a) (.inr (.inl W1))
def bitE (a b : AV) : Int32 := @ite Int32 (cw a ∧ cw b) (Classical.propDecidable _) 0 2
def bitA (p : Int32) (a b : AV) : AV := .inl (if p = 7 then ofw a &&& ofw b else if p = 8 then ofw a ||| ofw b else if p = 9 then ofw a ^^^ ofw b else if p = 10 then shS (ofw a) (ofw b) else shS (ofw a) (-(ofw b)))
def oneE (p : Int32) (a : AV) : Int32 := @ite Int32 ((p = 13 ∨ p = 16) ∧ ¬ cw a) (Classical.propDecidable _) 2 0
def oneA (p : Int32) (a : AV) : AV := if p = 12 then ng a else if p = 13 then .inl (ofw a ^^^ -1) else if p = 14 then (@ite AV (cw (flr a)) (Classical.propDecidable _) (.inl (ofw (flr a))) (flr a)) else if p = 15 then turn a else if p = 16 then .inl (ofw a) else if sg a < 0 then ng a else a
def opE (p : Int32) (a b : AV) : Int32 := if 2 < p then (if 5 < p then (if p = 6 then powE b else if 11 < p then oneE p a else bitE a b) else divE p a b) else 0
def opV (p : Int32) (a b : AV) : AV := if 2 < p then (if 5 < p then (if p = 6 then powA a b else if 11 < p then oneA p a else bitA p a b) else divA p a b) else addA p a b
def FRM (f f' : Nat → V3) (v1 v2 v3 : Nat) : Prop := ∀ b, b ≠ v1 → b ≠ v2 → b ≠ v3 → f' b = f b
def zV (v1 v2 v3 : Nat) : Prop := v1 ≠ v2 ∧ v1 ≠ v3 ∧ v2 ≠ v3
def zJ (v1 v2 v3 : Nat) (g : Nat → Option Nat) : Prop := zV v1 v2 v3 ∧ (∀ j y, j < 32 → g j = some y → y ≠ v1 ∧ y ≠ v2 ∧ y ≠ v3) ∧ (∀ i j, i < 32 → j < 32 → g i = g j → i = j)
def RA (f : Nat → V3) (g : Nat → Option Nat) (s : Nat → AV) : Prop := ∀ j, j < 32 → ∃ y, g j = some y ∧ CA (f y) (s j)
theorem frm_1 {f f1 : Nat → V3} {v1 v2 v3 : Nat} {x : AV} (h : UPD f f1 v1 x) : FRM f f1 v1 v2 v3 := fun _ h1 _ _ => UPD_ne h h1
theorem frm_2 {f f1 : Nat → V3} {v1 v2 v3 : Nat} {x : AV} (h : UPD f f1 v2 x) : FRM f f1 v1 v2 v3 := fun _ _ h2 _ => UPD_ne h h2
theorem frm_3 {f f1 : Nat → V3} {v1 v2 v3 : Nat} {x : AV} (h : UPD f f1 v3 x) : FRM f f1 v1 v2 v3 := fun _ _ _ h3 => UPD_ne h h3
theorem frm_t {f f1 f2 : Nat → V3} {v1 v2 v3 : Nat} (h : FRM f f1 v1 v2 v3) (h2 : FRM f1 f2 v1 v2 v3) : FRM f f2 v1 v2 v3 := fun b p q r => (h2 b p q r).trans (h b p q r)
theorem frm_i {f : Nat → V3} {v1 v2 v3 : Nat} : FRM f f v1 v2 v3 := fun _ _ _ _ => rfl
theorem nW_mk {b : Bool} {R : Nat} : nW (mkR b R) := by
  unfold mkR
  split
  · split <;> trivial
  · trivial
theorem nW_turn (a : AV) : nW (turn a) := by
  cases a using AV_el with
  | w v => exact nW_mk
  | r A => trivial
  | p => trivial
  | m => trivial
  | x => trivial
theorem nW_ng {a : AV} (h : nW a) : nW (ng a) := by cases a using AV_el <;> first | exact h | trivial
theorem nW_in (s : Int) : nW (inS s) := by unfold inS; split <;> (try split) <;> trivial
theorem nW_mul {a b : AV} (ha : nW a) (hb : nW b) : nW (mulR a b) := by
  cases a using AV_el <;> cases b using AV_el <;> first | exact absurd ha id | exact absurd hb id | exact nW_mk | exact nW_in _ | trivial
-- makeReals
theorem mr_e {f f1 f2 : Nat → V3} {v1 v2 v3 : Nat} (h1 : ∀ a, CA (f v1) a → UPD f f1 v1 (turn a)) (h2 : ∀ a, CA (f1 v2) a → UPD f1 f2 v2 (turn a)) : zV v1 v2 v3 → ∀ a b, CA (f v1) a → CA (f v2) b → CA (f2 v1) (turn a) ∧ CA (f2 v2) (turn b) ∧ FRM f f2 v1 v2 v3 := fun z a b ha hb => by
  have u1 := h1 a ha
  have u2 := h2 b (by rw [UPD_ne u1 (Ne.symm z.1)]; exact hb)
  exact ⟨by rw [UPD_ne u2 z.1]; exact UPD_at u1, UPD_at u2, frm_t (frm_1 u1) (frm_2 u2)⟩
-- addOrMultiply
theorem addA_n {p : Int32} {a b : AV} {r : Int32} {v w : V3} (ha : CA v a) (hb : CA w b) (h : ARW r v w) (c : r = 0) : addA p a b = if p = 2 then mulR (turn a) (turn b) else addR (turn a) (if p = 1 then ng (turn b) else turn b) := by
  rcases h with ⟨q, -⟩ | ⟨-, q⟩
  · rw [q] at c; exact absurd c (by decide)
  · cases a using AV_el with
    | w x =>
      cases b using AV_el with
      | w y => exact absurd ⟨by rw [show v = (1, x, 0) from ha], by rw [show w = (1, y, 0) from hb]⟩ q
      | _ => rfl
    | _ => rfl
theorem am_w {f f2 : Nat → V3} {v1 v2 v3 : Nat} {r p : Int32} {n m t : Int64} (h : ARW r (f v1) (f v2)) (c : ¬ r = 0) (en : n = (f v1).2.1) (em : m = (f v2).2.1) (ht : (p = 0 ∧ t = n + m) ∨ (¬ p = 0 ∧ p = 1 ∧ t = n - m) ∨ (¬ p = 0 ∧ ¬ p = 1 ∧ t = n * m)) (h2 : f2 = va_up f v1 (1, t, 0)) : zV v1 v2 v3 → ∀ a b, CA (f v1) a → CA (f v2) b → CA (f2 v1) (addA p a b) ∧ FRM f f2 v1 v2 v3 := fun z a b ha hb => by
  rcases h with ⟨-, q1, q2⟩ | ⟨q, -⟩
  · obtain ⟨x, rfl, hx⟩ := CA_1 ha rfl q1
    obtain ⟨y, rfl, hy⟩ := CA_1 hb rfl q2
    have en : n = x := by rw [en, hx]
    have em : m = y := by rw [em, hy]
    have e : t = (if p = 0 then x + y else if p = 1 then x - y else x * y) := by
      rcases ht with ⟨c1, e⟩ | ⟨c1, c2, e⟩ | ⟨c1, c2, e⟩
      · rw [ifp c1, e, en, em]
      · rw [ifn c1, ifp c2, e, en, em]
      · rw [ifn c1, ifn c2, e, en, em]
    have u : UPD f f2 v1 (addA p (.inl x) (.inl y)) := ⟨_, h2, by rw [e]; rfl⟩
    exact ⟨UPD_at u, frm_1 u⟩
  · exact absurd q c
theorem am_r {f f1 f2 : Nat → V3} {v1 v2 v3 : Nat} {r p : Int32} (h : ARW r (f v1) (f v2)) (c : r = 0) (hm : zV v1 v2 v3 → ∀ a b, CA (f v1) a → CA (f v2) b → CA (f1 v1) (turn a) ∧ CA (f1 v2) (turn b) ∧ FRM f f1 v1 v2 v3) (cp : p = 2) (h2 : ∀ a b, CA (f1 v1) a → CA (f1 v2) b → nW a → nW b → UPD f1 f2 v1 (mulR a b)) : zV v1 v2 v3 → ∀ a b, CA (f v1) a → CA (f v2) b → CA (f2 v1) (addA p a b) ∧ FRM f f2 v1 v2 v3 := fun z a b ha hb => by
  obtain ⟨m1, m2, m3⟩ := hm z a b ha hb
  have u := h2 _ _ m1 m2 (nW_turn a) (nW_turn b)
  rw [addA_n ha hb h c, ifp cp]
  exact ⟨UPD_at u, frm_t m3 (frm_1 u)⟩
theorem am_s {f f1 f2 f3 : Nat → V3} {v1 v2 v3 : Nat} {r p : Int32} (h : ARW r (f v1) (f v2)) (c : r = 0) (hm : zV v1 v2 v3 → ∀ a b, CA (f v1) a → CA (f v2) b → CA (f1 v1) (turn a) ∧ CA (f1 v2) (turn b) ∧ FRM f f1 v1 v2 v3) (cp : ¬ p = 2) (cq : p = 1) (hn : ∀ a, CA (f1 v2) a → UPD f1 f2 v2 (ng a)) (h2 : ∀ a b, CA (f2 v1) a → CA (f2 v2) b → nW a → nW b → UPD f2 f3 v1 (addR a b)) : zV v1 v2 v3 → ∀ a b, CA (f v1) a → CA (f v2) b → CA (f3 v1) (addA p a b) ∧ FRM f f3 v1 v2 v3 := fun z a b ha hb => by
  obtain ⟨m1, m2, m3⟩ := hm z a b ha hb
  have u1 := hn _ m2
  have u := h2 (turn a) (ng (turn b)) (by rw [UPD_ne u1 z.1]; exact m1) (UPD_at u1) (nW_turn a) (nW_ng (nW_turn b))
  rw [addA_n ha hb h c, ifn cp, ifp cq]
  exact ⟨UPD_at u, frm_t m3 (frm_t (frm_2 u1) (frm_1 u))⟩
theorem am_a {f f1 f3 : Nat → V3} {v1 v2 v3 : Nat} {r p : Int32} (h : ARW r (f v1) (f v2)) (c : r = 0) (hm : zV v1 v2 v3 → ∀ a b, CA (f v1) a → CA (f v2) b → CA (f1 v1) (turn a) ∧ CA (f1 v2) (turn b) ∧ FRM f f1 v1 v2 v3) (cp : ¬ p = 2) (cq : ¬ p = 1) (h2 : ∀ a b, CA (f1 v1) a → CA (f1 v2) b → nW a → nW b → UPD f1 f3 v1 (addR a b)) : zV v1 v2 v3 → ∀ a b, CA (f v1) a → CA (f v2) b → CA (f3 v1) (addA p a b) ∧ FRM f f3 v1 v2 v3 := fun z a b ha hb => by
  obtain ⟨m1, m2, m3⟩ := hm z a b ha hb
  have u := h2 _ _ m1 m2 (nW_turn a) (nW_turn b)
  rw [addA_n ha hb h c, ifn cp, ifn cq]
  exact ⟨UPD_at u, frm_t m3 (frm_1 u)⟩
-- divideOrRemainReal, divideOrRemain
theorem dr_r {f f1 : Nat → V3} {v1 v2 v3 : Nat} {p : Int32} (c : p = 5) (h : v1 ≠ v2 → ∀ a b, CA (f v1) a → CA (f v2) b → nW a → nW b → UPD f f1 v1 (remR a b)) : zV v1 v2 v3 → ∀ a b, CA (f v1) a → CA (f v2) b → nW a → nW b → CA (f1 v1) (divB p a b) ∧ FRM f f1 v1 v2 v3 := fun z a b ha hb wa wb => by
  have u := h z.1 a b ha hb wa wb
  unfold divB
  rw [ifp c]; exact ⟨UPD_at u, frm_1 u⟩
theorem dr_q {f f1 f2 : Nat → V3} {v1 v2 v3 : Nat} {p : Int32} (c : ¬ p = 5) (c4 : p = 4) (h : ∀ a b, CA (f v1) a → CA (f v2) b → nW a → nW b → UPD f f1 v1 (divR a b)) (h2 : ∀ a, CA (f1 v1) a → UPD f1 f2 v1 (flr a)) : zV v1 v2 v3 → ∀ a b, CA (f v1) a → CA (f v2) b → nW a → nW b → CA (f2 v1) (divB p a b) ∧ FRM f f2 v1 v2 v3 := fun z a b ha hb wa wb => by
  have u := h a b ha hb wa wb
  have u2 := h2 _ (UPD_at u)
  unfold divB
  rw [ifn c, ifp c4]; exact ⟨UPD_at u2, frm_t (frm_1 u) (frm_1 u2)⟩
theorem dr_d {f f1 : Nat → V3} {v1 v2 v3 : Nat} {p : Int32} (c : ¬ p = 5) (c4 : ¬ p = 4) (h : ∀ a b, CA (f v1) a → CA (f v2) b → nW a → nW b → UPD f f1 v1 (divR a b)) : zV v1 v2 v3 → ∀ a b, CA (f v1) a → CA (f v2) b → nW a → nW b → CA (f1 v1) (divB p a b) ∧ FRM f f1 v1 v2 v3 := fun z a b ha hb wa wb => by
  have u := h a b ha hb wa wb
  unfold divB
  rw [ifn c, ifn c4]; exact ⟨UPD_at u, frm_1 u⟩
/-- what an operation on first and second leaves: its error, its value, all else as it was -/
def OPP (f f' : Nat → V3) (v1 v2 v3 : Nat) (r : Int32) (E : AV → AV → Int32) (C : AV → AV → AV) : Prop := zV v1 v2 v3 → ∀ a b, CA (f v1) a → CA (f v2) b → r = E a b ∧ (r = 0 → CA (f' v1) (C a b)) ∧ FRM f f' v1 v2 v3
theorem dq_r {f f1 f2 : Nat → V3} {v1 v2 v3 : Nat} {p : Int32} (hc : p = 3 ∨ ∃ r, ARW r (f v1) (f v2) ∧ r = 0) (hm : zV v1 v2 v3 → ∀ a b, CA (f v1) a → CA (f v2) b → CA (f1 v1) (turn a) ∧ CA (f1 v2) (turn b) ∧ FRM f f1 v1 v2 v3) (h2 : zV v1 v2 v3 → ∀ a b, CA (f1 v1) a → CA (f1 v2) b → nW a → nW b → CA (f2 v1) (divB p a b) ∧ FRM f1 f2 v1 v2 v3) : OPP f f2 v1 v2 v3 0 (divE p) (divA p) := fun z a b ha hb => by
  obtain ⟨m1, m2, m3⟩ := hm z a b ha hb
  obtain ⟨k1, k2⟩ := h2 z _ _ m1 m2 (nW_turn a) (nW_turn b)
  have e : divE p a b = 0 ∧ divA p a b = divB p (turn a) (turn b) := by
    cases a using AV_el with
    | w x =>
      cases b using AV_el with
      | w y =>
        rcases hc with q | ⟨r, q, c⟩
        · refine ⟨?_, ?_⟩
          · show (if ¬ p = 3 ∧ y = 0 then (1 : Int32) else 0) = 0
            rw [ifn (fun h => h.1 q)]
          · show (if p = 3 then _ else _) = _
            rw [ifp q]
        · rcases q with ⟨q, -⟩ | ⟨-, q⟩
          · rw [q] at c; exact absurd c (by decide)
          · exact absurd ⟨by rw [show f v1 = (1, x, 0) from ha], by rw [show f v2 = (1, y, 0) from hb]⟩ q
      | _ => exact ⟨rfl, rfl⟩
    | _ => exact ⟨rfl, rfl⟩
  exact ⟨e.1.symm, fun _ => by rw [e.2]; exact k1, frm_t m3 k2⟩
theorem dq_z {f : Nat → V3} {v1 v2 v3 : Nat} {p r : Int32} {n : Int64} (c3 : ¬ p = 3) (h : ARW r (f v1) (f v2)) (c : ¬ r = 0) (en : n = (f v2).2.1) (cn : n = 0) : OPP f f v1 v2 v3 1 (divE p) (divA p) := fun z a b ha hb => by
  rcases h with ⟨-, q1, q2⟩ | ⟨q, -⟩
  · obtain ⟨x, rfl, hx⟩ := CA_1 ha rfl q1
    obtain ⟨y, rfl, hy⟩ := CA_1 hb rfl q2
    have hy0 : y = 0 := by rw [← cn, en, hy]
    refine ⟨?_, fun q => absurd q (by decide), frm_i⟩
    show 1 = (if ¬ p = 3 ∧ y = 0 then (1 : Int32) else 0)
    rw [ifp ⟨c3, hy0⟩]
  · exact absurd q c
theorem dq_w {f f2 : Nat → V3} {v1 v2 v3 : Nat} {p r : Int32} {n m m0 t : Int64} (c3 : ¬ p = 3) (h : ARW r (f v1) (f v2)) (c : ¬ r = 0) (e0 : m0 = (f v2).2.1) (c0 : ¬ m0 = 0) (en : n = (f v1).2.1) (em : m = (f v2).2.1) (ht : (p = 4 ∧ t = fdS n m) ∨ (¬ p = 4 ∧ t = fmS n m)) (h2 : f2 = va_up f v1 (1, t, 0)) : OPP f f2 v1 v2 v3 0 (divE p) (divA p) := fun z a b ha hb => by
  rcases h with ⟨-, q1, q2⟩ | ⟨q, -⟩
  · obtain ⟨x, rfl, hx⟩ := CA_1 ha rfl q1
    obtain ⟨y, rfl, hy⟩ := CA_1 hb rfl q2
    have en : n = x := by rw [en, hx]
    have em : m = y := by rw [em, hy]
    have hy0 : ¬ y = 0 := fun q => c0 (by rw [e0, hy]; exact q)
    have e : divA p (.inl x) (.inl y) = .inl t := by
      show (if p = 3 then _ else if p = 4 then _ else _) = _
      rw [ifn c3]
      rcases ht with ⟨c4, e⟩ | ⟨c4, e⟩
      · rw [ifp c4, e, en, em]
      · rw [ifn c4, e, en, em]
    have u : UPD f f2 v1 (divA p (.inl x) (.inl y)) := ⟨_, h2, by rw [e]; rfl⟩
    refine ⟨?_, fun _ => UPD_at u, frm_1 u⟩
    show 0 = (if ¬ p = 3 ∧ y = 0 then (1 : Int32) else 0)
    rw [ifn (fun q => hy0 q.2)]
  · exact absurd q c
theorem fd_1 {x y q v m r : Int64} (e1 : q = x / y) (e2 : v = x ^^^ y) (c : ¬ 0 ≤ v) (e3 : m = q * y) (c2 : ¬ m = x) (e4 : r = q - 1) : r = fdS x y := by
  unfold fdS
  subst e1; subst e2; subst e3
  rw [ifp ⟨Int64.not_le.mp c, c2⟩, e4]
theorem fd_2 {x y q v m : Int64} (e1 : q = x / y) (e3 : m = q * y) (c2 : m = x) : q = fdS x y := by
  unfold fdS
  subst e1; subst e3
  rw [ifn (fun h => h.2 c2)]
theorem fd_3 {x y q v : Int64} (e1 : q = x / y) (e2 : v = x ^^^ y) (c : 0 ≤ v) : q = fdS x y := by
  unfold fdS
  subst e1; subst e2
  rw [ifn (fun h => absurd h.1 (Int64.not_lt.mpr c))]
theorem fm_z {x y : Int64} : x - x / y * y = 0 ↔ x / y * y = x := by
  constructor
  · intro h; grind
  · intro h; grind
theorem fm_1 {x y m v r : Int64} (e1 : m = x - x / y * y) (e2 : v = x ^^^ y) (c : ¬ 0 ≤ v) (c2 : ¬ m = 0) (e4 : r = m + y) : r = fmS x y := by
  unfold fmS fdS
  subst e1; subst e2
  rw [ifp ⟨Int64.not_le.mp c, fun q => c2 (fm_z.mpr q)⟩, e4]
  grind
theorem fm_2 {x y m : Int64} (e1 : m = x - x / y * y) (c2 : m = 0) : m = fmS x y := by
  unfold fmS fdS
  subst e1
  rw [ifn (fun h => h.2 (fm_z.mp c2))]
  grind
theorem fm_3 {x y m v : Int64} (e1 : m = x - x / y * y) (e2 : v = x ^^^ y) (c : 0 ≤ v) : m = fmS x y := by
  unfold fmS fdS
  subst e1; subst e2
  rw [ifn (fun h => absurd h.1 (Int64.not_lt.mpr c))]
  grind
end
