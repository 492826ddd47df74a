noncomputable section
def RMs (K : Nat → Int32) (N : Nat → Int64) (E : Nat → Int32) (s : Nat → AV) : Prop := ∀ j, j < 32 → MA (K j) (N j) (E j) (s j)
def okS (s : Nat → AV) : Prop := ∀ j, j < 32 → okA (s j)
theorem RMs_put {K K' : Nat → Int32} {N N' : Nat → Int64} {E E' : Nat → Int32} {i : Nat} {k : Int32} {n : Int64} {e : Int32} {s : Nat → AV} {c : AV} (h : RMs K N E s) (q : K' = upd K i k ∧ N' = vp_updL N i n ∧ E' = upd E i e) (v : MA k n e c) : RMs K' N' E' (va_up s i c) := by
  intro j hj
  rw [q.1, q.2.1, q.2.2]
  by_cases z : j = i
  · subst z; rw [pk_us, pk_uLs, pk_us, va_up_self]; exact v
  · rw [pk_un z, pk_uLn z, pk_un z, va_up_ne _ _ z]; exact h j hj
theorem RMs_at {K : Nat → Int32} {N : Nat → Int64} {E : Nat → Int32} {i a c : Int32} {b : Int64} {s : Nat → AV} (h : RMs K N E s) (hi : vp_in i 32) (q : a = K i.toNatClampNeg ∧ b = N i.toNatClampNeg ∧ c = E i.toNatClampNeg) : MA a b c (s i.toNatClampNeg) := by
  rw [q.1, q.2.1, q.2.2]; exact h _ (vp_lt hi)
def STM (K : Nat → Int32) (N : Nat → Int64) (E K' : Nat → Int32) (N' : Nat → Int64) (E' : Nat → Int32) (C : Prop) (T : (Nat → AV) → Nat → AV) : Prop := ∀ s, okS s → RMs K N E s → (¬ C → RMs K' N' E' s) ∧ (C → RMs K' N' E' (T s))
theorem stm_n {K E : Nat → Int32} {N : Nat → Int64} {C : Prop} {T : (Nat → AV) → Nat → AV} (h : ¬ C) : STM K N E K N E C T := fun _ _ hs => ⟨fun _ => hs, fun q => absurd q h⟩
theorem stm_y {K E K' E' : Nat → Int32} {N N' : Nat → Int64} {C : Prop} {T : (Nat → AV) → Nat → AV} (c : C) (h : ∀ s, RMs K N E s → RMs K' N' E' (T s)) : STM K N E K' N' E' C T := fun s _ hs => ⟨fun q => absurd c q, fun _ => h s hs⟩
theorem spm_c {p k e : Int32} {n : Int64} (h1 : ¬ p < 3) (h2 : p ≤ 5) (q : k = p ∧ n = 0 ∧ e = 0) : MA k n e (spA p) := by
  have h3 : (3 : Int32).toInt = 3 := by decide
  have h5 : (5 : Int32).toInt = 5 := by decide
  rw [Int32.lt_iff_toInt_lt, h3] at h1
  rw [Int32.le_iff_toInt_le, h5] at h2
  have : p = 3 ∨ p = 4 ∨ p = 5 := by
    rcases (show p.toInt = 3 ∨ p.toInt = 4 ∨ p.toInt = 5 by omega) with q | q | q
    · left; exact Int32.toInt_inj.mp (by rw [q]; decide)
    · right; left; exact Int32.toInt_inj.mp (by rw [q]; decide)
    · right; right; exact Int32.toInt_inj.mp (by rw [q]; decide)
  rcases this with rfl | rfl | rfl <;> exact q
theorem rem_c {m n1 s : Int64} {k1 e1 e x k2 e2 : Int32} {n2 : Int64} (p : Int32) (h1 : MA k1 n1 e1 (rndS m.toInt (0 : Int32).toInt)) (hs : -9223372036854775808 < n1.toInt → s.toInt = n1.toInt.natAbs) (c1 : ¬ e < -1200) (c2 : e ≤ 1200) (ex : x = e1 + e) (hp : bb p = decide (n1.toInt < 0)) (h2 : MA k2 n2 e2 (rnd (bb p) (s.toInt.toNat * 2 ^ (x.toInt + (OFF : Int)).toNat) false)) : MA k2 n2 e2 (real2 e.toInt (rndW m.toInt)) := by
  rw [rndS_0] at h1
  obtain ⟨A, hA, -, -, q, hq⟩ := rndW_r m
  rw [hA] at h1 ⊢
  have ge := GR_e h1.2.1
  have sz := sz_b h1.2.1 hs
  rw [Int32.lt_iff_toInt_lt, show (-1200 : Int32).toInt = -1200 by decide] at c1
  rw [Int32.le_iff_toInt_le, show (1200 : Int32).toInt = 1200 by decide] at c2
  have hx : x.toInt = e1.toInt + e.toInt := by rw [ex, I_add] <;> omega
  have hO : (OFF : Int) = 6000 := rfl
  have hn : bb p = decide (A < 0) := by
    rw [hp, ← h1.2.2]
    by_cases z : n1.toInt < 0
    · rw [decide_eq_true z, decide_eq_true (sc_neg.mpr z)]
    · rw [decide_eq_false z, decide_eq_false (fun w => z (sc_neg.mp w))]
  have hT : s.toInt.toNat * 2 ^ (x.toInt + (OFF : Int)).toNat = A.natAbs * 2 ^ (e.toInt + 1200).toNat / 2 ^ 1200 := by
    rw [← h1.2.2, GR_abs, Nat.mul_assoc, ← Nat.pow_add, show (e1.toInt + (OFF : Int)).toNat + (e.toInt + 1200).toNat = (x.toInt + (OFF : Int)).toNat + 1200 by omega, Nat.pow_add, ← Nat.mul_assoc, Nat.mul_div_cancel _ (Nat.two_pow_pos 1200), show s.toInt.toNat = n1.toInt.natAbs by omega]
  rw [hn, hT] at h2
  exact h2
def OPRm (K : Nat → Int32) (N : Nat → Int64) (E K' : Nat → Int32) (N' : Nat → Int64) (E' : Nat → Int32) (p1 p2 p3 p4 r : Int32) : Prop := ∀ s, RMs K N E s → (¬ OPC p1 p2 p3 p4 → r = -1 ∧ RMs K' N' E' s) ∧ (OPC p1 p2 p3 p4 → r = opE p1 (s p3.toNatClampNeg) (s p4.toNatClampNeg) ∧ RMs K' N' E' (OPS p1 p2 p3 p4 s))
theorem oprm_n {K E : Nat → Int32} {N : Nat → Int64} {p1 p2 p3 p4 : Int32} (h : ¬ OPC p1 p2 p3 p4) : OPRm K N E K N E p1 p2 p3 p4 (-1) := fun s hs => ⟨fun _ => ⟨rfl, hs⟩, fun q => absurd q h⟩
theorem oprm_y {K E K' E' : Nat → Int32} {N N' : Nat → Int64} {p1 p2 p3 p4 r ka ea kb eb k e : Int32} {na nb n : Int64} (hc : OPC p1 p2 p3 p4) (ta : ka = K p3.toNatClampNeg ∧ na = N p3.toNatClampNeg ∧ ea = E p3.toNatClampNeg) (tb : kb = K p4.toNatClampNeg ∧ nb = N p4.toNatClampNeg ∧ eb = E p4.toNatClampNeg) (h : ∀ a b, ¬ 17 < p1 → MA ka na ea a → MA kb nb eb b → OPM k n e r p1 a b) (h2 : (r = 0 ∧ K' = upd K p2.toNatClampNeg k ∧ N' = vp_updL N p2.toNatClampNeg n ∧ E' = upd E p2.toNatClampNeg e) ∨ (¬ r = 0 ∧ K' = K ∧ N' = N ∧ E' = E)) : OPRm K N E K' N' E' p1 p2 p3 p4 r := fun s hs => by
  refine ⟨fun q => absurd hc q, fun _ => ?_⟩
  have o := h _ _ hc.2.2.2.2 (RMs_at hs hc.2.1 ta) (RMs_at hs hc.2.2.1 tb)
  refine ⟨o.1, ?_⟩
  unfold OPS
  rcases h2 with ⟨q, z⟩ | ⟨q, z⟩
  · rw [ifp (by rw [← o.1]; exact q)]; exact RMs_put hs z (o.2 q)
  · rw [ifn (by rw [← o.1]; exact q), z.1, z.2.1, z.2.2]; exact hs
def CPRm (K : Nat → Int32) (N : Nat → Int64) (E : Nat → Int32) (p1 p2 p3 r : Int32) : Prop := ∀ s, okS s → RMs K N E s → (¬ CPC p1 p2 p3 → r = -1) ∧ (CPC p1 p2 p3 → r = cmpV p1 (s p2.toNatClampNeg) (s p3.toNatClampNeg))
theorem cprm_n {K E : Nat → Int32} {N : Nat → Int64} {p1 p2 p3 : Int32} (h : ¬ CPC p1 p2 p3) : CPRm K N E p1 p2 p3 (-1) := fun _ _ _ => ⟨fun _ => rfl, fun q => absurd q h⟩
theorem cprm_y {K E : Nat → Int32} {N : Nat → Int64} {p1 p2 p3 r ka ea kb eb : Int32} {na nb : Int64} (hc : CPC p1 p2 p3) (ta : ka = K p2.toNatClampNeg ∧ na = N p2.toNatClampNeg ∧ ea = E p2.toNatClampNeg) (tb : kb = K p3.toNatClampNeg ∧ nb = N p3.toNatClampNeg ∧ eb = E p3.toNatClampNeg) (h : ∀ a b, okA a → okA b → MA ka na ea a → MA kb nb eb b → r = cmpV p1 a b) : CPRm K N E p1 p2 p3 r := fun s os hs => ⟨fun q => absurd hc q, fun _ => h _ _ (os _ (vp_lt hc.1)) (os _ (vp_lt hc.2.1)) (RMs_at hs hc.1 ta) (RMs_at hs hc.2.1 tb)⟩
theorem cm_z {p r t : Int32} {a b : AV} (c : p = 0) (h : t = cmpV 0 a b) : t = cmpV p a b := by rw [c]; exact h
def KDM (K : Nat → Int32) (N : Nat → Int64) (E : Nat → Int32) (p r : Int32) : Prop := ∀ s, RMs K N E s → (¬ vp_in p 32 → r = -1) ∧ (vp_in p 32 → r = kd (s p.toNatClampNeg))
theorem MA_kd {k e : Int32} {n : Int64} {a : AV} (h : MA k n e a) : k = kd a := by
  rcases MA_k h with ⟨q, y, rfl, -⟩ | ⟨q, A, rfl, -⟩ | ⟨q, rfl, -⟩ | ⟨q, rfl, -⟩ | ⟨q, rfl, -⟩ <;> exact q
theorem kdm_n {K E : Nat → Int32} {N : Nat → Int64} {p : Int32} (h : ¬ vp_in p 32) : KDM K N E p (-1) := fun _ _ => ⟨fun _ => rfl, fun q => absurd q h⟩
theorem kdm_y {K E : Nat → Int32} {N : Nat → Int64} {p r : Int32} (h : vp_in p 32) (e : r = K p.toNatClampNeg) : KDM K N E p r := fun s hs => ⟨fun q => absurd h q, fun _ => by rw [e]; exact MA_kd (hs _ (vp_lt h))⟩
-- sum, polynomial
def SMM (K : Nat → Int32) (N : Nat → Int64) (E : Nat → Int32) (k : Int32) (n : Int64) (e a i : Int32) : Prop := ∀ s, RMs K N E s → MA k n e (sumN s a.toNatClampNeg i.toNatClampNeg)
theorem smm_0 {K E : Nat → Int32} {N : Nat → Int64} {k e a : Int32} {n : Int64} (h : k = 1 ∧ n = 0 ∧ e = 0) : SMM K N E k n e a 0 := fun _ _ => h
theorem opm_0 {k e r p : Int32} {n : Int64} {a b : AV} (h : OPM k n e r p a b) (c : ¬ 2 < p) : MA k n e (addA p a b) := by
  have e1 : opE p a b = 0 := by unfold opE; rw [ifn c]
  have e2 : opV p a b = addA p a b := by unfold opV; rw [ifn c]
  rw [← e2]; exact h.2 (h.1.trans e1)
theorem smm_s {K E : Nat → Int32} {N : Nat → Int64} {k e ka ea kb eb k2 e2 a n9 i i2 w r : Int32} {n na nb n2 : Int64} (h : SMM K N E k n e a i) (hr : rowOK a n9) (hi : 0 ≤ i.toInt) (c : ¬ n9 ≤ i) (q : ka = k ∧ na = n ∧ ea = e) (ew : w = a + i) (tb : kb = K w.toNatClampNeg ∧ nb = N w.toNatClampNeg ∧ eb = E w.toNatClampNeg) (ho : ∀ a b, ¬ (17 : Int32) < 0 → MA ka na ea a → MA kb nb eb b → OPM k2 n2 e2 r 0 a b) (ei : i2 = i + Int32.ofInt 1) : SMM K N E k2 n2 e2 a i2 := fun s hs => by
  obtain ⟨r1, r2, r3⟩ := hr
  rw [Int32.le_iff_toInt_le] at c
  have hw : vp_in w 32 := by
    have : w.toInt = a.toInt + i.toInt := by rw [ew, I_add] <;> omega
    exact vp_in_iff.mpr ⟨by omega, by omega⟩
  have mb := RMs_at hs hw tb
  rw [clamp_add r1 hi (by omega) ew] at mb
  have o := opm_0 (ho _ _ (by decide) (MA_eq q (h s hs)) mb) (by decide)
  have e2 : i2.toNatClampNeg = i.toNatClampNeg + 1 := by
    have h5 : i2.toInt = i.toInt + 1 := by rw [ei, I_add, Io1] <;> (try rw [Io1]) <;> omega
    have e1 : i2.toNatClampNeg = i2.toInt.toNat := rfl
    have e3 : i.toNatClampNeg = i.toInt.toNat := rfl
    omega
  rw [e2]; exact o
theorem smm_e {K E K' E' : Nat → Int32} {N N' : Nat → Int64} {k e t a n9 i : Int32} {n : Int64} (h : SMM K N E k n e a i) (hn : i.toNatClampNeg = n9.toNatClampNeg) (q : K' = upd K t.toNatClampNeg k ∧ N' = vp_updL N t.toNatClampNeg n ∧ E' = upd E t.toNatClampNeg e) : ∀ s, RMs K N E s → RMs K' N' E' (sumT t a n9 s) := fun s hs => by
  unfold sumT
  rw [← hn]; exact RMs_put hs q (h s hs)
def PLM (K : Nat → Int32) (N : Nat → Int64) (E : Nat → Int32) (k : Int32) (n : Int64) (e x a n9 i : Int32) : Prop := ∀ s, RMs K N E s → ∃ j : Nat, i.toInt = n9.toInt - 1 - j ∧ MA k n e (polN s x.toNatClampNeg a.toNatClampNeg n9.toNatClampNeg j)
theorem plm_0 {K E : Nat → Int32} {N : Nat → Int64} {k e x a n9 i : Int32} {n : Int64} (hr : rowOK a n9) (h : k = 1 ∧ n = 0 ∧ e = 0) (ei : i = n9 - 1) : PLM K N E k n e x a n9 i := fun _ _ => by
  obtain ⟨r1, r2, r3⟩ := hr
  have : i.toInt = n9.toInt - 1 := by rw [ei, I_sub, I1] <;> (try rw [I1]) <;> omega
  exact ⟨0, by omega, h⟩
theorem plm_s {K E : Nat → Int32} {N : Nat → Int64} {k e k2 e2 k3 e3 ka ea kb eb ka2 ea2 kb2 eb2 x a n9 i i2 w r r2 : Int32} {n n2 n3 na nb na2 nb2 : Int64} (h : PLM K N E k n e x a n9 i) (hr : rowOK a n9) (hx : vp_in x 32) (hin : i.toInt < n9.toInt) (c : ¬ i < 0) (q : ka = k ∧ na = n ∧ ea = e) (tx : kb = K x.toNatClampNeg ∧ nb = N x.toNatClampNeg ∧ eb = E x.toNatClampNeg) (ho : ∀ a b, ¬ (17 : Int32) < 2 → MA ka na ea a → MA kb nb eb b → OPM k2 n2 e2 r 2 a b) (q2 : ka2 = k2 ∧ na2 = n2 ∧ ea2 = e2) (ew : w = a + i) (tw : kb2 = K w.toNatClampNeg ∧ nb2 = N w.toNatClampNeg ∧ eb2 = E w.toNatClampNeg) (ho2 : ∀ a b, ¬ (17 : Int32) < 0 → MA ka2 na2 ea2 a → MA kb2 nb2 eb2 b → OPM k3 n3 e3 r2 0 a b) (ei : i2 = i + Int32.ofInt (-1)) : PLM K N E k3 n3 e3 x a n9 i2 := fun s hs => by
  obtain ⟨j, hj, m⟩ := h s hs
  obtain ⟨r1, r2', r3⟩ := hr
  rw [Int32.lt_iff_toInt_lt, I0] at c
  have hwi : w.toInt = a.toInt + i.toInt := by rw [ew, I_add] <;> omega
  have hw : vp_in w 32 := vp_in_iff.mpr ⟨by omega, by omega⟩
  have o1 := opm_0 (ho _ _ (by decide) (MA_eq q m) (RMs_at hs hx tx)) (by decide)
  have o2 := opm_0 (ho2 _ _ (by decide) (MA_eq q2 o1) (RMs_at hs hw tw)) (by decide)
  have h5 : i2.toInt = i.toInt - 1 := by rw [ei, I_add, Iom] <;> (try rw [Iom]) <;> omega
  refine ⟨j + 1, by omega, ?_⟩
  have e9 : w.toNatClampNeg = a.toNatClampNeg + (n9.toNatClampNeg - 1 - j) := by
    have e1 : w.toNatClampNeg = w.toInt.toNat := rfl
    have e2 : a.toNatClampNeg = a.toInt.toNat := rfl
    have e3 : n9.toNatClampNeg = n9.toInt.toNat := rfl
    omega
  rw [e9] at o2
  exact o2
theorem plm_e {K E K' E' : Nat → Int32} {N N' : Nat → Int64} {k e t x a n9 i : Int32} {n : Int64} (h : PLM K N E k n e x a n9 i) (hr : rowOK a n9) (hin : -1 ≤ i.toInt) (c : i < 0) (q : K' = upd K t.toNatClampNeg k ∧ N' = vp_updL N t.toNatClampNeg n ∧ E' = upd E t.toNatClampNeg e) : ∀ s, RMs K N E s → RMs K' N' E' (polT t x a n9 s) := fun s hs => by
  obtain ⟨j, hj, m⟩ := h s hs
  obtain ⟨r1, r2', r3⟩ := hr
  rw [Int32.lt_iff_toInt_lt, I0] at c
  have e3 : n9.toNatClampNeg = n9.toInt.toNat := rfl
  have : j = n9.toNatClampNeg := by omega
  subst this
  exact RMs_put hs q m
-- sort
def BFM (K : Nat → Int32) (N : Nat → Int64) (E : Nat → Int32) (p1 p2 r : Int32) : Prop := ∀ s, okS s → RMs K N E s → (r = 1 ∧ BEF (s p1.toNatClampNeg) (s p2.toNatClampNeg)) ∨ (r = 0 ∧ ¬ BEF (s p1.toNatClampNeg) (s p2.toNatClampNeg))
theorem MA_xk {k e : Int32} {n : Int64} {a : AV} (h : MA k n e a) : a = (.inr (.inr .gt)) ↔ k = 5 := by
  constructor
  · intro q; rw [q] at h; exact h.1
  · intro q; exact MA_5 h q
theorem bfm_x {K E : Nat → Int32} {N : Nat → Int64} {p1 p2 v w : Int32} (r : Int32) (h1 : vp_in p1 32) (h2 : vp_in p2 32) (e1 : v = K p1.toNatClampNeg) (e2 : w = K p2.toNatClampNeg) (h : (v = 5 ∧ r = 0) ∨ (¬ v = 5 ∧ w = 5 ∧ r = 1)) : BFM K N E p1 p2 r := fun s os hs => by
  have x1 := MA_xk (hs _ (vp_lt h1))
  have x2 := MA_xk (hs _ (vp_lt h2))
  rw [← e1] at x1
  rw [← e2] at x2
  rcases h with ⟨q, rfl⟩ | ⟨q, z, rfl⟩
  · right; refine ⟨rfl, ?_⟩
    rintro (⟨w, -⟩ | ⟨w, -⟩) <;> exact w (x1.mpr q)
  · left; exact ⟨rfl, Or.inl ⟨fun y => q (x1.mp y), x2.mpr z⟩⟩
theorem bfm_c {K E : Nat → Int32} {N : Nat → Int64} {p1 p2 v w t : Int32} (r : Int32) (h1 : vp_in p1 32) (h2 : vp_in p2 32) (e1 : v = K p1.toNatClampNeg) (e2 : w = K p2.toNatClampNeg) (c1 : ¬ v = 5) (c2 : ¬ w = 5) (h : CPRm K N E 1 p1 p2 t) (hr : (¬ t = 1 ∧ r = 0) ∨ (t = 1 ∧ r = 1)) : BFM K N E p1 p2 r := fun s os hs => by
  have x1 := MA_xk (hs _ (vp_lt h1))
  have x2 := MA_xk (hs _ (vp_lt h2))
  rw [← e1] at x1
  rw [← e2] at x2
  have n1 : s p1.toNatClampNeg ≠ (.inr (.inr .gt)) := fun q => c1 (x1.mp q)
  have n2 : s p2.toNatClampNeg ≠ (.inr (.inr .gt)) := fun q => c2 (x2.mp q)
  have ht := (h s os hs).2 ⟨h1, h2, by decide, by decide⟩
  have key : t = 1 ↔ ordv (s p1.toNatClampNeg) (s p2.toNatClampNeg) < 0 := by
    rw [ht]
    unfold cmpV
    rw [ifn (by rintro (q | q); exact n1 (isx_t.mp q); exact n2 (isx_t.mp q))]
    by_cases o : ordv (s p1.toNatClampNeg) (s p2.toNatClampNeg) = 0
    · rw [ifp o, ifp rfl, o]; exact ⟨fun q => absurd q (by decide), fun q => absurd q (by decide)⟩
    · rw [ifn o]
      by_cases l : ordv (s p1.toNatClampNeg) (s p2.toNatClampNeg) < 0
      · rw [ifp ⟨l, by decide⟩]; exact ⟨fun _ => l, fun _ => rfl⟩
      · rw [ifn (fun q => l q.1)]; exact ⟨fun q => absurd q (by decide), fun q => absurd q l⟩
  rcases hr with ⟨q, rfl⟩ | ⟨q, rfl⟩
  · right; refine ⟨rfl, ?_⟩
    rintro (⟨-, w⟩ | ⟨-, -, w⟩)
    · exact n2 w
    · exact q (key.mpr w)
  · left; exact ⟨rfl, Or.inr ⟨n1, n2, key.mp q⟩⟩
theorem RMs_ex {K K1 K2 : Nat → Int32} {N N1 N2 : Nat → Int64} {E E1 E2 : Nat → Int32} {p1 p2 ka kb ea eb : Int32} {na nb : Int64} (h1 : vp_in p1 32) (h2 : vp_in p2 32) (ta : ka = K p1.toNatClampNeg ∧ na = N p1.toNatClampNeg ∧ ea = E p1.toNatClampNeg) (tb : kb = K p2.toNatClampNeg ∧ nb = N p2.toNatClampNeg ∧ eb = E p2.toNatClampNeg) (e1 : K1 = upd K p1.toNatClampNeg kb) (e2 : N1 = vp_updL N p1.toNatClampNeg nb) (e3 : E1 = upd E p1.toNatClampNeg eb) (e4 : K2 = upd K1 p2.toNatClampNeg ka) (e5 : N2 = vp_updL N1 p2.toNatClampNeg na) (e6 : E2 = upd E1 p2.toNatClampNeg ea) : ∀ s, RMs K N E s → RMs K2 N2 E2 (swp s p1.toNatClampNeg p2.toNatClampNeg) := fun s hs => by
  unfold swp
  exact RMs_put (RMs_put hs ⟨e1, e2, e3⟩ (RMs_at hs h2 tb)) ⟨e4, e5, e6⟩ (RMs_at hs h1 ta)
def SOM (K : Nat → Int32) (N : Nat → Int64) (E K1 : Nat → Int32) (N1 : Nat → Int64) (E1 : Nat → Int32) (a i : Int32) : Prop := ∀ s, okS s → RMs K N E s → ∃ k : Nat, i.toInt = a.toInt + 1 + k ∧ okS (sortN s a.toNatClampNeg k) ∧ RMs K1 N1 E1 (sortN s a.toNatClampNeg k)
def SIM2 (K : Nat → Int32) (N : Nat → Int64) (E K1 : Nat → Int32) (N1 : Nat → Int64) (E1 : Nat → Int32) (a i j : Int32) : Prop := ∀ s, okS s → RMs K N E s → ∃ (k : Nat) (s1 : Nat → AV), i.toInt = a.toInt + 1 + k ∧ okS s1 ∧ RMs K1 N1 E1 s1 ∧ sortN s a.toNatClampNeg (k + 1) = insN s1 a.toNatClampNeg j.toNatClampNeg
theorem som_0 {K E : Nat → Int32} {N : Nat → Int64} {a n i : Int32} (hr : rowOK a n) (e : i = a + 1) : SOM K N E K N E a i := fun s os hs => by
  obtain ⟨r1, r2, r3⟩ := hr
  have : i.toInt = a.toInt + 1 := by rw [e, I_add, I1] <;> (try rw [I1]) <;> omega
  exact ⟨0, by omega, os, hs⟩
theorem sim2_0 {K E K1 E1 : Nat → Int32} {N N1 : Nat → Int64} {a n i : Int32} (hr : rowOK a n) (h : SOM K N E K1 N1 E1 a i) : SIM2 K N E K1 N1 E1 a i i := fun s os hs => by
  obtain ⟨k, hk, o, r⟩ := h s os hs
  obtain ⟨r1, r2, r3⟩ := hr
  refine ⟨k, _, hk, o, r, ?_⟩
  have e1 : i.toNatClampNeg = a.toNatClampNeg + 1 + k := by
    have : i.toNatClampNeg = i.toInt.toNat := rfl
    have : a.toNatClampNeg = a.toInt.toNat := rfl
    omega
  rw [e1]; rfl
theorem sim2_s {K E K1 E1 K2 E2 : Nat → Int32} {N N1 N2 : Nat → Int64} {a i j j2 w w2 r : Int32} (h : SIM2 K N E K1 N1 E1 a i j) (h1 : 0 ≤ a.toInt) (h3 : i.toInt < 32) (h4 : j.toInt ≤ i.toInt) (c : ¬ j ≤ a) (ew : w = j - 1) (hb : BFM K1 N1 E1 j w r) (cr : ¬ r = 0) (ew2 : w2 = j - 1) (hx : ∀ s, RMs K1 N1 E1 s → RMs K2 N2 E2 (swp s j.toNatClampNeg w2.toNatClampNeg)) (ej : j2 = j + Int32.ofInt (-1)) : SIM2 K N E K2 N2 E2 a i j2 := fun s os hs => by
  obtain ⟨k, s1, hk, o1, r1, e⟩ := h s os hs
  rw [Int32.le_iff_toInt_le] at c
  have hw : w.toInt = j.toInt - 1 := by rw [ew, I_sub, I1] <;> (try rw [I1]) <;> omega
  have hw2 : w2.toInt = j.toInt - 1 := by rw [ew2, I_sub, I1] <;> (try rw [I1]) <;> omega
  have hj2 : j2.toInt = j.toInt - 1 := by rw [ej, I_add, Iom] <;> (try rw [Iom]) <;> omega
  obtain ⟨m, hm⟩ : ∃ m : Nat, j.toInt = (m : Int) + 1 := ⟨(j.toInt - 1).toNat, by omega⟩
  have c1 : j.toNatClampNeg = m + 1 := by have : j.toNatClampNeg = j.toInt.toNat := rfl; omega
  have c2 : w.toNatClampNeg = m := by have : w.toNatClampNeg = w.toInt.toNat := rfl; omega
  have c3 : w2.toNatClampNeg = m := by have : w2.toNatClampNeg = w2.toInt.toNat := rfl; omega
  have c4 : j2.toNatClampNeg = m := by have : j2.toNatClampNeg = j2.toInt.toNat := rfl; omega
  have ca : a.toNatClampNeg = a.toInt.toNat := rfl
  have hB : befB (s1 (m + 1)) (s1 m) = true := by
    have := hb s1 o1 r1
    rw [c1, c2] at this
    rcases this with ⟨-, q⟩ | ⟨q, -⟩
    · exact bef_iff.mp q
    · exact absurd q cr
  have hs2 := hx s1 r1
  rw [c1, c3] at hs2
  rw [c1] at e
  refine ⟨k, swp s1 (m + 1) m, hk, ?_, hs2, ?_⟩
  · rw [swp_s (by omega)]
    intro q hq
    refine o1 _ ?_
    split <;> (try split) <;> omega
  · rw [e, c4]
    show (if a.toNatClampNeg < m + 1 ∧ _ then _ else _) = _
    rw [ifp ⟨by omega, hB⟩]
theorem sim2_e {K E K1 E1 : Nat → Int32} {N N1 : Nat → Int64} {a i j i2 n b : Int32} (h : SIM2 K N E K1 N1 E1 a i j) (hr : rowOK a n) (hb : b = a + n) (cb : ¬ b ≤ i) (h4 : j.toInt ≤ i.toInt) (haj : a.toInt ≤ j.toInt) (hc : j ≤ a ∨ ∃ w r : Int32, ¬ j ≤ a ∧ w = j - 1 ∧ BFM K1 N1 E1 j w r ∧ r = 0) (ei : i2 = i + Int32.ofInt 1) : SOM K N E K1 N1 E1 a i2 := fun s os hs => by
  obtain ⟨k, s1, hk, o1, r1, e⟩ := h s os hs
  obtain ⟨q1, q2, q3⟩ := hr
  have hb' : b.toInt = a.toInt + n.toInt := by rw [hb, I_add] <;> omega
  rw [Int32.le_iff_toInt_le, hb'] at cb
  have hi2 : i2.toInt = i.toInt + 1 := by rw [ei, I_add, Io1] <;> (try rw [Io1]) <;> omega
  have ca : a.toNatClampNeg = a.toInt.toNat := rfl
  have cj : j.toNatClampNeg = j.toInt.toNat := rfl
  have fin : insN s1 a.toNatClampNeg j.toNatClampNeg = s1 := by
    rcases hc with q | ⟨w, r, q, ew, hbf, cr⟩
    · rw [Int32.le_iff_toInt_le] at q
      have : j.toNatClampNeg = a.toNatClampNeg := by omega
      rw [this]
      generalize a.toNatClampNeg = z
      cases z with
      | zero => rfl
      | succ z =>
        show (if z + 1 < z + 1 ∧ _ then _ else _) = _
        rw [ifn (by rintro ⟨q, -⟩; omega)]
    · rw [Int32.le_iff_toInt_le] at q
      have hw : w.toInt = j.toInt - 1 := by rw [ew, I_sub, I1] <;> (try rw [I1]) <;> omega
      obtain ⟨m, hm⟩ : ∃ m : Nat, j.toInt = (m : Int) + 1 := ⟨(j.toInt - 1).toNat, by omega⟩
      have c1 : j.toNatClampNeg = m + 1 := by omega
      have c2 : w.toNatClampNeg = m := by have : w.toNatClampNeg = w.toInt.toNat := rfl; omega
      have hB : ¬ befB (s1 (m + 1)) (s1 m) = true := by
        have := hbf s1 o1 r1
        rw [c1, c2] at this
        rcases this with ⟨z, -⟩ | ⟨-, z⟩
        · rw [z] at cr; exact absurd cr (by decide)
        · exact fun u => z (bef_iff.mpr u)
      rw [c1]
      show (if a.toNatClampNeg < m + 1 ∧ _ then _ else _) = _
      rw [ifn (fun u => hB u.2)]
  rw [fin] at e
  exact ⟨k + 1, by omega, by rw [e]; exact o1, by rw [e]; exact r1⟩
theorem som_e {K E K1 E1 : Nat → Int32} {N N1 : Nat → Int64} {a n i b : Int32} (h : SOM K N E K1 N1 E1 a i) (hr : rowOK a n) (hb : b = a + n) (c : b ≤ i) (hi : i.toInt ≤ max (a.toInt + 1) (a.toInt + n.toInt)) : STM K N E K1 N1 E1 (rowOK a n) (sortT a n) := fun s os hs => ⟨fun q => absurd hr q, fun _ => by
  obtain ⟨k, hk, o, r⟩ := h s os hs
  obtain ⟨r1, r2, r3⟩ := hr
  have hb' : b.toInt = a.toInt + n.toInt := by rw [hb, I_add] <;> omega
  rw [Int32.le_iff_toInt_le, hb'] at c
  have e1 : n.toNatClampNeg = n.toInt.toNat := rfl
  unfold sortT
  rw [show n.toNatClampNeg - 1 = k by omega]; exact r⟩
end
