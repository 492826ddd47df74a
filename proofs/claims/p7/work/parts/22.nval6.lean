noncomputable section
theorem mulR_comm (a b : AV) : mulR a b = mulR b a := by
  cases a using AV_el <;> cases b using AV_el <;> first
    | rfl
    | (show rnd _ _ _ = rnd _ _ _; rw [Int.mul_comm, Nat.mul_comm])
    | (show inS _ = inS _; rw [Int.mul_comm])
def powV (a b : AV) : AV := if wi b < 0 then divR (.inr (.inl W1)) (pw 32 (wi b).natAbs a (.inr (.inl W1))) else pw 32 (wi b).natAbs a (.inr (.inl W1))
theorem powV_t (a b : AV) : powA a b = powV (turn a) b := rfl
theorem W1_sc : sc (1 : Int64).toInt (0 : Int32).toInt = W1 := by
  rw [show (1 : Int64).toInt = 1 by decide, I0, sc_nn (by decide), Int.toNat_zero, Int.pow_zero, Int.mul_one, Int.one_mul]
theorem ma_one : MA 2 1 0 (.inr (.inl W1)) := ⟨rfl, Or.inr ⟨by decide, by decide, 0, by decide, by decide, by decide⟩, W1_sc⟩
def PWI (ka : Int32) (na : Int64) (ea kb : Int32) (nb : Int64) (eb k1 : Int32) (n1 : Int64) (e1 k2 : Int32) (n2 : Int64) (e2 lf : Int32) : Prop := ∀ a b, MA ka na ea a → MA kb nb eb b → nW a → nW b → ∃ (y acc : AV) (k m : Nat), MA k1 n1 e1 y ∧ MA k2 n2 e2 acc ∧ nW y ∧ nW acc ∧ lf.toInt = m ∧ m < 2 ^ k ∧ k ≤ 32 ∧ pw k m y acc = pw 32 (wi b).natAbs a (.inr (.inl W1))
def GOODB (kb : Int32) (nb : Int64) (eb : Int32) (t : Int64) : Prop := ∀ b, MA kb nb eb b → cw b ∧ t.toInt = wi b ∧ -65536 ≤ t.toInt ∧ t.toInt ≤ 65536
theorem pwi_0 {ka ea kb eb l : Int32} {na nb t s : Int64} (g : GOODB kb nb eb t) (hs : -9223372036854775808 < t.toInt → s.toInt = t.toInt.natAbs) (el : l = s.toInt32) : PWI ka na ea kb nb eb ka na ea 2 1 0 l := fun a b ha hb wa wb => by
  obtain ⟨g1, g2, g3, g4⟩ := g b hb
  have h1 := hs (by omega)
  have h2 := l2i_s (t := s) (by omega) (by omega) el
  refine ⟨a, .inr (.inl W1), 32, (wi b).natAbs, ha, ma_one, wa, trivial, by omega, ?_, by decide, rfl⟩
  rw [show (2 : Nat) ^ 32 = 4294967296 by decide]; omega
theorem and1_i {l v : Int32} {m : Nat} (hl : l.toInt = m) (e : v = l &&& 1) : v = 1 ↔ m % 2 = 1 := by
  have h3 := ui_p (x := l) (by omega)
  have h4 := ui_and1 e
  rw [show m = ui l by omega, ← h4]
  exact ⟨fun q => by rw [q]; rfl, fun q => ui_inj (by rw [q]; rfl)⟩
theorem shr1_i {l v : Int32} {m : Nat} (hl : l.toInt = m) (e : v = l >>> ((1 : Int32) &&& 31)) : v.toInt = ((m / 2 : Nat) : Int) := by
  rw [e, I_shr l (y := 1) (k := 1) (by decide) (by decide), hl]
  push_cast; rfl
theorem pwi_s {ka ea kb eb k1 e1 k2 e2 k3 e3 k4 e4 l l2 v : Int32} {na nb n1 n2 n3 n4 : Int64} (h : PWI ka na ea kb nb eb k1 n1 e1 k2 n2 e2 l) (c : ¬ l ≤ 0) (ev : v = l &&& 1) (h3 : (v = 1 ∧ ∀ a b, MA k1 n1 e1 a → MA k2 n2 e2 b → nW a → nW b → MA k3 n3 e3 (mulR a b)) ∨ (¬ v = 1 ∧ k3 = k2 ∧ n3 = n2 ∧ e3 = e2)) (el : l2 = l >>> ((1 : Int32) &&& 31)) (h4 : (l2 ≤ 0 ∧ k4 = k1 ∧ n4 = n1 ∧ e4 = e1) ∨ (¬ l2 ≤ 0 ∧ ∀ a b, MA k1 n1 e1 a → MA k1 n1 e1 b → nW a → nW b → MA k4 n4 e4 (mulR a b))) : PWI ka na ea kb nb eb k4 n4 e4 k3 n3 e3 l2 := fun a b ha hb wa wb => by
  obtain ⟨y, acc, k, m, m1, m2, w1, w2, hl, hm, hk, hp⟩ := h a b ha hb wa wb
  rw [Int32.le_iff_toInt_le, I0] at c
  have hbit := and1_i hl ev
  have hl2 := shr1_i hl el
  have hm0 : m ≠ 0 := by omega
  obtain ⟨j, rfl⟩ : ∃ j, k = j + 1 := ⟨k - 1, by
    rcases Nat.eq_zero_or_pos k with z | z
    · subst z; rw [Nat.pow_zero] at hm; omega
    · omega⟩
  rw [pw_s hm0] at hp
  rw [Nat.pow_succ] at hm
  obtain ⟨acc2, ea2, ma2, wa2⟩ : ∃ acc2, acc2 = (if m % 2 = 1 then mulR acc y else acc) ∧ MA k3 n3 e3 acc2 ∧ nW acc2 := by
    rcases h3 with ⟨q, h3⟩ | ⟨q, z⟩
    · exact ⟨mulR acc y, by rw [ifp (hbit.mp q)], by rw [mulR_comm]; exact h3 y acc m1 m2 w1 w2, nW_mul w2 w1⟩
    · exact ⟨acc, by rw [ifn (fun w => q (hbit.mpr w))], MA_eq z m2, w2⟩
  rw [← ea2] at hp
  rcases h4 with ⟨q, z⟩ | ⟨q, z⟩
  · rw [Int32.le_iff_toInt_le, I0] at q
    have hz : m / 2 = 0 := by omega
    refine ⟨y, acc2, j, m / 2, MA_eq z m1, ma2, w1, wa2, hl2, by omega, by omega, ?_⟩
    rw [hz, pw_z] at hp
    rw [hz, pw_z, hp]
  · exact ⟨mulR y y, acc2, j, m / 2, z y y m1 m1 w1 w1, ma2, nW_mul w1 w1, wa2, hl2, by omega, by omega, hp⟩
theorem pwi_e {ka ea kb eb k1 e1 k2 e2 l : Int32} {na nb n1 n2 t : Int64} (h : PWI ka na ea kb nb eb k1 n1 e1 k2 n2 e2 l) (c : l ≤ 0) : ∀ a b, MA ka na ea a → MA kb nb eb b → nW a → nW b → MA k2 n2 e2 (pw 32 (wi b).natAbs a (.inr (.inl W1))) ∧ nW (pw 32 (wi b).natAbs a (.inr (.inl W1))) := fun a b ha hb wa wb => by
  obtain ⟨y, acc, k, m, m1, m2, w1, w2, hl, hm, hk, hp⟩ := h a b ha hb wa wb
  rw [Int32.le_iff_toInt_le, I0] at c
  have : m = 0 := by omega
  rw [this, pw_z] at hp
  rw [← hp]; exact ⟨m2, w2⟩
def PWP (ka : Int32) (na : Int64) (ea kb : Int32) (nb : Int64) (eb k' : Int32) (n' : Int64) (e' r : Int32) : Prop := ∀ a b, MA ka na ea a → MA kb nb eb b → nW a → nW b → r = powE b ∧ (r = 0 → MA k' n' e' (powV a b))
theorem pwp_n {ka ea kb eb k e r : Int32} {na nb n t : Int64} (h : ¬ kb = 2 ∨ ((∀ b, MA kb nb eb b → CWP r b) ∧ r = 0) ∨ ((∀ b, MA kb nb eb b → CWP r b) ∧ ¬ r = 0 ∧ (∀ b, MA kb nb eb b → cw b → t.toInt = wi b) ∧ (t < -65536 ∨ 65536 < t))) : PWP ka na ea kb nb eb k n e 3 := fun a b ha hb wa wb => by
  refine ⟨powE_n ?_, fun q => absurd q (by decide)⟩
  rintro ⟨q1, q2, q3⟩
  rcases h with h | ⟨h, c⟩ | ⟨h, c, hv, hc⟩
  · cases b using AV_el with
    | w y => exact wb
    | r A => exact h hb.1
    | p => exact q1
    | m => exact q1
    | x => exact q1
  · exact cwp_no (h b hb) c q1
  · have := hv b hb q1
    rw [Int64.lt_iff_toInt_lt, Int64.lt_iff_toInt_lt, Lm65, Lp65] at hc
    omega
theorem good_b {kb eb r : Int32} {nb t1 t2 t : Int64} (h : ∀ b, MA kb nb eb b → CWP r b) (c : ¬ r = 0) (h1 : ∀ b, MA kb nb eb b → cw b → t1.toInt = wi b) (c1 : ¬ t1 < -65536) (h2 : ∀ b, MA kb nb eb b → cw b → t2.toInt = wi b) (c2 : ¬ 65536 < t2) (h3 : ∀ b, MA kb nb eb b → cw b → t.toInt = wi b) : GOODB kb nb eb t := fun b hb => by
  have q := cwp_y (h b hb) c
  have a1 := h1 b hb q
  have a2 := h2 b hb q
  have a3 := h3 b hb q
  rw [Int64.lt_iff_toInt_lt, Lm65] at c1
  rw [Int64.lt_iff_toInt_lt, Lp65] at c2
  exact ⟨q, a3, by omega, by omega⟩
theorem pwp_p {ka ea kb eb k1 e1 k2 e2 l : Int32} {na nb n1 n2 t : Int64} (g : GOODB kb nb eb t) (h : PWI ka na ea kb nb eb k1 n1 e1 k2 n2 e2 l) (c : l ≤ 0) (c0 : 0 ≤ t) : PWP ka na ea kb nb eb k2 n2 e2 0 := fun a b ha hb wa wb => by
  obtain ⟨g1, g2, g3, g4⟩ := g b hb
  rw [Int64.le_iff_toInt_le, L0] at c0
  refine ⟨powE_y ⟨g1, by omega, by omega⟩, fun _ => ?_⟩
  unfold powV
  rw [ifn (by omega)]
  exact (pwi_e (t := t) h c a b ha hb wa wb).1
theorem pwp_m {ka ea kb eb k1 e1 k2 e2 l k3 e3 k e : Int32} {na nb n1 n2 t n3 n : Int64} (g : GOODB kb nb eb t) (h : PWI ka na ea kb nb eb k1 n1 e1 k2 n2 e2 l) (c : l ≤ 0) (c0 : ¬ 0 ≤ t) (hb2 : k3 = k2 ∧ n3 = n2 ∧ e3 = e2) (hd : ∀ a b, MA 2 1 0 a → MA k3 n3 e3 b → nW a → nW b → MA k n e (divR a b)) : PWP ka na ea kb nb eb k n e 0 := fun a b ha hb wa wb => by
  obtain ⟨g1, g2, g3, g4⟩ := g b hb
  rw [Int64.le_iff_toInt_le, L0] at c0
  refine ⟨powE_y ⟨g1, by omega, by omega⟩, fun _ => ?_⟩
  unfold powV
  rw [ifp (by omega)]
  obtain ⟨m1, m2⟩ := pwi_e (t := t) h c a b ha hb wa wb
  exact hd _ _ ma_one (MA_eq hb2 m1) trivial m2
-- reals
def RLC (p : Int32) (a b : AV) : Prop := p = 3 ∨ p = 6 ∨ ∀ x y, ¬ (a = .inl x ∧ b = .inl y)
theorem addA_r {p : Int32} {a b : AV} (h : ∀ x y, ¬ (a = .inl x ∧ b = .inl y)) : addA p a b = if p = 2 then mulR (turn a) (turn b) else addR (turn a) (if p = 1 then ng (turn b) else turn b) := by
  cases a using AV_el with
  | w x =>
    cases b using AV_el with
    | w y => exact absurd ⟨rfl, rfl⟩ (h x y)
    | _ => rfl
  | _ => rfl
theorem divA_r {p : Int32} {a b : AV} (h : p = 3 ∨ ∀ x y, ¬ (a = .inl x ∧ b = .inl y)) : divE p a b = 0 ∧ divA p a b = divB p (turn a) (turn b) := by
  cases a using AV_el with
  | w x =>
    cases b using AV_el with
    | w y =>
      rcases h with h | h
      · refine ⟨?_, ?_⟩
        · show (if ¬ p = 3 ∧ y = 0 then (1 : Int32) else 0) = 0
          rw [ifn (fun q => q.1 h)]
        · show (if p = 3 then _ else _) = _
          rw [ifp h]
      · exact absurd ⟨rfl, rfl⟩ (h x y)
    | _ => exact ⟨rfl, rfl⟩
  | _ => exact ⟨rfl, rfl⟩
theorem re_no {p : Int32} {a b : AV} (h : RLC p a b) (c3 : ¬ p = 3) (c6 : ¬ p = 6) : ∀ x y, ¬ (a = .inl x ∧ b = .inl y) := (h.resolve_left c3).resolve_left c6
theorem re_0 {k e p : Int32} {n : Int64} {a b : AV} (c : p = 0) (h : RLC p a b) (hm : MA k n e (addR (turn a) (turn b))) : OPM k n e 0 p a b := by
  subst c
  refine ⟨rfl, fun _ => ?_⟩
  show MA k n e (addA 0 a b)
  rw [addA_r (re_no h (by decide) (by decide)), ifn (by decide), ifn (by decide)]; exact hm
theorem re_1 {k e p : Int32} {n : Int64} {a b : AV} (c : p = 1) (h : RLC p a b) (hm : MA k n e (addR (turn a) (ng (turn b)))) : OPM k n e 0 p a b := by
  subst c
  refine ⟨rfl, fun _ => ?_⟩
  show MA k n e (addA 1 a b)
  rw [addA_r (re_no h (by decide) (by decide)), ifn (by decide), ifp rfl]; exact hm
theorem re_2 {k e p : Int32} {n : Int64} {a b : AV} (c : p = 2) (h : RLC p a b) (hm : MA k n e (mulR (turn a) (turn b))) : OPM k n e 0 p a b := by
  subst c
  refine ⟨rfl, fun _ => ?_⟩
  show MA k n e (addA 2 a b)
  rw [addA_r (re_no h (by decide) (by decide)), ifp rfl]; exact hm
theorem re_d {k e p : Int32} {n : Int64} {a b : AV} (c : p = 3 ∨ p = 4 ∨ p = 5) (h : RLC p a b) (hm : MA k n e (divB p (turn a) (turn b))) : OPM k n e 0 p a b := by
  have h9 : p = 3 ∨ ∀ x y, ¬ (a = .inl x ∧ b = .inl y) := by
    rcases h with q | q | q
    · exact Or.inl q
    · rcases c with z | z | z <;> (rw [z] at q; exact absurd q (by decide))
    · exact Or.inr q
  obtain ⟨d1, d2⟩ := divA_r h9
  rcases c with rfl | rfl | rfl
  · exact ⟨d1.symm, fun _ => by show MA k n e (divA 3 a b); rw [d2]; exact hm⟩
  · exact ⟨d1.symm, fun _ => by show MA k n e (divA 4 a b); rw [d2]; exact hm⟩
  · exact ⟨d1.symm, fun _ => by show MA k n e (divA 5 a b); rw [d2]; exact hm⟩
theorem mkR_abs {b : Bool} {R : Nat} {A : Int} (h : mkR b R = .inr (.inl A)) : A.natAbs = R := by
  unfold mkR at h
  split at h
  · split at h <;> cases h
  · injection h with h
    injection h with h
    rw [← h]
    split <;> omega
theorem max_bd {d o g : Nat} (h : g ≤ o) : max (53 + d + o - 53) g = o + d := by omega
theorem GL_OFF : GL ≤ OFF := by decide
theorem RT_big {s : Nat} (h1 : 9007199254740992 ≤ s) (h2 : s < 18446744073709551616) : 4503599627370496 * W1 ≤ RT (s * W1) false := by
  have hb := BL_ge (T := s) (k := 53) h1
  have h0 : s ≠ 0 := by omega
  have hs := BL_self h0
  obtain ⟨d, hd⟩ : ∃ d, BL s = 53 + d := ⟨BL s - 53, by omega⟩
  have hd1 : 1 ≤ d := by omega
  have e8 : RT (s * 2 ^ OFF) false = RF s d false * 2 ^ (OFF + d) := RT_d hd1 h0 (by rw [hd]; exact max_bd GL_OFF)
  have hq : 2 ^ 52 ≤ RF s d false := by
    have : 2 ^ 52 ≤ s / 2 ^ d := by
      rw [Nat.le_div_iff_mul_le (Nat.two_pow_pos d), ← Nat.pow_add]
      rw [hd, show 53 + d - 1 = 52 + d by omega] at hs
      exact hs
    unfold RF
    exact Nat.le_trans this (Nat.le_add_right _ _)
  rw [W1_e2, e8, Nat.pow_add, Nat.mul_comm (2 ^ OFF), ← Nat.mul_assoc]
  refine Nat.mul_le_mul_right _ ?_
  have := Nat.two_pow_pos d
  have : 2 ^ 52 * 1 ≤ RF s d false * 2 ^ d := Nat.mul_le_mul hq this
  rw [show (2 : Nat) ^ 52 = 4503599627370496 by decide] at this
  omega
/-- powers see a whole exponent and its real alike -/
theorem pow_t (b : AV) : powE (turn b) = powE b ∧ (powE b = 0 → wi (turn b) = wi b) := by
  cases b using AV_el with
  | w y =>
    have hr := L_rg y
    by_cases h : y.toInt.natAbs < 9007199254740992
    · have e9 : turn (.inl y) = .inr (.inl (y.toInt * W1)) := rndW_ex h
      have hW : (W1 : Int) ≠ 0 := by have := W1_pos; omega
      have w1 : wi (.inr (.inl (y.toInt * W1))) = y.toInt := Int.mul_ediv_cancel _ hW
      have c1 : cw (.inr (.inl (y.toInt * W1))) := ⟨Int.mul_emod_left _ _, by rw [show y.toInt * (W1 : Int) / W1 = y.toInt from w1]; omega, by rw [show y.toInt * (W1 : Int) / W1 = y.toInt from w1]; omega⟩
      rw [e9]
      refine ⟨?_, fun _ => w1⟩
      unfold powE
      by_cases q : powOK (.inl y)
      · rw [ifp q, ifp ⟨c1, by rw [w1]; exact q.2.1, by rw [w1]; exact q.2.2⟩]
      · rw [ifn q, ifn (fun z => q ⟨trivial, by have := z.2.1; rw [w1] at this; exact this, by have := z.2.2; rw [w1] at this; exact this⟩)]
    · have n1 : ¬ powOK (.inl y) := by
        rintro ⟨-, q1, q2⟩
        have q1 : -65536 ≤ y.toInt := q1
        have q2 : y.toInt ≤ 65536 := q2
        omega
      have n2 : ¬ powOK (turn (.inl y)) := by
        obtain ⟨A, hA, -, -, q, hq⟩ := rndW_r y
        show ¬ powOK (rndW y.toInt)
        rw [hA]
        rintro ⟨-, q1, q2⟩
        have hge : 4503599627370496 * W1 ≤ A.natAbs := by
          have hRA := mkR_abs hA
          rw [hRA]
          exact RT_big (by omega) (by omega)
        have q1 : -65536 ≤ A / W1 := q1
        have q2 : A / W1 ≤ 65536 := q2
        have hf := W_fl A
        have l1 := W_le (x := -65536) (y := A / W1) q1
        have l2 := W_le (x := A / W1 + 1) (y := 65537) (by omega)
        have hp := W1_pos
        omega
      unfold powE
      rw [ifn n1, ifn n2]
      exact ⟨rfl, fun z => absurd z (by decide)⟩
  | r A => exact ⟨rfl, fun _ => rfl⟩
  | p => exact ⟨rfl, fun _ => rfl⟩
  | m => exact ⟨rfl, fun _ => rfl⟩
  | x => exact ⟨rfl, fun _ => rfl⟩
theorem re_6 {k e p r : Int32} {n : Int64} {a b : AV} (c : p = 6) (hm : r = powE (turn b) ∧ (r = 0 → MA k n e (powV (turn a) (turn b)))) : OPM k n e r p a b := by
  subst c
  obtain ⟨t1, t2⟩ := pow_t b
  rw [t1] at hm
  refine ⟨hm.1, fun q => ?_⟩
  show MA k n e (powA a b)
  have := hm.2 q
  have e9 := t2 (hm.1.symm.trans q)
  unfold powV at this
  rw [e9] at this
  exact this
theorem re_p {p : Int32} (hp : ¬ p < 0 ∧ p < 7) (c0 : ¬ p = 0) (c1 : ¬ p = 1) (c2 : ¬ p = 2) (c3 : ¬ p = 3) (c4 : ¬ p = 4) (c5 : ¬ p = 5) : p = 6 := by
  have h7 : (7 : Int32).toInt = 7 := by decide
  rw [Int32.lt_iff_toInt_lt, I0, Int32.lt_iff_toInt_lt, h7] at hp
  have a0 := lv_neT c0 (a := 0) (by decide)
  have a1 := lv_neT c1 (a := 1) (by decide)
  have a2 := lv_neT c2 (a := 2) (by decide)
  have a3 := lv_neT c3 (a := 3) (by decide)
  have a4 := lv_neT c4 (a := 4) (by decide)
  have a5 := lv_neT c5 (a := 5) (by decide)
  exact Int32.toInt_inj.mp (by rw [show (6 : Int32).toInt = 6 by decide]; omega)
-- operation
theorem oc_b {p : Int32} (h : (¬ p < 7 ∧ p ≤ 11) ∨ p = 13 ∨ p = 16) : BWC p := by
  rcases h with ⟨h1, h2⟩ | h | h
  · have h7 : (7 : Int32).toInt = 7 := by decide
    have h11 : (11 : Int32).toInt = 11 := by decide
    rw [Int32.lt_iff_toInt_lt, h7] at h1
    rw [Int32.le_iff_toInt_le, h11] at h2
    rcases (show p.toInt = 7 ∨ p.toInt = 8 ∨ p.toInt = 9 ∨ p.toInt = 10 ∨ p.toInt = 11 by omega) with q | q | q | q | q
    · exact Or.inl (Int32.toInt_inj.mp (by rw [q]; decide))
    · exact Or.inr (Or.inl (Int32.toInt_inj.mp (by rw [q]; decide)))
    · exact Or.inr (Or.inr (Or.inl (Int32.toInt_inj.mp (by rw [q]; decide))))
    · exact Or.inr (Or.inr (Or.inr (Or.inl (Int32.toInt_inj.mp (by rw [q]; decide)))))
    · exact Or.inr (Or.inr (Or.inr (Or.inr (Or.inl (Int32.toInt_inj.mp (by rw [q]; decide))))))
  · exact Or.inr (Or.inr (Or.inr (Or.inr (Or.inr (Or.inl h)))))
  · exact Or.inr (Or.inr (Or.inr (Or.inr (Or.inr (Or.inr h)))))
theorem oc_s {p : Int32} (h12 : ¬ p < 12) (h17 : ¬ 17 < p) (n13 : ¬ p = 13) (n16 : ¬ p = 16) : SIC p := by
  have e12 : (12 : Int32).toInt = 12 := by decide
  have e17 : (17 : Int32).toInt = 17 := by decide
  rw [Int32.lt_iff_toInt_lt, e12] at h12
  rw [Int32.lt_iff_toInt_lt, e17] at h17
  have a13 := lv_neT n13 (a := 13) (by decide)
  have a16 := lv_neT n16 (a := 16) (by decide)
  rcases (show p.toInt = 12 ∨ p.toInt = 14 ∨ p.toInt = 15 ∨ p.toInt = 17 by omega) with q | q | q | q
  · exact Or.inl (Int32.toInt_inj.mp (by rw [q]; decide))
  · exact Or.inr (Or.inl (Int32.toInt_inj.mp (by rw [q]; decide)))
  · exact Or.inr (Or.inr (Or.inl (Int32.toInt_inj.mp (by rw [q]; decide))))
  · exact Or.inr (Or.inr (Or.inr (Int32.toInt_inj.mp (by rw [q]; decide))))
theorem oc_7 {p : Int32} (h : p < 7 ∨ (¬ p ≤ 11 ∧ p < 12)) : p < 7 := by
  rcases h with h | ⟨h1, h2⟩
  · exact h
  · exact i_7 h1 h2
theorem oc_w {p : Int32} (h0 : ¬ p < 0) (h7 : p < 7) (n3 : ¬ p = 3) (n6 : ¬ p = 6) : WHC p := by
  have e7 : (7 : Int32).toInt = 7 := by decide
  rw [Int32.lt_iff_toInt_lt, I0] at h0
  rw [Int32.lt_iff_toInt_lt, e7] at h7
  have a3 := lv_neT n3 (a := 3) (by decide)
  have a6 := lv_neT n6 (a := 6) (by decide)
  rcases (show p.toInt = 0 ∨ p.toInt = 1 ∨ p.toInt = 2 ∨ p.toInt = 4 ∨ p.toInt = 5 by omega) with q | q | q | q | q
  · exact Or.inl (Int32.toInt_inj.mp (by rw [q]; decide))
  · exact Or.inr (Or.inl (Int32.toInt_inj.mp (by rw [q]; decide)))
  · exact Or.inr (Or.inr (Or.inl (Int32.toInt_inj.mp (by rw [q]; decide))))
  · exact Or.inr (Or.inr (Or.inr (Or.inl (Int32.toInt_inj.mp (by rw [q]; decide)))))
  · exact Or.inr (Or.inr (Or.inr (Or.inr (Int32.toInt_inj.mp (by rw [q]; decide)))))
theorem oc_ww {ka ea kb eb k e r p : Int32} {na nb n : Int64} {a b : AV} (ha : MA ka na ea a) (hb : MA kb nb eb b) (ca : ka = 1) (cb : kb = 1) (h : OPM k n e r p (.inl na) (.inl nb)) : OPM k n e r p a b := by
  rw [(MA_1 ha ca).1, (MA_1 hb cb).1]; exact h
theorem oc_r {ka ea kb eb p : Int32} {na nb : Int64} {a b : AV} (ha : MA ka na ea a) (hb : MA kb nb eb b) (h : ¬ ka = 1 ∨ ¬ kb = 1 ∨ p = 3 ∨ p = 6) : RLC p a b := by
  rcases h with h | h | h | h
  · exact Or.inr (Or.inr (fun x y q => h (by rw [q.1] at ha; exact ha.1)))
  · exact Or.inr (Or.inr (fun x y q => h (by rw [q.2] at hb; exact hb.1)))
  · exact Or.inl h
  · exact Or.inr (Or.inl h)
theorem db_3 {k e p : Int32} {n : Int64} {a b : AV} (c : p = 3) (h : MA k n e (divR a b)) : MA k n e (divB p a b) := by
  unfold divB; rw [c, ifn (by decide), ifn (by decide)]; exact h
theorem db_4 {k e p : Int32} {n : Int64} {a b : AV} (c : p = 4) (h : MA k n e (flr (divR a b))) : MA k n e (divB p a b) := by
  unfold divB; rw [c, ifn (by decide), ifp rfl]; exact h
theorem db_5 {k e p : Int32} {n : Int64} {a b : AV} (c : p = 5) (h : MA k n e (remR a b)) : MA k n e (divB p a b) := by
  unfold divB; rw [c, ifp rfl]; exact h
end
