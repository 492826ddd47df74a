noncomputable section
/-- what the reference's triple is -/
def MA (k : Int32) (n : Int64) (e : Int32) : AV → Prop
  | .inl y => k = 1 ∧ n = y ∧ e = 0
  | .inr (.inl A) => k = 2 ∧ GR n e ∧ sc n.toInt e.toInt = A
  | (.inr (.inr .lt)) => k = 3 ∧ n = 0 ∧ e = 0
  | (.inr (.inr .eq)) => k = 4 ∧ n = 0 ∧ e = 0
  | (.inr (.inr .gt)) => k = 5 ∧ n = 0 ∧ e = 0
theorem sc_0 {x : Int} : sc 0 x = 0 := Int.zero_mul _
theorem plv_0 {p : Int64} {x : Int32} (c : p = 0) : sc p.toInt (0 : Int32).toInt = sc p.toInt x.toInt := by
  rw [c, L0, sc_0, sc_0]
theorem plv_s {n v n2 p : Int64} {e e2 x : Int32} (hv : sc n.toInt e.toInt = sc p.toInt x.toInt) (h : PQ n e) (c0 : ¬ n = 0) (ev : v = n &&& 1) (c1 : v = 0) (e1 : n2 = n >>> ((1 : Int32).toInt64 &&& 63)) (ee : e2 = e + 1) : sc n2.toInt e2.toInt = sc p.toInt x.toInt := by
  have h2 : n2.toInt = n.toInt / 2 := by rw [e1, L_shr n (y := 1) (k := 1) (by decide) (by decide)]; rfl
  have h3 : n.toInt % 2 = 0 := L_and1.mp (by rw [← ev]; exact c1)
  rcases h with h | ⟨-, hE, t, ht, hn, he⟩
  · exact absurd h.1 c0
  · have hO : (OFF : Int) = 6000 := rfl
    have h7 : e2.toInt = e.toInt + 1 := by rw [ee, I_add, I1] <;> rw [I1] <;> omega
    rw [← hv, sc, sc, h7, show (e.toInt + 1 + (OFF : Int)).toNat = (e.toInt + (OFF : Int)).toNat + 1 by omega, Int.pow_succ, h2]
    have : n.toInt = n.toInt / 2 * 2 := by omega
    conv => rhs; rw [this]
    rw [Int.mul_assoc, Int.mul_comm 2]
theorem ma_r {k : Int32} {n : Int64} {e : Int32} {A : Int} (h : k = 2 ∧ GR n e) (hv : sc n.toInt e.toInt = A) : MA k n e (.inr (.inl A)) := ⟨h.1, h.2, hv⟩
theorem MA_k {k e : Int32} {n : Int64} {a : AV} (h : MA k n e a) : (k = 1 ∧ ∃ y, a = .inl y ∧ n = y ∧ e = 0) ∨ (k = 2 ∧ ∃ A, a = .inr (.inl A) ∧ GR n e ∧ sc n.toInt e.toInt = A) ∨ (k = 3 ∧ a = (.inr (.inr .lt)) ∧ n = 0 ∧ e = 0) ∨ (k = 4 ∧ a = (.inr (.inr .eq)) ∧ n = 0 ∧ e = 0) ∨ (k = 5 ∧ a = (.inr (.inr .gt)) ∧ n = 0 ∧ e = 0) := by
  cases a using AV_el with
  | w y => left; exact ⟨h.1, y, rfl, h.2⟩
  | r A => right; left; exact ⟨h.1, A, rfl, h.2⟩
  | p => right; right; left; exact ⟨h.1, rfl, h.2⟩
  | m => right; right; right; left; exact ⟨h.1, rfl, h.2⟩
  | x => right; right; right; right; exact ⟨h.1, rfl, h.2⟩
theorem MA_1 {k e : Int32} {n : Int64} {a : AV} (h : MA k n e a) (c : k = 1) : a = .inl n ∧ e = 0 := by
  rcases MA_k h with ⟨-, y, rfl, rfl, q⟩ | ⟨q, -⟩ | ⟨q, -⟩ | ⟨q, -⟩ | ⟨q, -⟩
  · exact ⟨rfl, q⟩
  all_goals (exfalso; rw [q] at c; exact absurd c (by decide))
theorem MA_2 {k e : Int32} {n : Int64} {a : AV} (h : MA k n e a) (c : k = 2) : a = .inr (.inl (sc n.toInt e.toInt)) ∧ GR n e := by
  rcases MA_k h with ⟨q, -⟩ | ⟨-, A, rfl, g, q⟩ | ⟨q, -⟩ | ⟨q, -⟩ | ⟨q, -⟩
  · exfalso; rw [q] at c; exact absurd c (by decide)
  · exact ⟨by rw [q], g⟩
  all_goals (exfalso; rw [q] at c; exact absurd c (by decide))
theorem MA_o {k e : Int32} {n : Int64} {a : AV} (h : MA k n e a) (c1 : ¬ k = 1) (c2 : ¬ k = 2) : (k = 3 ∧ a = (.inr (.inr .lt))) ∨ (k = 4 ∧ a = (.inr (.inr .eq))) ∨ (k = 5 ∧ a = (.inr (.inr .gt))) := by
  rcases MA_k h with ⟨q, -⟩ | ⟨q, -⟩ | ⟨q, z, -⟩ | ⟨q, z, -⟩ | ⟨q, z, -⟩
  · exact absurd q c1
  · exact absurd q c2
  · exact Or.inl ⟨q, z⟩
  · exact Or.inr (Or.inl ⟨q, z⟩)
  · exact Or.inr (Or.inr ⟨q, z⟩)
-- isWhole
theorem iwh_1 {k e : Int32} {n : Int64} {a : AV} (h : MA k n e a) (c : k = 1) : CWP 1 a := by
  rw [(MA_1 h c).1]; exact Or.inl ⟨rfl, trivial⟩
theorem iwh_n {k e : Int32} {n : Int64} {a : AV} (h : MA k n e a) (c1 : ¬ k = 1) (c2 : ¬ k = 2) : CWP 0 a := by
  rcases MA_o h c1 c2 with ⟨-, rfl⟩ | ⟨-, rfl⟩ | ⟨-, rfl⟩ <;> exact Or.inr ⟨rfl, id⟩
theorem GR_odd {n : Int64} {e : Int32} (g : GR n e) (c : ¬ e = 0) : n.toInt % 2 = 1 ∧ ¬ n = 0 := by
  rcases g with ⟨-, q⟩ | ⟨q, -⟩
  · exact absurd q c
  · exact ⟨q, fun z => by rw [z, L0] at q; exact absurd q (by decide)⟩
theorem iwh_neg {k e : Int32} {n : Int64} {a : AV} (h : MA k n e a) (c2 : k = 2) (c : e < 0) : CWP 0 a := by
  obtain ⟨rfl, g⟩ := MA_2 h c2
  rw [Int32.lt_iff_toInt_lt, I0] at c
  have ge := GR_e g
  obtain ⟨ho, -⟩ := GR_odd g (fun q => by rw [q, I0] at c; omega)
  refine Or.inr ⟨rfl, fun q => ?_⟩
  obtain ⟨j, hj⟩ : ∃ j : Nat, e.toInt = -(j : Int) := ⟨(-e.toInt).toNat, by omega⟩
  have h1 := (dv_ng (n := n.toInt) hj (by omega) rfl).2
  rw [q.1] at h1
  rcases Int.mul_eq_zero.mp h1.symm with w | w
  · exact odd_mod ho (j := j) (by omega) w
  · have := ip_pos (OFF - j); omega
theorem big_out {n : Int} {j : Nat} (h0 : n ≠ 0) (hj : 64 ≤ j) : ¬ (-9223372036854775808 ≤ n * 2 ^ j ∧ n * 2 ^ j < 9223372036854775808) := by
  have h64 : (2 : Int) ^ 64 ≤ 2 ^ j := ip_le hj
  rw [show (2 : Int) ^ 64 = 18446744073709551616 by decide] at h64
  generalize (2 : Int) ^ j = p at *
  rintro ⟨q1, q2⟩
  rcases Int.lt_or_le n 0 with y | y
  · have : n * p ≤ -1 * p := Int.mul_le_mul_of_nonneg_right (by omega) (by omega)
    omega
  · have : 1 * p ≤ n * p := Int.mul_le_mul_of_nonneg_right (by omega) (by omega)
    omega
theorem cw_sc {n : Int64} {e : Int32} (c : 0 ≤ e.toInt) : cw (.inr (.inl (sc n.toInt e.toInt))) ↔ (-9223372036854775808 ≤ n.toInt * 2 ^ e.toInt.toNat ∧ n.toInt * 2 ^ e.toInt.toNat < 9223372036854775808) := by
  have hd := dv_nn (n := n.toInt) c rfl
  show (_ ∧ _ ∧ _) ↔ _
  rw [hd.1, hd.2]
  exact ⟨fun z => z.2, fun z => ⟨rfl, z⟩⟩
theorem iwh_big {k e : Int32} {n : Int64} {a : AV} (h : MA k n e a) (c2 : k = 2) (c : ¬ e ≤ 63) : CWP 0 a := by
  obtain ⟨rfl, g⟩ := MA_2 h c2
  rw [Int32.le_iff_toInt_le, show (63 : Int32).toInt = 63 by decide] at c
  obtain ⟨-, h0⟩ := GR_odd g (fun q => by rw [q, I0] at c; omega)
  refine Or.inr ⟨rfl, fun q => ?_⟩
  exact big_out (L_ne0 h0) (by omega) ((cw_sc (by omega)).mp q)
theorem iwh_63 {k e : Int32} {n : Int64} {a : AV} (r : Int32) (h : MA k n e a) (c2 : k = 2) (c : e = 63) (hr : (n = -1 ∧ r = 1) ∨ (¬ n = -1 ∧ r = 0)) : CWP r a := by
  obtain ⟨rfl, g⟩ := MA_2 h c2
  have he : e.toInt = 63 := by rw [c]; decide
  obtain ⟨ho, h0⟩ := GR_odd g (fun q => by rw [q, I0] at he; omega)
  have hc := cw_sc (n := n) (e := e) (by omega)
  rw [show e.toInt.toNat = 63 by omega, show (2 : Int) ^ 63 = 9223372036854775808 by decide] at hc
  have hm : (-1 : Int64).toInt = -1 := by decide
  rcases hr with ⟨q, rfl⟩ | ⟨q, rfl⟩
  · refine Or.inl ⟨rfl, hc.mpr ?_⟩
    rw [q, hm]; decide
  · refine Or.inr ⟨rfl, fun z => q (Int64.toInt_inj.mp ?_)⟩
    have := hc.mp z
    have h1 := L_ne0 h0
    rw [hm]; omega
theorem iwh_s {k e : Int32} {n x y : Int64} {a : AV} (r : Int32) (h : MA k n e a) (c2 : k = 2) (c0 : ¬ e < 0) (c63 : e ≤ 63) (e1 : x = n <<< (e.toInt64 &&& 63)) (e2 : y = x >>> (e.toInt64 &&& 63)) (hr : (y = n ∧ r = 1) ∨ (¬ y = n ∧ r = 0)) : CWP r a := by
  obtain ⟨rfl, g⟩ := MA_2 h c2
  rw [Int32.lt_iff_toInt_lt, I0] at c0
  rw [Int32.le_iff_toInt_le, show (63 : Int32).toInt = 63 by decide] at c63
  have hc := cw_sc (n := n) (e := e) (by omega)
  have hs := shlr (k := e.toInt.toNat) (by omega) (by omega) (by omega) e1 e2
  rcases hr with ⟨q, rfl⟩ | ⟨q, rfl⟩
  · exact Or.inl ⟨rfl, hc.mpr (hs.mp q)⟩
  · exact Or.inr ⟨rfl, fun z => q (hs.mpr (hc.mp z))⟩
theorem wof_1 {k e : Int32} {n : Int64} {a : AV} (h : MA k n e a) (c : k = 1) : cw a → n.toInt = wi a := fun _ => by rw [(MA_1 h c).1]; rfl
theorem wof_2 {k e : Int32} {n r : Int64} {a : AV} (h : MA k n e a) (c : ¬ k = 1) (er : r = n <<< (e.toInt64 &&& 63)) : cw a → r.toInt = wi a := fun hc => by
  by_cases c2 : k = 2
  · obtain ⟨rfl, g⟩ := MA_2 h c2
    have ge := GR_e g
    have h0 : 0 ≤ e.toInt := by
      rcases Int.lt_or_le e.toInt 0 with z | z
      · rcases iwh_neg h c2 (by rw [Int32.lt_iff_toInt_lt, I0]; exact z) with ⟨w, -⟩ | ⟨-, w⟩
        · exact absurd w (by decide)
        · exact absurd hc w
      · exact z
    have hf := (cw_sc h0).mp hc
    have h63 : e.toInt < 64 := by
      rcases Int.lt_or_le e.toInt 64 with z | z
      · exact z
      · obtain ⟨-, h9⟩ := GR_odd g (fun q => by rw [q, I0] at z; omega)
        exact absurd hf (big_out (L_ne0 h9) (by omega))
    rw [er, L_shl n (y := e) (k := e.toInt.toNat) (by omega) (by omega) hf.1 hf.2]
    exact (dv_nn (n := n.toInt) h0 rfl).1.symm
  · rcases MA_o h c c2 with ⟨-, rfl⟩ | ⟨-, rfl⟩ | ⟨-, rfl⟩ <;> exact absurd hc id
theorem ma_w {k e : Int32} {n v : Int64} (h : k = 1 ∧ n = v ∧ e = 0) : MA k n e (.inl v) := h
-- floor quotient
theorem fq_m {x y r : Int64} (c : y = -1) (er : r = -x) : r = fdS x y := by
  have h1 : x / -1 = -x := by
    apply Int64.toInt_inj.mp
    have hm : (-1 : Int64).toInt = -1 := by decide
    rw [Int64.toInt_div, hm, Int.tdiv_neg, Int.tdiv_one, Int64.toInt_neg]
  unfold fdS
  rw [c, h1, ifn, er]
  rintro ⟨-, q⟩
  exact q (by grind)
theorem xor_neg {x y : Int64} : (x ^^^ y) < 0 ↔ ¬ (x.toInt < 0 ↔ y.toInt < 0) := by
  have h : ∀ z : Int64, z.toInt < 0 ↔ z.toBitVec.msb = true := fun z => by
    rw [BitVec.msb_eq_toInt, decide_eq_true_iff]; rfl
  rw [Int64.lt_iff_toInt_lt, L0, h, h, h, Int64.toBitVec_xor, BitVec.msb_xor]
  cases x.toBitVec.msb <;> cases y.toBitVec.msb <;> decide
theorem fq_1 {x y q m r : Int64} (e1 : q = x / y) (em : m = x - x / y * y) (cm : ¬ m = 0) (hs : ¬ (x.toInt < 0 ↔ y.toInt < 0)) (er : r = q - 1) : r = fdS x y := by
  unfold fdS
  subst e1; subst em
  rw [ifp ⟨xor_neg.mpr hs, fun z => cm (fm_z.mpr z)⟩, er]
theorem fq_2 {x y q m : Int64} (e1 : q = x / y) (em : m = x - x / y * y) (cm : m = 0) : q = fdS x y := by
  unfold fdS
  subst e1; subst em
  rw [ifn (fun h => h.2 (fm_z.mp cm))]
theorem fq_3 {x y q : Int64} (e1 : q = x / y) (hs : x.toInt < 0 ↔ y.toInt < 0) : q = fdS x y := by
  unfold fdS
  subst e1
  rw [ifn (fun h => xor_neg.mp h.1 hs)]
theorem n_n {x : Int64} (c : ¬ 0 ≤ x) : x.toInt < 0 := by rw [Int64.le_iff_toInt_le, L0] at c; omega
theorem n_p {x : Int64} (c : 0 ≤ x) : ¬ x.toInt < 0 := by rw [Int64.le_iff_toInt_le, L0] at c; omega
theorem iff_nn {a b : Prop} (h : a) (g : b) : a ↔ b := ⟨fun _ => g, fun _ => h⟩
theorem iff_pp {a b : Prop} (h : ¬ a) (g : ¬ b) : a ↔ b := ⟨fun q => absurd q h, fun q => absurd q g⟩
theorem nif_1 {a b : Prop} (h : a) (g : ¬ b) : ¬ (a ↔ b) := fun q => g (q.mp h)
theorem nif_2 {a b : Prop} (h : ¬ a) (g : b) : ¬ (a ↔ b) := fun q => h (q.mpr g)
-- bitwise
def BWC (p : Int32) : Prop := p = 7 ∨ p = 8 ∨ p = 9 ∨ p = 10 ∨ p = 11 ∨ p = 13 ∨ p = 16
def OPM (k' : Int32) (n' : Int64) (e' : Int32) (r p : Int32) (a b : AV) : Prop := r = opE p a b ∧ (r = 0 → MA k' n' e' (opV p a b))
theorem bw_e {p : Int32} {a b : AV} {k e : Int32} {n : Int64} (hp : BWC p) (h : ¬ cw a ∨ (¬ (p = 13 ∨ p = 16) ∧ ¬ cw b)) : OPM k n e 2 p a b := by
  refine ⟨?_, fun q => absurd q (by decide)⟩
  rcases hp with rfl | rfl | rfl | rfl | rfl | rfl | rfl
  all_goals first
    | (show 2 = bitE a b; unfold bitE; rw [ifn]; rintro ⟨q1, q2⟩; rcases h with h | h; exact h q1; exact h.2 q2)
    | (show 2 = oneE _ a; unfold oneE; rw [ifp]; refine ⟨by decide, ?_⟩; rcases h with h | h; exact h; exact absurd (by decide) h.1)
theorem bw_v {p : Int32} {a b : AV} {k e : Int32} {n x y t : Int64} (hp : BWC p) (ca : cw a) (cb : p = 13 ∨ p = 16 ∨ cw b) (hx : x.toInt = wi a) (hy : p = 13 ∨ p = 16 ∨ y.toInt = wi b) (ht : t = (if p = 7 then x &&& y else if p = 8 then x ||| y else if p = 9 then x ^^^ y else if p = 10 then shS x y else if p = 11 then shS x (-y) else if p = 13 then x ^^^ -1 else x)) (h : k = 1 ∧ n = t ∧ e = 0) : OPM k n e 0 p a b := by
  have ex := ofw_e hx
  have b9 : (p = 13 ∨ p = 16) ∨ (cw b ∧ y = ofw b) := by
    rcases cb with c | c | c
    · exact Or.inl (Or.inl c)
    · exact Or.inl (Or.inr c)
    · rcases hy with z | z | z
      · exact Or.inl (Or.inl z)
      · exact Or.inl (Or.inr z)
      · exact Or.inr ⟨c, ofw_e z⟩
  rcases hp with rfl | rfl | rfl | rfl | rfl | rfl | rfl
  · rcases b9 with z | ⟨z, ey⟩
    · exact absurd z (by decide)
    · refine ⟨?_, fun _ => ?_⟩
      · show 0 = bitE a b; unfold bitE; rw [ifp ⟨ca, z⟩]
      · show MA k n e (bitA 7 a b); unfold bitA; rw [ifp rfl, ← ex, ← ey]; rw [ifp rfl] at ht; rw [← ht]; exact h
  · rcases b9 with z | ⟨z, ey⟩
    · exact absurd z (by decide)
    · refine ⟨?_, fun _ => ?_⟩
      · show 0 = bitE a b; unfold bitE; rw [ifp ⟨ca, z⟩]
      · show MA k n e (bitA 8 a b); unfold bitA; rw [ifn (by decide), ifp rfl, ← ex, ← ey]; rw [ifn (by decide), ifp rfl] at ht; rw [← ht]; exact h
  · rcases b9 with z | ⟨z, ey⟩
    · exact absurd z (by decide)
    · refine ⟨?_, fun _ => ?_⟩
      · show 0 = bitE a b; unfold bitE; rw [ifp ⟨ca, z⟩]
      · show MA k n e (bitA 9 a b); unfold bitA; rw [ifn (by decide), ifn (by decide), ifp rfl, ← ex, ← ey]; rw [ifn (by decide), ifn (by decide), ifp rfl] at ht; rw [← ht]; exact h
  · rcases b9 with z | ⟨z, ey⟩
    · exact absurd z (by decide)
    · refine ⟨?_, fun _ => ?_⟩
      · show 0 = bitE a b; unfold bitE; rw [ifp ⟨ca, z⟩]
      · show MA k n e (bitA 10 a b); unfold bitA; rw [ifn (by decide), ifn (by decide), ifn (by decide), ifp rfl, ← ex, ← ey]; rw [ifn (by decide), ifn (by decide), ifn (by decide), ifp rfl] at ht; rw [← ht]; exact h
  · rcases b9 with z | ⟨z, ey⟩
    · exact absurd z (by decide)
    · refine ⟨?_, fun _ => ?_⟩
      · show 0 = bitE a b; unfold bitE; rw [ifp ⟨ca, z⟩]
      · show MA k n e (bitA 11 a b); unfold bitA; rw [ifn (by decide), ifn (by decide), ifn (by decide), ifn (by decide), ← ex, ← ey]; rw [ifn (by decide), ifn (by decide), ifn (by decide), ifn (by decide), ifp rfl] at ht; rw [← ht]; exact h
  · refine ⟨?_, fun _ => ?_⟩
    · show 0 = oneE 13 a; unfold oneE; rw [ifn (fun q => q.2 ca)]
    · show MA k n e (oneA 13 a); unfold oneA; rw [ifn (by decide), ifp rfl, ← ex]; rw [ifn (by decide), ifn (by decide), ifn (by decide), ifn (by decide), ifn (by decide), ifp rfl] at ht; rw [← ht]; exact h
  · refine ⟨?_, fun _ => ?_⟩
    · show 0 = oneE 16 a; unfold oneE; rw [ifn (fun q => q.2 ca)]
    · show MA k n e (oneA 16 a); unfold oneA; rw [ifn (by decide), ifn (by decide), ifn (by decide), ifn (by decide), ifp rfl, ← ex]; rw [ifn (by decide), ifn (by decide), ifn (by decide), ifn (by decide), ifn (by decide), ifn (by decide)] at ht; rw [← ht]; exact h
theorem cwp_y {r : Int32} {a : AV} (h : CWP r a) (c : ¬ r = 0) : cw a := by
  rcases h with ⟨-, q⟩ | ⟨q, -⟩
  · exact q
  · exact absurd q c
theorem cwp_no {r : Int32} {a : AV} (h : CWP r a) (c : r = 0) : ¬ cw a := by
  rcases h with ⟨q, -⟩ | ⟨-, q⟩
  · rw [q] at c; exact absurd c (by decide)
  · exact q
theorem BWC_no {p : Int32} (h : BWC p) (c7 : ¬ p = 7) (c8 : ¬ p = 8) (c9 : ¬ p = 9) (c10 : ¬ p = 10) (c11 : ¬ p = 11) (c13 : ¬ p = 13) : p = 16 := by
  rcases h with q | q | q | q | q | q | q
  · exact absurd q c7
  · exact absurd q c8
  · exact absurd q c9
  · exact absurd q c10
  · exact absurd q c11
  · exact absurd q c13
  · exact q
-- wholes
def WHC (p : Int32) : Prop := p = 0 ∨ p = 1 ∨ p = 2 ∨ p = 4 ∨ p = 5
theorem wv_z {p k e : Int32} {n x y : Int64} (hp : WHC p) (c3 : ¬ p ≤ 3) (hy : y = 0) : OPM k n e 1 p (.inl x) (.inl y) := by
  refine ⟨?_, fun q => absurd q (by decide)⟩
  rcases hp with rfl | rfl | rfl | rfl | rfl
  · exact absurd (by decide) c3
  · exact absurd (by decide) c3
  · exact absurd (by decide) c3
  · show 1 = (if ¬ (4 : Int32) = 3 ∧ y = 0 then (1 : Int32) else 0); rw [ifp ⟨by decide, hy⟩]
  · show 1 = (if ¬ (5 : Int32) = 3 ∧ y = 0 then (1 : Int32) else 0); rw [ifp ⟨by decide, hy⟩]
theorem wv_v {p k e : Int32} {n x y t : Int64} (hp : WHC p) (hc : p ≤ 3 ∨ ¬ y = 0) (ht : t = (if p = 0 then x + y else if p = 1 then x - y else if p = 2 then x * y else if p = 4 then fdS x y else fmS x y)) (h : k = 1 ∧ n = t ∧ e = 0) : OPM k n e 0 p (.inl x) (.inl y) := by
  rcases hp with rfl | rfl | rfl | rfl | rfl
  · rw [ifp rfl] at ht; exact ⟨rfl, fun _ => by rw [ht] at h; exact h⟩
  · rw [ifn (by decide), ifp rfl] at ht; exact ⟨rfl, fun _ => by rw [ht] at h; exact h⟩
  · rw [ifn (by decide), ifn (by decide), ifp rfl] at ht; exact ⟨rfl, fun _ => by rw [ht] at h; exact h⟩
  · rw [ifn (by decide), ifn (by decide), ifn (by decide), ifp rfl] at ht
    have hy : ¬ y = 0 := hc.resolve_left (by decide)
    refine ⟨?_, fun _ => by rw [ht] at h; exact h⟩
    show 0 = (if ¬ (4 : Int32) = 3 ∧ y = 0 then (1 : Int32) else 0); rw [ifn (fun q => hy q.2)]
  · rw [ifn (by decide), ifn (by decide), ifn (by decide), ifn (by decide)] at ht
    have hy : ¬ y = 0 := hc.resolve_left (by decide)
    refine ⟨?_, fun _ => by rw [ht] at h; exact h⟩
    show 0 = (if ¬ (5 : Int32) = 3 ∧ y = 0 then (1 : Int32) else 0); rw [ifn (fun q => hy q.2)]
theorem WHC_5 {p : Int32} (h : WHC p) (c0 : ¬ p = 0) (c1 : ¬ p = 1) (c2 : ¬ p = 2) (c4 : ¬ p = 4) : p = 5 := by
  rcases h with q | q | q | q | q
  · exact absurd q c0
  · exact absurd q c1
  · exact absurd q c2
  · exact absurd q c4
  · exact q
theorem or_nn {a b : Prop} (h : ¬ a) (g : ¬ b) : ¬ (a ∨ b) := fun q => q.elim h g
theorem wv_5 {x y q m t : Int64} (h : q = fdS x y) (em : m = y * q) (et : t = x - m) : t = fmS x y := by
  unfold fmS; rw [et, em, h]
theorem bw_12 {p : Int32} {Q : Prop} (h : BWC p) (c : p = 12) : Q := by
  exfalso
  rcases h with q | q | q | q | q | q | q <;> (rw [q] at c; exact absurd c (by decide))
end
