noncomputable section
def lessB (p : Int32) (d : Int) : Prop := d < 0 ∨ (d = 0 ∧ ¬ p = 0)
def LSP (r p : Int32) (d : Int) : Prop := (r = 1 ∧ lessB p d) ∨ (r = 0 ∧ ¬ lessB p d)
theorem lsp_1 {p : Int32} {d : Int} (h : d < 0) : LSP 1 p d := Or.inl ⟨rfl, Or.inl h⟩
theorem lsp_0 {p : Int32} {d : Int} (h : 0 < d) : LSP 0 p d := Or.inr ⟨rfl, by rintro (q | ⟨q, -⟩) <;> omega⟩
theorem lsp_e {p : Int32} {d : Int} (h : d ≤ 0) (c : ¬ p = 0) : LSP 1 p d := by
  rcases Int.lt_or_eq_of_le h with q | q
  · exact lsp_1 q
  · exact Or.inl ⟨rfl, Or.inr ⟨q, c⟩⟩
theorem lsp_s {p : Int32} {d : Int} (h : 0 ≤ d) (c : p = 0) : LSP 0 p d := Or.inr ⟨rfl, by rintro (q | ⟨-, q⟩); omega; exact q c⟩
-- isWholeLess
theorem wl_big {m : Int64} {x : Int32} {B : Int} {v : Int64} (h : MA 2 m x (.inr (.inl B))) (c0 : ¬ x < 0) (hn : ¬ cw (.inr (.inl B))) : (0 < m.toInt → v.toInt * W1 - B < 0) ∧ (m.toInt ≤ 0 → 0 < v.toInt * W1 - B) := by
  obtain ⟨e9, g⟩ := MA_2 h rfl
  injection e9 with e9
  injection e9 with e9
  rw [Int32.lt_iff_toInt_lt, I0] at c0
  have hd := dv_nn (n := m.toInt) (e := x.toInt) (A := B) (by omega) e9.symm
  have hv := L_rg v
  have hout : B / W1 < -9223372036854775808 ∨ 9223372036854775808 ≤ B / W1 := by
    rcases Int.lt_or_le (B / W1) (-9223372036854775808) with q | q
    · exact Or.inl q
    · rcases Int.lt_or_le (B / W1) 9223372036854775808 with z | z
      · exact absurd ⟨hd.2, q, z⟩ hn
      · exact Or.inr z
  have hf := W_fl B
  have hs : B.sign = m.toInt.sign := by rw [e9, sc_sign]
  have hW := W1_pos
  rcases hout with q | q
  · have l1 := W_le (x := B / W1 + 1) (y := v.toInt) (by omega)
    have hB : B < 0 := by have := W_le (x := B / W1 + 1) (y := 0) (by omega); omega
    have : m.toInt < 0 := by rcases sign_c m.toInt with z | z | z <;> rcases sign_c B with y | y | y <;> omega
    constructor <;> intro _ <;> omega
  · have l1 := W_lt (x := v.toInt) (y := B / W1) (by omega)
    have hB : 0 < B := by have := W_lt (x := 0) (y := B / W1) (by omega); omega
    have : 0 < m.toInt := by rcases sign_c m.toInt with z | z | z <;> rcases sign_c B with y | y | y <;> omega
    constructor <;> intro _ <;> omega
theorem wl_n1 {m : Int64} {x : Int32} {B : Int} (h : MA 2 m x (.inr (.inl B))) (c : 63 < x) : ¬ cw (.inr (.inl B)) := by
  rcases iwh_big h rfl (Int32.not_le.mpr c) with ⟨w, -⟩ | ⟨-, w⟩
  · exact absurd w (by decide)
  · exact w
theorem wl_n2 {m s t : Int64} {x : Int32} {B : Int} (h : MA 2 m x (.inr (.inl B))) (c0 : ¬ x < 0) (c63 : ¬ 63 < x) (e1 : s = m <<< (x.toInt64 &&& 63)) (e2 : t = s >>> (x.toInt64 &&& 63)) (c : ¬ t = m) : ¬ cw (.inr (.inl B)) := by
  rcases iwh_s 0 h rfl c0 (Int32.not_lt.mp c63) e1 e2 (Or.inr ⟨c, rfl⟩) with ⟨w, -⟩ | ⟨-, w⟩
  · exact absurd w (by decide)
  · exact w
theorem wl_f {m s t u : Int64} {x : Int32} {B : Int} (h : MA 2 m x (.inr (.inl B))) (c0 : ¬ x < 0) (c63 : ¬ 63 < x) (e1 : s = m <<< (x.toInt64 &&& 63)) (e2 : t = s >>> (x.toInt64 &&& 63)) (c : t = m) (e3 : u = m <<< (x.toInt64 &&& 63)) : u.toInt * W1 = B := by
  have hc : cw (.inr (.inl B)) := by
    rcases iwh_s 1 h rfl c0 (Int32.not_lt.mp c63) e1 e2 (Or.inl ⟨c, rfl⟩) with ⟨-, w⟩ | ⟨w, -⟩
    · exact w
    · exact absurd w (by decide)
  have hu := wof_2 h (by decide) e3 hc
  have h3 := Int.mul_ediv_add_emod B W1
  rw [hc.1, Int.mul_comm] at h3
  have hu : u.toInt = B / W1 := hu
  rw [hu]; omega
theorem wl_lt {v u : Int64} {B : Int} (hu : u.toInt * W1 = B) : (v.toInt < u.toInt → v.toInt * W1 - B < 0) ∧ (v.toInt ≤ u.toInt → v.toInt * W1 - B ≤ 0) ∧ (u.toInt ≤ v.toInt → 0 ≤ v.toInt * W1 - B) ∧ (u.toInt < v.toInt → 0 < v.toInt * W1 - B) := by
  rw [← hu]
  refine ⟨fun h => ?_, fun h => ?_, fun h => ?_, fun h => ?_⟩
  · have := W_lt h; omega
  · have := W_le h; omega
  · have := W_le h; omega
  · have := W_lt h; omega
theorem wl_fr {m d v : Int64} {x : Int32} {B : Int} (h : MA 2 m x (.inr (.inl B))) (c0 : x < 0) (hd : d.toInt = m.toInt / 2 ^ (-x.toInt).toNat) : (v.toInt ≤ d.toInt → v.toInt * W1 - B < 0) ∧ (d.toInt < v.toInt → 0 < v.toInt * W1 - B) := by
  obtain ⟨e9, g⟩ := MA_2 h rfl
  injection e9 with e9
  injection e9 with e9
  have c0' := c0
  rw [Int32.lt_iff_toInt_lt, I0] at c0
  have ge := GR_e g
  have h1 := dv_ng (n := m.toInt) (e := x.toInt) (A := B) (j := (-x.toInt).toNat) (by omega) (by omega) e9.symm
  rw [← h1.1] at hd
  have hf := W_fl B
  rw [← hd] at hf
  have hW := W1_pos
  have hne : B % W1 ≠ 0 := by
    obtain ⟨ho, -⟩ := GR_odd g (fun q => by rw [q, I0] at c0; omega)
    rw [h1.2]
    intro q
    rcases Int.mul_eq_zero.mp q with w | w
    · exact odd_mod ho (j := (-x.toInt).toNat) (by omega) w
    · have := ip_pos (OFF - (-x.toInt).toNat); omega
  have h3 := Int.mul_ediv_add_emod B W1
  have h4 := Int.emod_nonneg B (show (W1 : Int) ≠ 0 by omega)
  rw [Int.mul_comm, ← hd] at h3
  constructor
  · intro q; have := W_le (x := v.toInt) (y := d.toInt) q; omega
  · intro q; have := W_le (x := d.toInt + 1) (y := v.toInt) (by omega); omega
theorem i64_gt {a b : Int64} (h : a < b) : a.toInt < b.toInt := Int64.lt_iff_toInt_lt.mp h
theorem i64_le {a b : Int64} (h : a ≤ b) : a.toInt ≤ b.toInt := Int64.le_iff_toInt_le.mp h
theorem i64_nlt {a b : Int64} (h : ¬ a < b) : b.toInt ≤ a.toInt := by rw [Int64.lt_iff_toInt_lt] at h; omega
theorem i64_nle {a b : Int64} (h : ¬ a ≤ b) : b.toInt < a.toInt := by rw [Int64.le_iff_toInt_le] at h; omega
theorem m_le {m : Int64} (h : m ≤ 0) : m.toInt ≤ 0 := by have := i64_le h; rw [L0] at this; exact this
theorem m_gt {m : Int64} (h : ¬ m ≤ 0) : 0 < m.toInt := by have := i64_nle h; rw [L0] at this; exact this
-- isRealLess
theorem RT_pos {T : Nat} {st : Bool} (h : 2 ^ GL ≤ T) : 0 < RT T st := by
  unfold RT RF
  have h0 : T ≠ 0 := by have := Nat.two_pow_pos GL; omega
  have hg : 2 ^ RG T ≤ T := by
    unfold RG
    rcases Nat.le_total (BL T - 53) GL with q | q
    · rw [Nat.max_eq_right q]; exact h
    · rw [Nat.max_eq_left q]
      exact Nat.le_trans (Nat.pow_le_pow_right (by decide) (by omega)) (BL_self h0)
  have := Nat.div_pos hg (Nat.two_pow_pos (RG T))
  exact Nat.mul_pos (by omega) (Nat.two_pow_pos _)
theorem RT_lt {T q G : Nat} {st : Bool} (hq : T < q * 2 ^ G) (h53 : q < 9007199254740992) (hG : GL ≤ G) (hG2 : G ≤ 971 + OFF) : RT T st < TOP := by
  by_cases hT : BL T ≤ 1023 + OFF
  · have hGO : GL ≤ OFF := GL_OFF
    have h1 : RT T st ≤ 2 ^ (RG T + 53) := RT_le
    have h2 : RG T + 53 < 1024 + OFF := by unfold RG; omega
    exact Nat.lt_of_le_of_lt h1 (Nat.lt_of_lt_of_le (Nat.pow_lt_pow_right (by decide) (Nat.lt_succ_self _)) (le_TOP h2))
  · have hT' : 1024 + OFF ≤ BL T := by omega
    have hbl : BL T ≤ 53 + G := by
      apply BL_le
      refine Nat.lt_trans hq ?_
      rw [Nat.pow_add]
      exact Nat.mul_lt_mul_of_pos_right h53 (Nat.two_pow_pos G)
    have eG : G = 971 + OFF := by omega
    have eR : RG T = G := by
      have hGO : GL ≤ OFF := GL_OFF
      unfold RG
      omega
    unfold RT
    rw [eR]
    have hdiv : T / 2 ^ G < q := by rw [Nat.div_lt_iff_lt_mul (Nat.two_pow_pos G)]; exact hq
    have hrf : RF T G st ≤ 9007199254740991 := by
      unfold RF
      split <;> omega
    have : RF T G st * 2 ^ G < 2 ^ 53 * 2 ^ G := Nat.mul_lt_mul_of_pos_right (by rw [show (2 : Nat) ^ 53 = 9007199254740992 by decide]; omega) (Nat.two_pow_pos G)
    rw [← Nat.pow_add] at this
    exact Nat.lt_of_lt_of_le this (le_TOP (by omega))
theorem GR_dvd {n : Int64} {e : Int32} (g : GR n e) : ∃ q : Nat, (sc n.toInt e.toInt).natAbs = q * 2 ^ GL := by
  have ge := GR_e g
  have hO : (OFF : Int) = 6000 := rfl
  have hG : GL = 4926 := rfl
  rw [GR_abs]
  obtain ⟨j, hj⟩ : ∃ j, (e.toInt + (OFF : Int)).toNat = j + GL := ⟨(e.toInt + (OFF : Int)).toNat - GL, by omega⟩
  rw [hj, Nat.pow_add, ← Nat.mul_assoc]
  exact ⟨_, rfl⟩
def okR (A : Int) : Prop := ∃ q G : Nat, A.natAbs = q * 2 ^ G ∧ q < 9007199254740992 ∧ GL ≤ G ∧ G ≤ 971 + OFF
def okA : AV → Prop
  | .inr (.inl A) => okR A
  | _ => True
theorem CA_ok {v : V3} {a : AV} (h : CA v a) : okA a := by
  cases a using AV_el with
  | r A =>
    obtain ⟨b1, b2, b3⟩ := CN_e h.2.1
    have hO : (OFF : Int) = 6000 := rfl
    have hO' : OFF = 6000 := rfl
    have hG : GL = 4926 := rfl
    exact ⟨_, _, CA_abs h, b1, by omega, by omega⟩
  | w y => trivial
  | p => trivial
  | m => trivial
  | x => trivial
/-- the sign of a rounded difference -/
theorem rl_s {k e : Int32} {n : Int64} {D : Int} (h : MA k n e (rnd (decide (D < 0)) D.natAbs false)) (hd : D = 0 ∨ 2 ^ GL ≤ D.natAbs) (hlt : RT D.natAbs false < TOP) : n.toInt.sign = D.sign := by
  unfold rnd at h
  rw [mkR_r hlt] at h
  have e9 : n.toInt.sign = (if decide (D < 0) = true then -((RT D.natAbs false : Nat) : Int) else ((RT D.natAbs false : Nat) : Int)).sign := by
    rw [← h.2.2, sc_sign]
  rw [e9]
  rcases hd with q | q
  · rw [q]
    have : RT (0 : Int).natAbs false = 0 := RT_0
    rw [this]; rfl
  · have hp := RT_pos (st := false) q
    generalize RT D.natAbs false = R at *
    have h0 : D ≠ 0 := fun z => by rw [z] at q; have := Nat.two_pow_pos GL; simp at q
    by_cases z : D < 0
    · rw [ifp (decide_eq_true z), Int.sign_eq_neg_one_of_neg z, Int.sign_eq_neg_one_of_neg (by omega)]
    · rw [ifn (by rw [decide_eq_false z]; decide), Int.sign_eq_one_of_pos (show 0 < D by omega), Int.sign_eq_one_of_pos (by omega)]
theorem dvd_d {A B : Int} (hA : ∃ q : Nat, A.natAbs = q * 2 ^ GL) (hB : ∃ q : Nat, B.natAbs = q * 2 ^ GL) : A + B = 0 ∨ 2 ^ GL ≤ (A + B).natAbs := by
  obtain ⟨q, hq⟩ := hA
  obtain ⟨r, hr⟩ := hB
  have P := Nat.two_pow_pos GL
  generalize 2 ^ GL = u at *
  have : ∃ z : Int, A + B = z * u := by
    rcases Int.natAbs_eq A with x | x <;> rcases Int.natAbs_eq B with y | y <;> rw [x, y, hq, hr]
    · exact ⟨(q : Int) + r, by push_cast; rw [Int.add_mul]⟩
    · exact ⟨(q : Int) - r, by push_cast; rw [Int.sub_mul]; omega⟩
    · exact ⟨-(q : Int) + r, by push_cast; rw [Int.add_mul, Int.neg_mul]⟩
    · exact ⟨-(q : Int) - r, by push_cast; rw [Int.sub_mul, Int.neg_mul]; omega⟩
  obtain ⟨z, hz⟩ := this
  rw [hz]
  by_cases y : z = 0
  · left; rw [y, Int.zero_mul]
  · right
    rw [Int.natAbs_mul, Int.natAbs_natCast]
    exact Nat.le_mul_of_pos_left _ (by omega)
theorem rl_1 {ka ea kb eb sa sb : Int32} {na nb : Int64} {A B : Int} {p : Int32} (ha : MA ka na ea (.inr (.inl A))) (hb : MA kb nb eb (.inr (.inl B))) (h1 : SGM ka na sa) (h2 : SGM kb nb sb) (c : ¬ sa = sb) (r : Int32) (hr : (sb ≤ sa ∧ r = 0) ∨ (¬ sb ≤ sa ∧ r = 1)) : LSP r p (A - B) := by
  have t1 : sa.toInt = A.sign := SG_t (SGM_s ha h1) (sg_3 (.inr (.inl A)))
  have t2 : sb.toInt = B.sign := SG_t (SGM_s hb h2) (sg_3 (.inr (.inl B)))
  have hne : ¬ A.sign = B.sign := fun q => c (Int32.toInt_inj.mp (by rw [t1, t2, q]))
  rw [Int32.le_iff_toInt_le, t1, t2] at hr
  rcases hr with ⟨q, rfl⟩ | ⟨q, rfl⟩
  · refine lsp_0 ?_
    rcases sign_c A with z | z | z <;> rcases sign_c B with y | y | y <;> omega
  · refine lsp_1 ?_
    rcases sign_c A with z | z | z <;> rcases sign_c B with y | y | y <;> omega
theorem rl_2 {ka ea kb eb sa sb : Int32} {na nb : Int64} {A B : Int} {p : Int32} (hp : p = 0 ∨ p = 1) (ha : MA ka na ea (.inr (.inl A))) (hb : MA kb nb eb (.inr (.inl B))) (h1 : SGM ka na sa) (h2 : SGM kb nb sb) (c : sa = sb) (c0 : sa = 0) : LSP p p (A - B) := by
  have t1 : sa.toInt = A.sign := SG_t (SGM_s ha h1) (sg_3 (.inr (.inl A)))
  have t2 : sb.toInt = B.sign := SG_t (SGM_s hb h2) (sg_3 (.inr (.inl B)))
  rw [← c, c0, I0] at t2
  rw [c0, I0] at t1
  have hA : A = 0 := Int.sign_eq_zero_iff_zero.mp t1.symm
  have hB : B = 0 := Int.sign_eq_zero_iff_zero.mp t2.symm
  rw [hA, hB]
  rcases hp with q | q
  · rw [q]; exact lsp_s (by decide) rfl
  · rw [q]; exact lsp_e (by decide) (by decide)
theorem rl_d {ka ea kb eb sa sb k e kb2 : Int32} {na nb nb2 n : Int64} {A B : Int} (oA : okR A) (oB : okR B) (ha : MA ka na ea (.inr (.inl A))) (hb : MA kb nb eb (.inr (.inl B))) (h1 : SGM ka na sa) (h2 : SGM kb nb sb) (c : sa = sb) (c0 : ¬ sa = 0) (hn : MA kb2 nb2 eb (ng (.inr (.inl B)))) (hm : MA k n e (addR (.inr (.inl (sc na.toInt ea.toInt))) (.inr (.inl (sc nb2.toInt eb.toInt))))) : n.toInt.sign = (A - B).sign := by
  have t1 : sa.toInt = A.sign := SG_t (SGM_s ha h1) (sg_3 (.inr (.inl A)))
  have t2 : sb.toInt = B.sign := SG_t (SGM_s hb h2) (sg_3 (.inr (.inl B)))
  have hA0 : A ≠ 0 := fun q => c0 (Int32.toInt_inj.mp (by rw [t1, q, I0]; rfl))
  have hss : A.sign = B.sign := by rw [← t1, ← t2, c]
  have hB0 : B ≠ 0 := by rcases sign_c A with z | z | z <;> rcases sign_c B with y | y | y <;> omega
  have e1 : sc na.toInt ea.toInt = A := ha.2.2
  have e2 : sc nb2.toInt eb.toInt = -B := hn.2.2
  have d1 := GR_dvd ha.2.1
  have d2 := GR_dvd hn.2.1
  rw [e1] at d1
  rw [e2] at d2
  rw [e1, e2] at hm
  have hm : MA k n e (if A = 0 then _ else if -B = 0 then _ else rnd (decide (A + -B < 0)) (A + -B).natAbs false) := hm
  rw [ifn hA0, ifn (by omega)] at hm
  have hlt : RT (A + -B).natAbs false < TOP := by
    rcases Nat.le_total A.natAbs B.natAbs with q | q
    · obtain ⟨r, G, g1, g2, g3, g4⟩ := oB
      refine RT_lt (q := r) (G := G) ?_ g2 g3 g4
      rw [← g1]
      rcases sign_c A with z | z | z <;> rcases sign_c B with y | y | y <;> omega
    · obtain ⟨r, G, g1, g2, g3, g4⟩ := oA
      refine RT_lt (q := r) (G := G) ?_ g2 g3 g4
      rw [← g1]
      rcases sign_c A with z | z | z <;> rcases sign_c B with y | y | y <;> omega
  exact rl_s hm (dvd_d d1 d2) hlt
theorem rl_3 {n : Int64} {D : Int} {p : Int32} (r : Int32) (h : n.toInt.sign = D.sign) (hr : (¬ 0 ≤ n ∧ r = 1) ∨ (0 ≤ n ∧ ¬ n = 0 ∧ r = 0) ∨ (n = 0 ∧ p = 0 ∧ r = 0) ∨ (n = 0 ∧ ¬ p = 0 ∧ r = 1)) : LSP r p D := by
  rcases hr with ⟨q, rfl⟩ | ⟨q, q2, rfl⟩ | ⟨q, q2, rfl⟩ | ⟨q, q2, rfl⟩
  · refine lsp_1 ?_
    have := n_n q
    rcases sign_c n.toInt with z | z | z <;> rcases sign_c D with y | y | y <;> omega
  · refine lsp_0 ?_
    have := n_p q
    have := L_ne0 q2
    rcases sign_c n.toInt with z | z | z <;> rcases sign_c D with y | y | y <;> omega
  · have hz : n.toInt = 0 := by rw [q, L0]
    refine lsp_s ?_ q2
    rcases sign_c n.toInt with z | z | z <;> rcases sign_c D with y | y | y <;> omega
  · have hz : n.toInt = 0 := by rw [q, L0]
    refine lsp_e ?_ q2
    rcases sign_c n.toInt with z | z | z <;> rcases sign_c D with y | y | y <;> omega
-- isLess, isEqual
def LSA (r p : Int32) (a b : AV) : Prop := (r = 1 ∧ a ≠ (.inr (.inr .gt)) ∧ b ≠ (.inr (.inr .gt)) ∧ lessB p (ordv a b)) ∨ (r = 0 ∧ ¬ (a ≠ (.inr (.inr .gt)) ∧ b ≠ (.inr (.inr .gt)) ∧ lessB p (ordv a b)))
def EQA (r : Int32) (a b : AV) : Prop := (r = 1 ∧ a ≠ (.inr (.inr .gt)) ∧ b ≠ (.inr (.inr .gt)) ∧ ordv a b = 0) ∨ (r = 0 ∧ ¬ (a ≠ (.inr (.inr .gt)) ∧ b ≠ (.inr (.inr .gt)) ∧ ordv a b = 0))
theorem MA_5 {k e : Int32} {n : Int64} {a : AV} (h : MA k n e a) (c : k = 5) : a = (.inr (.inr .gt)) := by
  rcases MA_k h with ⟨q, -⟩ | ⟨q, -⟩ | ⟨q, -⟩ | ⟨q, -⟩ | ⟨-, q, -⟩
  all_goals first | exact q | (rw [q] at c; exact absurd c (by decide))
theorem MA_n5 {k e : Int32} {n : Int64} {a : AV} (h : MA k n e a) (c : ¬ k = 5) : a ≠ (.inr (.inr .gt)) := fun q => c (by rw [q] at h; exact h.1)
theorem ls_x {ka ea kb eb : Int32} {na nb : Int64} {a b : AV} {p : Int32} (ha : MA ka na ea a) (hb : MA kb nb eb b) (h : ka = 5 ∨ kb = 5) : LSA 0 p a b := Or.inr ⟨rfl, fun q => by
  rcases h with h | h
  · exact q.1 (MA_5 ha h)
  · exact q.2.1 (MA_5 hb h)⟩
theorem eq_x {ka ea kb eb : Int32} {na nb : Int64} {a b : AV} (ha : MA ka na ea a) (hb : MA kb nb eb b) (h : ka = 5 ∨ kb = 5) : EQA 0 a b := Or.inr ⟨rfl, fun q => by
  rcases h with h | h
  · exact q.1 (MA_5 ha h)
  · exact q.2.1 (MA_5 hb h)⟩
theorem ls_of {r p : Int32} {a b : AV} (ha : a ≠ (.inr (.inr .gt))) (hb : b ≠ (.inr (.inr .gt))) (h : LSP r p (ordv a b)) : LSA r p a b := by
  rcases h with ⟨q, z⟩ | ⟨q, z⟩
  · exact Or.inl ⟨q, ha, hb, z⟩
  · exact Or.inr ⟨q, fun w => z w.2.2⟩
theorem ord_inf {a b : AV} (h : ¬ (ik a = 0 ∧ ik b = 0)) : ordv a b = ik a - ik b := ifn h
theorem ord_i {ka ea kb eb : Int32} {na nb : Int64} {a b : AV} (ha : MA ka na ea a) (hb : MA kb nb eb b) (a5 : ¬ ka = 5) (b5 : ¬ kb = 5) (h : (ka = 3 ∨ ka = 4) ∨ (kb = 3 ∨ kb = 4)) : (ka = kb → ordv a b = 0) ∧ (¬ ka = kb → (ka = 4 ∨ kb = 3) → ordv a b < 0) ∧ (¬ ka = kb → ¬ (ka = 4 ∨ kb = 3) → 0 < ordv a b) := by
  rcases MA_k ha with ⟨rfl, y, rfl, -⟩ | ⟨rfl, A, rfl, -⟩ | ⟨rfl, rfl, -⟩ | ⟨rfl, rfl, -⟩ | ⟨rfl, rfl, -⟩ <;> rcases MA_k hb with ⟨rfl, y, rfl, -⟩ | ⟨rfl, B, rfl, -⟩ | ⟨rfl, rfl, -⟩ | ⟨rfl, rfl, -⟩ | ⟨rfl, rfl, -⟩ <;> first
    | exact absurd rfl a5
    | exact absurd rfl b5
    | exact absurd h (by decide)
    | (rw [ord_inf (fun q => by first | exact absurd q.1 (by decide) | exact absurd q.2 (by decide))]; refine ⟨fun q => ?_, fun q w => ?_, fun q w => ?_⟩ <;> first | (exact absurd q (by decide)) | (exact absurd rfl q) | (exact absurd w (by decide)) | exact (by decide : (1 : Int) - 1 = 0) | exact (by decide : (-1 : Int) - -1 = 0) | exact (by decide : (0 : Int) - 1 < 0) | exact (by decide : (-1 : Int) - 0 < 0) | exact (by decide : (-1 : Int) - 1 < 0) | exact (by decide : (0 : Int) < 0 - -1) | exact (by decide : (0 : Int) < 1 - 0) | exact (by decide : (0 : Int) < 1 - -1))
theorem ls_i {ka ea kb eb : Int32} {na nb : Int64} {a b : AV} {p : Int32} (r : Int32) (hp : p = 0 ∨ p = 1) (ha : MA ka na ea a) (hb : MA kb nb eb b) (a5 : ¬ ka = 5) (b5 : ¬ kb = 5) (h : (ka = 3 ∨ ka = 4) ∨ (kb = 3 ∨ kb = 4)) (hr : (ka = kb ∧ r = p) ∨ (¬ ka = kb ∧ (ka = 4 ∨ kb = 3) ∧ r = 1) ∨ (¬ ka = kb ∧ ¬ (ka = 4 ∨ kb = 3) ∧ r = 0)) : LSA r p a b := by
  obtain ⟨o1, o2, o3⟩ := ord_i ha hb a5 b5 h
  refine ls_of (MA_n5 ha a5) (MA_n5 hb b5) ?_
  rcases hr with ⟨q, rfl⟩ | ⟨q, w, rfl⟩ | ⟨q, w, rfl⟩
  · rw [o1 q]
    rcases hp with z | z
    · rw [z]; exact lsp_s (by decide) rfl
    · rw [z]; exact lsp_e (by decide) (by decide)
  · exact lsp_1 (o2 q w)
  · exact lsp_0 (o3 q w)
theorem ord_f {a b : AV} (h1 : ik a = 0) (h2 : ik b = 0) : ordv a b = vi a - vi b := by unfold ordv; rw [ifp ⟨h1, h2⟩]
theorem ik_w {y : Int64} : ik (.inl y) = 0 := rfl
theorem ik_r {A : Int} : ik (.inr (.inl A)) = 0 := rfl
theorem ls_ww {ka ea kb eb : Int32} {na nb : Int64} {a b : AV} {p : Int32} (r : Int32) (ha : MA ka na ea a) (hb : MA kb nb eb b) (ca : ka = 1) (cb : kb = 1) (hr : (¬ p = 0 ∧ ((nb < na ∧ r = 0) ∨ (¬ nb < na ∧ r = 1))) ∨ (p = 0 ∧ ((nb ≤ na ∧ r = 0) ∨ (¬ nb ≤ na ∧ r = 1)))) : LSA r p a b := by
  have e1 := (MA_1 ha ca).1
  have e2 := (MA_1 hb cb).1
  have n1 : a ≠ (.inr (.inr .gt)) := fun q => by rw [q] at e1; cases e1
  have n2 : b ≠ (.inr (.inr .gt)) := fun q => by rw [q] at e2; cases e2
  refine ls_of n1 n2 ?_
  rw [e1, e2, ord_f rfl rfl]
  show LSP r p (na.toInt * W1 - nb.toInt * W1)
  obtain ⟨q1, q2, q3, q4⟩ := wl_lt (v := na) (u := nb) (B := nb.toInt * W1) rfl
  rcases hr with ⟨c, ⟨z, rfl⟩ | ⟨z, rfl⟩⟩ | ⟨c, ⟨z, rfl⟩ | ⟨z, rfl⟩⟩
  · exact lsp_0 (q4 (i64_gt z))
  · exact lsp_e (q2 (i64_nlt z)) c
  · exact lsp_s (q3 (i64_le z)) c
  · exact lsp_1 (q1 (i64_nle z))
theorem MA_rl {k e : Int32} {n : Int64} {a : AV} (h : MA k n e a) (c1 : ¬ k = 1) (c5 : ¬ k = 5) (g : ¬ k = 3 ∧ ¬ k = 4) : k = 2 ∧ ∃ A, a = .inr (.inl A) ∧ MA k n e (.inr (.inl A)) ∧ MA 2 n e (.inr (.inl A)) := by
  rcases MA_k h with ⟨q, -⟩ | ⟨q, A, rfl, z⟩ | ⟨q, -⟩ | ⟨q, -⟩ | ⟨q, -⟩
  · exact absurd q c1
  · exact ⟨q, A, rfl, h, ⟨rfl, z⟩⟩
  · exact absurd q g.1
  · exact absurd q g.2
  · exact absurd q c5
theorem ls_wr {ka ea kb eb : Int32} {na nb : Int64} {a b : AV} {p r : Int32} (ha : MA ka na ea a) (hb : MA kb nb eb b) (ca : ka = 1) (cb : ¬ kb = 1) (b5 : ¬ kb = 5) (g : ¬ kb = 3 ∧ ¬ kb = 4) (h : ∀ B, MA 2 nb eb (.inr (.inl B)) → LSP r p (na.toInt * W1 - B)) : LSA r p a b := by
  have e1 := (MA_1 ha ca).1
  obtain ⟨-, B, rfl, -, m2⟩ := MA_rl hb cb b5 g
  have n1 : a ≠ (.inr (.inr .gt)) := fun q => by rw [q] at e1; cases e1
  refine ls_of n1 (fun q => by cases q) ?_
  rw [e1, ord_f rfl rfl]; exact h B m2
theorem ls_rw {ka ea kb eb : Int32} {na nb : Int64} {a b : AV} {p q s : Int32} (r : Int32) (hp : p = 0 ∨ p = 1) (ha : MA ka na ea a) (hb : MA kb nb eb b) (ca : ¬ ka = 1) (cb : kb = 1) (a5 : ¬ ka = 5) (g : ¬ ka = 3 ∧ ¬ ka = 4) (hq : (p = 0 ∧ q = 1) ∨ (¬ p = 0 ∧ q = 0)) (h : ∀ A, MA 2 na ea (.inr (.inl A)) → LSP s q (nb.toInt * W1 - A)) (hr : (¬ s = 0 ∧ r = 0) ∨ (s = 0 ∧ r = 1)) : LSA r p a b := by
  have e1 := (MA_1 hb cb).1
  obtain ⟨-, A, rfl, -, m2⟩ := MA_rl ha ca a5 g
  have n1 : b ≠ (.inr (.inr .gt)) := fun q => by rw [q] at e1; cases e1
  refine ls_of (fun q => by cases q) n1 ?_
  rw [e1, ord_f rfl rfl]
  show LSP r p (A - nb.toInt * W1)
  have h1 := h A m2
  have e9 : A - nb.toInt * W1 = -(nb.toInt * W1 - A) := by omega
  rw [e9]
  generalize nb.toInt * W1 - A = D at *
  rcases hr with ⟨z, rfl⟩ | ⟨z, rfl⟩
  · have hl : lessB q D := by
      rcases h1 with ⟨-, w⟩ | ⟨w, -⟩
      · exact w
      · exact absurd w z
    refine Or.inr ⟨rfl, ?_⟩
    rcases hl with w | ⟨w, c⟩
    · rintro (y | ⟨y, -⟩) <;> omega
    · rintro (y | ⟨-, y⟩)
      · omega
      · rcases hq with ⟨u, -⟩ | ⟨-, u⟩
        · exact y u
        · exact c u
  · have hl : ¬ lessB q D := by
      rcases h1 with ⟨w, -⟩ | ⟨-, w⟩
      · rw [w] at z; exact absurd z (by decide)
      · exact w
    refine Or.inl ⟨rfl, ?_⟩
    rcases Int.lt_trichotomy D 0 with w | w | w
    · exact absurd (Or.inl w) hl
    · rcases hq with ⟨u, v⟩ | ⟨u, v⟩
      · exact absurd (Or.inr ⟨w, by rw [v]; decide⟩) hl
      · exact Or.inr ⟨by omega, u⟩
    · exact Or.inl (by omega)
theorem ls_rr {ka ea kb eb : Int32} {na nb : Int64} {a b : AV} {p r : Int32} (oa : okA a) (ob : okA b) (ha : MA ka na ea a) (hb : MA kb nb eb b) (ca : ¬ ka = 1) (cb : ¬ kb = 1) (a5 : ¬ ka = 5) (b5 : ¬ kb = 5) (g1 : ¬ ka = 3 ∧ ¬ ka = 4) (g2 : ¬ kb = 3 ∧ ¬ kb = 4) (h : ∀ A B, okR A → okR B → MA ka na ea (.inr (.inl A)) → MA kb nb eb (.inr (.inl B)) → LSP r p (A - B)) : LSA r p a b := by
  obtain ⟨-, A, rfl, m1, -⟩ := MA_rl ha ca a5 g1
  obtain ⟨-, B, rfl, m2, -⟩ := MA_rl hb cb b5 g2
  refine ls_of (fun q => by cases q) (fun q => by cases q) ?_
  rw [ord_f rfl rfl]; exact h A B oa ob m1 m2
theorem eq_of {r : Int32} {a b : AV} (ha : a ≠ (.inr (.inr .gt))) (hb : b ≠ (.inr (.inr .gt))) (h : (r = 1 ∧ ordv a b = 0) ∨ (r = 0 ∧ ¬ ordv a b = 0)) : EQA r a b := by
  rcases h with ⟨q, z⟩ | ⟨q, z⟩
  · exact Or.inl ⟨q, ha, hb, z⟩
  · exact Or.inr ⟨q, fun w => z w.2.2⟩
theorem eq_i {ka ea kb eb : Int32} {na nb : Int64} {a b : AV} (r : Int32) (ha : MA ka na ea a) (hb : MA kb nb eb b) (a5 : ¬ ka = 5) (b5 : ¬ kb = 5) (h : (ka = 3 ∨ ka = 4) ∨ (kb = 3 ∨ kb = 4)) (hr : (ka = kb ∧ r = 1) ∨ (¬ ka = kb ∧ r = 0)) : EQA r a b := by
  obtain ⟨o1, o2, o3⟩ := ord_i ha hb a5 b5 h
  refine eq_of (MA_n5 ha a5) (MA_n5 hb b5) ?_
  rcases hr with ⟨q, rfl⟩ | ⟨q, rfl⟩
  · exact Or.inl ⟨rfl, o1 q⟩
  · right; refine ⟨rfl, fun z => ?_⟩
    by_cases w : ka = 4 ∨ kb = 3
    · have := o2 q w; omega
    · have := o3 q w; omega
/-- odd forms are one for one value -/
theorem GR_inj {n m : Int64} {e f : Int32} (g : GR n e) (h : GR m f) (hv : sc n.toInt e.toInt = sc m.toInt f.toInt) : n = m ∧ e = f := by
  have g1 := GR_e g
  have g2 := GR_e h
  have hO : (OFF : Int) = 6000 := rfl
  have key : ∀ {n m : Int64} {e f : Int32}, GR n e → GR m f → -1074 ≤ e.toInt → e.toInt ≤ f.toInt → sc n.toInt e.toInt = sc m.toInt f.toInt → n = m ∧ e = f := by
    intro n m e f g h b1 b2 hv
    obtain ⟨j, hj⟩ : ∃ j : Nat, f.toInt = e.toInt + j := ⟨(f.toInt - e.toInt).toNat, by omega⟩
    rw [sc, sc, hj, show (e.toInt + (j : Int) + (OFF : Int)).toNat = j + (e.toInt + (OFF : Int)).toNat by omega, Int.pow_add, ← Int.mul_assoc] at hv
    have hv := Int.mul_eq_mul_right_iff (show (2 : Int) ^ (e.toInt + (OFF : Int)).toNat ≠ 0 by have := ip_pos (e.toInt + (OFF : Int)).toNat; omega) |>.mp hv
    rcases Nat.eq_zero_or_pos j with z | z
    · subst z
      rw [Int.pow_zero, Int.mul_one] at hv
      exact ⟨Int64.toInt_inj.mp hv, Int32.toInt_inj.mp (by omega)⟩
    · obtain ⟨i, rfl⟩ : ∃ i, j = i + 1 := ⟨j - 1, by omega⟩
      rw [Int.pow_succ] at hv
      have hev : n.toInt % 2 = 0 := by rw [hv, ← Int.mul_assoc]; exact Int.mul_emod_left _ _
      rcases g with ⟨q1, q2⟩ | ⟨q, -⟩
      · rw [q1, L0] at hv
        have hm0 : m.toInt = 0 := by
          rcases Int.mul_eq_zero.mp hv.symm with w | w
          · exact w
          · have := ip_pos i; omega
        rcases h with ⟨w1, w2⟩ | ⟨w, -⟩
        · exact ⟨by rw [q1, w1], by rw [q2, w2]⟩
        · omega
      · omega
  rcases Int.le_total e.toInt f.toInt with q | q
  · exact key g h g1.1 q hv
  · obtain ⟨a, b⟩ := key h g g2.1 q hv.symm
    exact ⟨a.symm, b.symm⟩
theorem eq_s {ka ea kb eb : Int32} {na nb : Int64} {a b : AV} (r : Int32) (ha : MA ka na ea a) (hb : MA kb nb eb b) (c : ka = kb) (a5 : ¬ ka = 5) (b5 : ¬ kb = 5) (g1 : ¬ ka = 3 ∧ ¬ ka = 4) (hr : (na = nb ∧ ea = eb ∧ r = 1) ∨ (¬ (na = nb ∧ ea = eb) ∧ r = 0)) : EQA r a b := by
  refine eq_of (MA_n5 ha a5) (MA_n5 hb b5) ?_
  by_cases k1 : ka = 1
  · have e1 := MA_1 ha k1
    have e2 := MA_1 hb (c ▸ k1)
    rw [e1.1, e2.1, ord_f rfl rfl]
    have hz : na.toInt * W1 - nb.toInt * W1 = 0 ↔ na = nb := by
      obtain ⟨q1, q2, q3, q4⟩ := wl_lt (v := na) (u := nb) (B := nb.toInt * W1) rfl
      constructor
      · intro z
        rcases Int.lt_trichotomy na.toInt nb.toInt with y | y | y
        · have := q1 y; omega
        · exact Int64.toInt_inj.mp y
        · have := q4 y; omega
      · intro z; rw [z]; omega
    rcases hr with ⟨z, -, rfl⟩ | ⟨z, rfl⟩
    · exact Or.inl ⟨rfl, hz.mpr z⟩
    · exact Or.inr ⟨rfl, fun y => z ⟨hz.mp y, by rw [e1.2, e2.2]⟩⟩
  · obtain ⟨-, A, rfl, m1, -⟩ := MA_rl ha k1 a5 g1
    obtain ⟨-, B, rfl, m2, -⟩ := MA_rl hb (fun q => k1 (c.trans q)) b5 (c ▸ g1)
    rw [ord_f rfl rfl]
    show (r = 1 ∧ A - B = 0) ∨ (r = 0 ∧ ¬ A - B = 0)
    rcases hr with ⟨z, y, rfl⟩ | ⟨z, rfl⟩
    · refine Or.inl ⟨rfl, ?_⟩
      rw [← m1.2.2, ← m2.2.2, z, y]; omega
    · refine Or.inr ⟨rfl, fun w => z ?_⟩
      exact GR_inj m1.2.1 m2.2.1 (by rw [m1.2.2, m2.2.2]; omega)
/-- a whole one and a real -/
theorem eq_m {v m s : Int64} {x q : Int32} {B : Int} (r : Int32) (h : MA 2 m x (.inr (.inl B))) (hw : ∀ a, MA 2 m x a → CWP q a) (hr : (q = 0 ∧ r = 0) ∨ (¬ q = 0 ∧ s = m <<< (x.toInt64 &&& 63) ∧ ((s = v ∧ r = 1) ∨ (¬ s = v ∧ r = 0)))) : (r = 1 ∧ v.toInt * W1 - B = 0) ∨ (r = 0 ∧ ¬ v.toInt * W1 - B = 0) := by
  have hW := W1_pos
  rcases hr with ⟨z, rfl⟩ | ⟨z, es, hz⟩
  · have hn := cwp_no (hw _ h) z
    refine Or.inr ⟨rfl, fun y => hn ?_⟩
    have e9 : B = v.toInt * W1 := by omega
    have hv := L_rg v
    have d9 : B / W1 = v.toInt := by rw [e9]; exact Int.mul_ediv_cancel _ (by omega)
    exact ⟨by rw [e9]; exact Int.mul_emod_left _ _, by rw [d9]; omega, by rw [d9]; omega⟩
  · have hc := cwp_y (hw _ h) z
    have hu : s.toInt = B / W1 := wof_2 h (by decide) es hc
    have h3 := Int.mul_ediv_add_emod B W1
    rw [hc.1, Int.mul_comm, ← hu] at h3
    obtain ⟨q1, q2, q3, q4⟩ := wl_lt (v := v) (u := s) (B := B) (by omega)
    rcases hz with ⟨y, rfl⟩ | ⟨y, rfl⟩
    · refine Or.inl ⟨rfl, ?_⟩
      rw [← y]; omega
    · refine Or.inr ⟨rfl, fun w => y (Int64.toInt_inj.mp ?_)⟩
      rcases Int.lt_trichotomy v.toInt s.toInt with t | t | t
      · have := q1 t; omega
      · exact t.symm
      · have := q4 t; omega
theorem eq_wr {ka ea kb eb : Int32} {na nb : Int64} {a b : AV} {r : Int32} (ha : MA ka na ea a) (hb : MA kb nb eb b) (ca : ka = 1) (cb : ¬ ka = kb) (b5 : ¬ kb = 5) (g : ¬ kb = 3 ∧ ¬ kb = 4) (h : ∀ B, MA 2 nb eb (.inr (.inl B)) → (r = 1 ∧ na.toInt * W1 - B = 0) ∨ (r = 0 ∧ ¬ na.toInt * W1 - B = 0)) : EQA r a b := by
  have e1 := (MA_1 ha ca).1
  obtain ⟨-, B, rfl, -, m2⟩ := MA_rl hb (fun q => cb (ca.trans q.symm)) b5 g
  have n1 : a ≠ (.inr (.inr .gt)) := fun q => by rw [q] at e1; cases e1
  refine eq_of n1 (fun q => by cases q) ?_
  rw [e1, ord_f rfl rfl]; exact h B m2
theorem eq_rw {ka ea kb eb : Int32} {na nb : Int64} {a b : AV} {r : Int32} (ha : MA ka na ea a) (hb : MA kb nb eb b) (ca : ¬ ka = 1) (a5 : ¬ ka = 5) (b5 : ¬ kb = 5) (cb : ¬ ka = kb) (g : ¬ ka = 3 ∧ ¬ ka = 4) (g2 : ¬ kb = 3 ∧ ¬ kb = 4) (h : ∀ A, MA 2 na ea (.inr (.inl A)) → (r = 1 ∧ nb.toInt * W1 - A = 0) ∨ (r = 0 ∧ ¬ nb.toInt * W1 - A = 0)) : EQA r a b := by
  obtain ⟨k2, A, rfl, -, m2⟩ := MA_rl ha ca a5 g
  have kb1 : kb = 1 := by
    rcases MA_k hb with ⟨q, -⟩ | ⟨q, -⟩ | ⟨q, -⟩ | ⟨q, -⟩ | ⟨q, -⟩
    · exact q
    · exact absurd (k2.trans q.symm) cb
    · exact absurd q g2.1
    · exact absurd q g2.2
    · exact absurd q b5
  have e1 := (MA_1 hb kb1).1
  have n1 : b ≠ (.inr (.inr .gt)) := fun q => by rw [q] at e1; cases e1
  refine eq_of (fun q => by cases q) n1 ?_
  rw [e1, ord_f rfl rfl]
  show (r = 1 ∧ A - nb.toInt * W1 = 0) ∨ (r = 0 ∧ ¬ A - nb.toInt * W1 = 0)
  rcases h A m2 with ⟨q, z⟩ | ⟨q, z⟩
  · exact Or.inl ⟨q, by omega⟩
  · exact Or.inr ⟨q, fun w => z (by omega)⟩
-- compare
theorem cm_0 {a b : AV} {r : Int32} (t : Int32) (h : EQA r a b) (ht : (r = 0 ∧ t = 0) ∨ (¬ r = 0 ∧ t = 1)) : t = cmpV 0 a b := by
  unfold cmpV
  rcases h with ⟨q, n1, n2, z⟩ | ⟨q, z⟩
  · rw [ifn (by rintro (w | w); exact n1 (isx_t.mp w); exact n2 (isx_t.mp w)), ifp z, ifn (by decide)]
    rcases ht with ⟨w, -⟩ | ⟨-, w⟩
    · rw [q] at w; exact absurd w (by decide)
    · exact w
  · have ht : t = 0 := by
      rcases ht with ⟨-, w⟩ | ⟨w, -⟩
      · exact w
      · exact absurd q w
    by_cases w : isx a = true ∨ isx b = true
    · rw [ifp w]; exact ht
    · have n1 : a ≠ (.inr (.inr .gt)) := fun y => w (Or.inl (isx_t.mpr y))
      have n2 : b ≠ (.inr (.inr .gt)) := fun y => w (Or.inr (isx_t.mpr y))
      rw [ifn w, ifn (fun y => z ⟨n1, n2, y⟩), ifn (by rintro ⟨-, y⟩; exact y rfl)]; exact ht
theorem cm_l {a b : AV} {r p q : Int32} (t : Int32) (h : LSA r q a b) (hp : (p = 1 ∧ q = 0) ∨ (p = 2 ∧ q = 1)) (ht : (r = 0 ∧ t = 0) ∨ (¬ r = 0 ∧ t = 1)) : t = cmpV p a b := by
  unfold cmpV
  have hp0 : ¬ p = 0 := by rcases hp with ⟨w, -⟩ | ⟨w, -⟩ <;> rw [w] <;> decide
  rcases h with ⟨y, n1, n2, z⟩ | ⟨y, z⟩
  · have ht : t = 1 := by
      rcases ht with ⟨w, -⟩ | ⟨-, w⟩
      · rw [y] at w; exact absurd w (by decide)
      · exact w
    rw [ifn (by rintro (w | w); exact n1 (isx_t.mp w); exact n2 (isx_t.mp w))]
    rcases z with z | ⟨z, c⟩
    · rw [ifn (by omega), ifp ⟨z, hp0⟩]; exact ht
    · rw [ifp z, ifn (by rcases hp with ⟨w, v⟩ | ⟨w, v⟩; exact absurd v c; rw [w]; decide)]; exact ht
  · have ht : t = 0 := by
      rcases ht with ⟨-, w⟩ | ⟨w, -⟩
      · exact w
      · exact absurd y w
    by_cases w : isx a = true ∨ isx b = true
    · rw [ifp w]; exact ht
    · have n1 : a ≠ (.inr (.inr .gt)) := fun u => w (Or.inl (isx_t.mpr u))
      have n2 : b ≠ (.inr (.inr .gt)) := fun u => w (Or.inr (isx_t.mpr u))
      rw [ifn w]
      by_cases o : ordv a b = 0
      · rw [ifp o]
        rcases hp with ⟨u, v⟩ | ⟨u, v⟩
        · rw [ifp u]; exact ht
        · exact absurd ⟨n1, n2, Or.inr ⟨o, by rw [v]; decide⟩⟩ z
      · rw [ifn o, ifn (fun u => z ⟨n1, n2, Or.inl u.1⟩)]; exact ht
theorem n_of {n : Int64} (c : n < 0) : ¬ 0 ≤ n := Int64.not_le.mpr c
theorem n_of2 {n : Int64} (c : ¬ n < 0) : 0 ≤ n := Int64.not_lt.mp c
end
