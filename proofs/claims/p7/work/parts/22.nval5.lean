noncomputable section
def GTp (r k : Int32) : Prop := (r = 1 ∧ (k = 3 ∨ k = 4)) ∨ (r = 0 ∧ ¬ k = 3 ∧ ¬ k = 4)
theorem addM_x {ka kb ea eb : Int32} {na nb : Int64} {a b : AV} (ha : MA ka na ea a) (hb : MA kb nb eb b) (wa : nW a) (wb : nW b) (h : ka = 5 ∨ kb = 5 ∨ (¬ ka = kb ∧ (ka = 3 ∨ ka = 4) ∧ (kb = 3 ∨ kb = 4))) : addR a b = (.inr (.inr .gt)) := by
  rcases MA_k ha with ⟨rfl, y, rfl, -⟩ | ⟨rfl, A, rfl, -⟩ | ⟨rfl, rfl, -⟩ | ⟨rfl, rfl, -⟩ | ⟨rfl, rfl, -⟩ <;> rcases MA_k hb with ⟨rfl, y, rfl, -⟩ | ⟨rfl, B, rfl, -⟩ | ⟨rfl, rfl, -⟩ | ⟨rfl, rfl, -⟩ | ⟨rfl, rfl, -⟩ <;> first | exact absurd wa id | exact absurd wb id | exact absurd h (by decide) | rfl
theorem addM_a {ka kb ea eb : Int32} {na nb : Int64} {a b : AV} (ha : MA ka na ea a) (hb : MA kb nb eb b) (wb : nW b) (h : (ka = 3 ∨ ka = 4) ∧ ¬ kb = 5 ∧ (ka = kb ∨ (¬ kb = 3 ∧ ¬ kb = 4))) : addR a b = a := by
  rcases MA_k ha with ⟨rfl, y, rfl, -⟩ | ⟨rfl, A, rfl, -⟩ | ⟨rfl, rfl, -⟩ | ⟨rfl, rfl, -⟩ | ⟨rfl, rfl, -⟩ <;> rcases MA_k hb with ⟨rfl, y, rfl, -⟩ | ⟨rfl, B, rfl, -⟩ | ⟨rfl, rfl, -⟩ | ⟨rfl, rfl, -⟩ | ⟨rfl, rfl, -⟩ <;> first | exact absurd wb id | exact absurd h (by decide) | rfl
theorem addM_b {ka kb ea eb : Int32} {na nb : Int64} {a b : AV} (ha : MA ka na ea a) (hb : MA kb nb eb b) (wa : nW a) (h : (kb = 3 ∨ kb = 4) ∧ ¬ ka = 5 ∧ ¬ ka = 3 ∧ ¬ ka = 4) : addR a b = b := by
  rcases MA_k ha with ⟨rfl, y, rfl, -⟩ | ⟨rfl, A, rfl, -⟩ | ⟨rfl, rfl, -⟩ | ⟨rfl, rfl, -⟩ | ⟨rfl, rfl, -⟩ <;> rcases MA_k hb with ⟨rfl, y, rfl, -⟩ | ⟨rfl, B, rfl, -⟩ | ⟨rfl, rfl, -⟩ | ⟨rfl, rfl, -⟩ | ⟨rfl, rfl, -⟩ <;> first | exact absurd wa id | exact absurd h (by decide) | rfl
theorem MA_rr {k e : Int32} {n : Int64} {a : AV} (h : MA k n e a) (w : nW a) (c5 : ¬ k = 5) (c : ¬ k = 3 ∧ ¬ k = 4) : a = .inr (.inl (sc n.toInt e.toInt)) ∧ GR n e ∧ k = 2 := by
  rcases MA_k h with ⟨q, y, rfl, -⟩ | ⟨q, -⟩ | ⟨q, -⟩ | ⟨q, -⟩ | ⟨q, -⟩
  · exact absurd w id
  · exact ⟨(MA_2 h q).1, (MA_2 h q).2, q⟩
  · exact absurd q c.1
  · exact absurd q c.2
  · exact absurd q c5
theorem ma_x {k e : Int32} {n : Int64} {y : AV} (h : k = 5 ∧ n = 0 ∧ e = 0) (e9 : y = (.inr (.inr .gt))) : MA k n e y := by rw [e9]; exact h
theorem ma_g {k e ka ea : Int32} {n na : Int64} {a y : AV} (h : k = ka ∧ n = 0 ∧ e = 0) (ha : MA ka na ea a) (c : ka = 3 ∨ ka = 4) (e9 : y = a) : MA k n e y := by
  rw [e9]
  rcases MA_k ha with ⟨q, -⟩ | ⟨q, -⟩ | ⟨q, rfl, -⟩ | ⟨q, rfl, -⟩ | ⟨q, -⟩
  · rw [q] at c; exact absurd c (by decide)
  · rw [q] at c; exact absurd c (by decide)
  · rw [q] at h; exact h
  · rw [q] at h; exact h
  · rw [q] at c; exact absurd c (by decide)
theorem ad_f {k e ka kb ea eb : Int32} {n na nb : Int64} {a b : AV} (ha : MA ka na ea a) (hb : MA kb nb eb b) (wa : nW a) (wb : nW b) (a5 : ¬ ka = 5) (b5 : ¬ kb = 5) (ca : ¬ ka = 3 ∧ ¬ ka = 4) (cb : ¬ kb = 3 ∧ ¬ kb = 4) (h : MA k n e (addR (.inr (.inl (sc na.toInt ea.toInt))) (.inr (.inl (sc nb.toInt eb.toInt))))) : MA k n e (addR a b) := by
  rw [(MA_rr ha wa a5 ca).1, (MA_rr hb wb b5 cb).1]; exact h
-- multiply
theorem mulM_x {ka kb ea eb : Int32} {na nb : Int64} {a b : AV} (ha : MA ka na ea a) (hb : MA kb nb eb b) (h : ka = 5 ∨ kb = 5) : mulR a b = (.inr (.inr .gt)) := by
  apply mulx
  rcases h with q | q
  · left
    rcases MA_k ha with ⟨z, -⟩ | ⟨z, -⟩ | ⟨z, -⟩ | ⟨z, -⟩ | ⟨-, z, -⟩
    all_goals first | exact z | (rw [z] at q; exact absurd q (by decide))
  · right
    rcases MA_k hb with ⟨z, -⟩ | ⟨z, -⟩ | ⟨z, -⟩ | ⟨z, -⟩ | ⟨-, z, -⟩
    all_goals first | exact z | (rw [z] at q; exact absurd q (by decide))
theorem mulM_i {ka kb ea eb : Int32} {na nb : Int64} {a b : AV} (ha : MA ka na ea a) (hb : MA kb nb eb b) (a5 : ¬ ka = 5) (b5 : ¬ kb = 5) (h : (ka = 3 ∨ ka = 4) ∨ (kb = 3 ∨ kb = 4)) : mulR a b = inS (sg a * sg b) := by
  rcases MA_k ha with ⟨rfl, y, rfl, -⟩ | ⟨rfl, A, rfl, -⟩ | ⟨rfl, rfl, -⟩ | ⟨rfl, rfl, -⟩ | ⟨rfl, rfl, -⟩ <;> rcases MA_k hb with ⟨rfl, y, rfl, -⟩ | ⟨rfl, B, rfl, -⟩ | ⟨rfl, rfl, -⟩ | ⟨rfl, rfl, -⟩ | ⟨rfl, rfl, -⟩ <;> first | exact absurd h (by decide) | exact absurd rfl a5 | exact absurd rfl b5 | rfl
theorem ma_in {k e t : Int32} {n : Int64} {s : Int} (z : Int32) (ht : t.toInt = s) (c : ¬ t = 0) (hz : (0 ≤ t ∧ z = 3) ∨ (¬ 0 ≤ t ∧ z = 4)) (h : k = z ∧ n = 0 ∧ e = 0) : MA k n e (inS s) := by
  have h0 : s ≠ 0 := fun q => c (Int32.toInt_inj.mp (by rw [ht, q, I0]))
  unfold inS
  rw [ifn h0]
  rcases hz with ⟨q, rfl⟩ | ⟨q, rfl⟩
  · rw [Int32.le_iff_toInt_le, I0, ht] at q
    rw [ifn (show ¬ s < 0 by omega)]; exact h
  · rw [Int32.le_iff_toInt_le, I0, ht] at q
    rw [ifp (show s < 0 by omega)]; exact h
theorem ma_z {k e : Int32} {n : Int64} {y : AV} (h : k = 2 ∧ GR n e) (hz : n = 0 ∧ e = 0) (e9 : y = .inr (.inl 0)) : MA k n e y := by
  rw [e9]; exact ⟨h.1, h.2, by rw [hz.1, L0, sc_0]⟩
theorem mul_0 {A B : Int} {t : Int32} (ht : t.toInt = A.sign * B.sign) (c : t = 0) : mulR (.inr (.inl A)) (.inr (.inl B)) = .inr (.inl 0) := by
  rw [c, I0] at ht
  show rnd _ _ _ = _
  have : A.natAbs * B.natAbs = 0 := by
    rcases Int.mul_eq_zero.mp ht.symm with q | q
    · rw [Int.sign_eq_zero_iff_zero.mp q]; simp
    · rw [Int.sign_eq_zero_iff_zero.mp q]; simp
  rw [this, Nat.zero_div, rnd_0]
theorem mul_R {na nb sa sb bits : Int64} {ea eb sc1 x y : Int32} (ga : GR na ea) (gb : GR nb eb) (ha : sa.toInt = na.toInt.natAbs) (hb : sb.toInt = nb.toInt.natAbs) (h : PRD sa.toInt.toNat sb.toInt.toNat bits sc1) (h54 : 0 ≤ sc1.toInt ∧ sc1.toInt ≤ 54) (ex : x = ea + eb) (ey : y = x + sc1) : RT (bits.toInt.toNat * 2 ^ (y.toInt + (OFF : Int)).toNat) false = RT ((sc na.toInt ea.toInt).natAbs * (sc nb.toInt eb.toInt).natAbs / W1) false := by
  obtain ⟨s, r, d, h1, h2, h3, h4⟩ := h
  have e1 := GR_e ga
  have e2 := GR_e gb
  have hO : (OFF : Int) = 6000 := rfl
  have X1 : x.toInt = ea.toInt + eb.toInt := by rw [ex, I_add] <;> omega
  have Y1 : y.toInt = x.toInt + sc1.toInt := by rw [ey, I_add] <;> omega
  obtain ⟨E, hE⟩ : ∃ E : Nat, ea.toInt + eb.toInt + (OFF : Int) = E := ⟨(ea.toInt + eb.toInt + (OFF : Int)).toNat, by omega⟩
  have := RT_prd (E := E) h2 h3 h4
  rw [show (y.toInt + (OFF : Int)).toNat = d + E by omega, this, GR_abs, GR_abs, Nat.mul_mul_mul_comm, ← Nat.pow_add, show (ea.toInt + (OFF : Int)).toNat + (eb.toInt + (OFF : Int)).toNat = E + OFF by omega, Nat.pow_add, ← Nat.mul_assoc, W1_e2, Nat.mul_div_cancel _ (Nat.two_pow_pos OFF), show sa.toInt.toNat = na.toInt.natAbs by omega, show sb.toInt.toNat = nb.toInt.natAbs by omega]
theorem mul_m {k e ka kb ea eb t : Int32} {n na nb : Int64} {a b : AV} {T : Nat} (p : Int32) (ha : MA ka na ea a) (hb : MA kb nb eb b) (wa : nW a) (wb : nW b) (a5 : ¬ ka = 5) (b5 : ¬ kb = 5) (ca : ¬ ka = 3 ∧ ¬ ka = 4) (cb : ¬ kb = 3 ∧ ¬ kb = 4) (ht : t.toInt = sg a * sg b) (hp : (0 ≤ t ∧ p = 0) ∨ (¬ 0 ≤ t ∧ p = 1)) (hR : RT T false = RT ((sc na.toInt ea.toInt).natAbs * (sc nb.toInt eb.toInt).natAbs / W1) false) (h : MA k n e (rnd (bb p) T false)) : MA k n e (mulR a b) := by
  have h1 := (MA_rr ha wa a5 ca).1
  have h2 := (MA_rr hb wb b5 cb).1
  have e9 : bb p = decide ((sc na.toInt ea.toInt).sign * (sc nb.toInt eb.toInt).sign < 0) := by
    have : (sc na.toInt ea.toInt).sign * (sc nb.toInt eb.toInt).sign = t.toInt := by rw [ht, h1, h2]; rfl
    rw [this]
    rcases hp with ⟨q, rfl⟩ | ⟨q, rfl⟩
    · rw [Int32.le_iff_toInt_le, I0] at q
      rw [decide_eq_false (by omega)]; rfl
    · rw [Int32.le_iff_toInt_le, I0] at q
      rw [decide_eq_true (by omega)]; rfl
  rw [h1, h2]
  show MA k n e (rnd _ _ _)
  unfold rnd at *
  rw [← e9, ← hR]; exact h
-- divide
theorem divM_x {ka kb ea eb sa sb : Int32} {na nb : Int64} {a b : AV} (ha : MA ka na ea a) (hb : MA kb nb eb b) (wa : nW a) (wb : nW b) (h1 : SG (sg a) sa) (h2 : SG (sg b) sb) (h : ka = 5 ∨ kb = 5 ∨ ((ka = 3 ∨ ka = 4) ∧ (kb = 3 ∨ kb = 4)) ∨ (sa = 0 ∧ sb = 0)) : divR a b = (.inr (.inr .gt)) := by
  have t1 := SG_t h1 (sg_3 a)
  have t2 := SG_t h2 (sg_3 b)
  rcases h with h | h | h | ⟨h, g⟩
  · rcases MA_k ha with ⟨rfl, -⟩ | ⟨rfl, -⟩ | ⟨rfl, -⟩ | ⟨rfl, -⟩ | ⟨rfl, rfl, -⟩
    all_goals first | exact absurd h (by decide) | exact divx (Or.inl rfl)
  · rcases MA_k hb with ⟨rfl, -⟩ | ⟨rfl, -⟩ | ⟨rfl, -⟩ | ⟨rfl, -⟩ | ⟨rfl, rfl, -⟩
    all_goals first | exact absurd h (by decide) | exact divx (Or.inr rfl)
  · rcases MA_k ha with ⟨rfl, y, rfl, -⟩ | ⟨rfl, A, rfl, -⟩ | ⟨rfl, rfl, -⟩ | ⟨rfl, rfl, -⟩ | ⟨rfl, rfl, -⟩ <;> rcases MA_k hb with ⟨rfl, y, rfl, -⟩ | ⟨rfl, B, rfl, -⟩ | ⟨rfl, rfl, -⟩ | ⟨rfl, rfl, -⟩ | ⟨rfl, rfl, -⟩ <;> first | exact absurd h (by decide) | rfl
  · rw [h, I0] at t1
    rw [g, I0] at t2
    cases a using AV_el with
    | w y => exact absurd wa id
    | r A =>
      have hA : A = 0 := Int.sign_eq_zero_iff_zero.mp t1.symm
      cases b using AV_el with
      | w y => exact absurd wb id
      | r B =>
        have hB : B = 0 := Int.sign_eq_zero_iff_zero.mp t2.symm
        show (if B = 0 then inS A.sign else _) = _
        rw [ifp hB, hA]; rfl
      | p => exact absurd t2 (by decide)
      | m => exact absurd t2 (by decide)
      | x => rfl
    | p => exact absurd t1 (by decide)
    | m => exact absurd t1 (by decide)
    | x => exact divx (Or.inl rfl)
theorem divM_fi {ka kb ea eb : Int32} {na nb : Int64} {a b : AV} (ha : MA ka na ea a) (hb : MA kb nb eb b) (wa : nW a) (a5 : ¬ ka = 5) (ca : ¬ ka = 3 ∧ ¬ ka = 4) (h : kb = 3 ∨ kb = 4) : divR a b = .inr (.inl 0) := by
  rw [(MA_rr ha wa a5 ca).1]
  generalize sc na.toInt ea.toInt = A
  rcases MA_k hb with ⟨rfl, -⟩ | ⟨rfl, -⟩ | ⟨rfl, rfl, -⟩ | ⟨rfl, rfl, -⟩ | ⟨rfl, -⟩
  all_goals first | exact absurd h (by decide) | rfl
theorem divM_if {ka kb ea eb : Int32} {na nb : Int64} {a b : AV} (ha : MA ka na ea a) (hb : MA kb nb eb b) (wb : nW b) (b5 : ¬ kb = 5) (cb : ¬ kb = 3 ∧ ¬ kb = 4) (h : ka = 3 ∨ ka = 4) : divR a b = if sg b = 0 then a else inS (sg a * sg b) := by
  rw [(MA_rr hb wb b5 cb).1]
  generalize sc nb.toInt eb.toInt = B
  rcases MA_k ha with ⟨rfl, -⟩ | ⟨rfl, -⟩ | ⟨rfl, rfl, -⟩ | ⟨rfl, rfl, -⟩ | ⟨rfl, -⟩
  · exact absurd h (by decide)
  · exact absurd h (by decide)
  · show (if B < 0 then (.inr (.inr .eq)) else (.inr (.inr .lt))) = if B.sign = 0 then (.inr (.inr .lt)) else inS (1 * B.sign)
    rcases sign_c B with ⟨q, y⟩ | ⟨q, y⟩ | ⟨q, y⟩
    · rw [ifp q, y]; rfl
    · rw [ifn (by omega), y]; rfl
    · rw [ifn (by omega), y]; rfl
  · show (if B < 0 then (.inr (.inr .lt)) else (.inr (.inr .eq))) = if B.sign = 0 then (.inr (.inr .eq)) else inS (-1 * B.sign)
    rcases sign_c B with ⟨q, y⟩ | ⟨q, y⟩ | ⟨q, y⟩
    · rw [ifp q, y]; rfl
    · rw [ifn (by omega), y]; rfl
    · rw [ifn (by omega), y]; rfl
  · exact absurd h (by decide)
theorem divM_i1 {k e ka kb ea eb sb : Int32} {n na nb : Int64} {a b : AV} (ha : MA ka na ea a) (hb : MA kb nb eb b) (wb : nW b) (b5 : ¬ kb = 5) (cb : ¬ kb = 3 ∧ ¬ kb = 4) (h : ka = 3 ∨ ka = 4) (h2 : SG (sg b) sb) (c : sb = 0) (hs : k = ka ∧ n = 0 ∧ e = 0) : MA k n e (divR a b) := by
  have t2 := SG_t h2 (sg_3 b)
  rw [c, I0] at t2
  rw [divM_if ha hb wb b5 cb h, ifp t2.symm]; exact ma_g hs ha h rfl
theorem divM_i2 {k e ka kb ea eb sa sb t : Int32} {n na nb : Int64} {a b : AV} (z : Int32) (ha : MA ka na ea a) (hb : MA kb nb eb b) (wb : nW b) (b5 : ¬ kb = 5) (cb : ¬ kb = 3 ∧ ¬ kb = 4) (h : ka = 3 ∨ ka = 4) (h1 : SG (sg a) sa) (h2 : SG (sg b) sb) (c : ¬ sb = 0) (et : t = sa * sb) (hz : (0 ≤ t ∧ z = 3) ∨ (¬ 0 ≤ t ∧ z = 4)) (hs : k = z ∧ n = 0 ∧ e = 0) : MA k n e (divR a b) := by
  have t1 := SG_t h1 (sg_3 a)
  have t2 := SG_t h2 (sg_3 b)
  have ht := sg_mul h1 h2 et
  have hb0 : ¬ sg b = 0 := fun q => c (Int32.toInt_inj.mp (by rw [t2, q, I0]))
  have ha0 : sg a ≠ 0 := by
    rcases MA_k ha with ⟨rfl, -⟩ | ⟨rfl, -⟩ | ⟨rfl, rfl, -⟩ | ⟨rfl, rfl, -⟩ | ⟨rfl, -⟩
    all_goals first | exact absurd h (by decide) | decide
  rw [divM_if ha hb wb b5 cb h, ifn hb0]
  refine ma_in z ht (fun q => ?_) hz hs
  rw [q, I0] at ht
  rcases Int.mul_eq_zero.mp ht.symm with w | w
  · exact ha0 w
  · exact hb0 w
theorem divM_z {k e ka kb ea eb sa sb : Int32} {n na nb : Int64} {a b : AV} (z : Int32) (ha : MA ka na ea a) (hb : MA kb nb eb b) (wa : nW a) (wb : nW b) (a5 : ¬ ka = 5) (b5 : ¬ kb = 5) (ca : ¬ ka = 3 ∧ ¬ ka = 4) (cb : ¬ kb = 3 ∧ ¬ kb = 4) (h1 : SG (sg a) sa) (h2 : SG (sg b) sb) (c : sb = 0) (c1 : ¬ sa = 0) (hz : (0 ≤ sa ∧ z = 3) ∨ (¬ 0 ≤ sa ∧ z = 4)) (hs : k = z ∧ n = 0 ∧ e = 0) : MA k n e (divR a b) := by
  have e1 := (MA_rr ha wa a5 ca).1
  have e2 := (MA_rr hb wb b5 cb).1
  have t1 := SG_t h1 (sg_3 a)
  have t2 := SG_t h2 (sg_3 b)
  rw [c, I0] at t2
  rw [e2] at t2 ⊢
  rw [e1] at t1 ⊢
  generalize sc na.toInt ea.toInt = A at *
  generalize sc nb.toInt eb.toInt = B at *
  have hB : B = 0 := Int.sign_eq_zero_iff_zero.mp t2.symm
  show MA k n e (if B = 0 then inS A.sign else _)
  rw [ifp hB]
  exact ma_in z t1 c1 hz hs
theorem divM_0 {ka kb ea eb sa sb : Int32} {na nb : Int64} {a b : AV} (ha : MA ka na ea a) (hb : MA kb nb eb b) (wa : nW a) (wb : nW b) (a5 : ¬ ka = 5) (b5 : ¬ kb = 5) (ca : ¬ ka = 3 ∧ ¬ ka = 4) (cb : ¬ kb = 3 ∧ ¬ kb = 4) (h1 : SG (sg a) sa) (h2 : SG (sg b) sb) (c : ¬ sb = 0) (c1 : sa = 0) : divR a b = .inr (.inl 0) := by
  have e1 := (MA_rr ha wa a5 ca).1
  have e2 := (MA_rr hb wb b5 cb).1
  have t1 := SG_t h1 (sg_3 a)
  have t2 := SG_t h2 (sg_3 b)
  rw [c1, I0] at t1
  have hb0 : ¬ sg b = 0 := fun q => c (Int32.toInt_inj.mp (by rw [t2, q, I0]))
  rw [e2] at hb0 ⊢
  rw [e1] at t1 ⊢
  generalize sc na.toInt ea.toInt = A at *
  generalize sc nb.toInt eb.toInt = B at *
  have hA : A = 0 := Int.sign_eq_zero_iff_zero.mp t1.symm
  have hB : ¬ B = 0 := fun q => hb0 (by rw [q]; rfl)
  show (if B = 0 then _ else if A = 0 then _ else _) = _
  rw [ifn hB, ifp hA]
theorem div_m {k e ka kb ea eb sa sb t : Int32} {n na nb : Int64} {a b : AV} {T : Nat} (p : Int32) (ha : MA ka na ea a) (hb : MA kb nb eb b) (wa : nW a) (wb : nW b) (a5 : ¬ ka = 5) (b5 : ¬ kb = 5) (ca : ¬ ka = 3 ∧ ¬ ka = 4) (cb : ¬ kb = 3 ∧ ¬ kb = 4) (h1 : SG (sg a) sa) (h2 : SG (sg b) sb) (c : ¬ sb = 0) (c1 : ¬ sa = 0) (et : t = sa * sb) (hp : (0 ≤ t ∧ p = 0) ∨ (¬ 0 ≤ t ∧ p = 1)) (hR : RT T false = RT ((sc na.toInt ea.toInt).natAbs * W1 / (sc nb.toInt eb.toInt).natAbs) (decide ((sc na.toInt ea.toInt).natAbs * W1 % (sc nb.toInt eb.toInt).natAbs ≠ 0))) (h : MA k n e (rnd (bb p) T false)) : MA k n e (divR a b) := by
  have e1 := (MA_rr ha wa a5 ca).1
  have e2 := (MA_rr hb wb b5 cb).1
  have t1 := SG_t h1 (sg_3 a)
  have t2 := SG_t h2 (sg_3 b)
  have ht := sg_mul h1 h2 et
  have ha0 : ¬ sg a = 0 := fun q => c1 (Int32.toInt_inj.mp (by rw [t1, q, I0]))
  have hb0 : ¬ sg b = 0 := fun q => c (Int32.toInt_inj.mp (by rw [t2, q, I0]))
  rw [e1, e2] at ht
  rw [e2] at hb0 ⊢
  rw [e1] at ha0 ⊢
  generalize sc na.toInt ea.toInt = A at *
  generalize sc nb.toInt eb.toInt = B at *
  have hA : ¬ A = 0 := fun q => ha0 (by rw [q]; rfl)
  have hB : ¬ B = 0 := fun q => hb0 (by rw [q]; rfl)
  show MA k n e (if B = 0 then _ else if A = 0 then _ else rnd _ _ _)
  rw [ifn hB, ifn hA]
  have e9 : bb p = decide (A.sign ≠ B.sign) := by
    have ht : t.toInt = A.sign * B.sign := ht
    rcases hp with ⟨q, rfl⟩ | ⟨q, rfl⟩
    · rw [Int32.le_iff_toInt_le, I0, ht] at q
      rw [decide_eq_false (p := A.sign ≠ B.sign)]; rfl
      intro z
      rcases sign_c A with ⟨_, u⟩ | ⟨_, u⟩ | ⟨_, u⟩ <;> rcases sign_c B with ⟨_, w⟩ | ⟨_, w⟩ | ⟨_, w⟩ <;> rw [u, w] at q z <;> first | exact absurd rfl z | exact absurd q (by decide) | omega
    · rw [Int32.le_iff_toInt_le, I0, ht] at q
      rw [decide_eq_true (p := A.sign ≠ B.sign)]; rfl
      intro z
      rcases sign_c A with ⟨_, u⟩ | ⟨_, u⟩ | ⟨_, u⟩ <;> rcases sign_c B with ⟨_, w⟩ | ⟨_, w⟩ | ⟨_, w⟩ <;> rw [u, w] at q z <;> first | exact absurd z (by decide) | exact q (by decide) | omega
  unfold rnd at *
  rw [← e9, ← hR]; exact h
-- roundDown
theorem rdm_0 {k e : Int32} {n : Int64} {a : AV} (h : MA k n e a) (c : ¬ k = 2) : MA k n e (flr a) := by
  cases a using AV_el with
  | r A => exact absurd h.1 c
  | w y => exact h
  | p => exact h
  | m => exact h
  | x => exact h
theorem rdm_1 {k e : Int32} {n : Int64} {a : AV} (h : MA k n e a) (c : k = 2) (c2 : ¬ e < 0) : MA k n e (flr a) := by
  obtain ⟨rfl, g⟩ := MA_2 h c
  rw [Int32.lt_iff_toInt_lt, I0] at c2
  have h1 := dv_nn (n := n.toInt) (e := e.toInt) (by omega) rfl
  have h2 := Int.mul_ediv_add_emod (sc n.toInt e.toInt) W1
  rw [h1.2, Int.add_zero, Int.mul_comm] at h2
  show MA k n e (.inr (.inl (sc n.toInt e.toInt / W1 * W1)))
  rw [h2]; exact h
theorem rdm_v {k e k2 e2 : Int32} {n n2 m : Int64} {a : AV} (h : MA k n e a) (c : k = 2) (c2 : e < 0) (hm : m.toInt = n.toInt / 2 ^ (-e.toInt).toNat) (h2 : k2 = 2 ∧ GR n2 e2) (hv : sc n2.toInt e2.toInt = sc m.toInt (0 : Int32).toInt) : MA k2 n2 e2 (flr a) := by
  obtain ⟨rfl, g⟩ := MA_2 h c
  rw [Int32.lt_iff_toInt_lt, I0] at c2
  have ge := GR_e g
  have h1 := (dv_ng (n := n.toInt) (e := e.toInt) (j := (-e.toInt).toNat) (by omega) (by omega) rfl).1
  refine ⟨h2.1, h2.2, ?_⟩
  rw [hv, I0, sc_nn (by decide), hm, ← h1]
  rw [Int.toNat_zero, Int.pow_zero, Int.mul_one]
theorem div_bg {n : Int64} {e : Int32} (g : GR n e) (c : ¬ -62 ≤ e) : n.toInt / 2 ^ (-e.toInt).toNat = if n.toInt < 0 then -1 else 0 := by
  rw [Int32.le_iff_toInt_le, show (-62 : Int32).toInt = -62 by decide] at c
  have gn := GR_n g
  have h1 : (2 : Int) ^ 60 ≤ 2 ^ (-e.toInt).toNat := ip_le (by omega)
  rw [show (2 : Int) ^ 60 = 1152921504606846976 by decide] at h1
  generalize (2 : Int) ^ (-e.toInt).toNat = p at h1
  split
  · rename_i q
    exact (Int.ediv_emod_unique (a := n.toInt) (b := p) (r := n.toInt + p) (q := -1) (by omega)).mpr ⟨by omega, by omega, by omega⟩ |>.1
  · rename_i q
    exact Int.ediv_eq_zero_of_lt (by omega) (by omega)
theorem rdm_m {n : Int64} {e : Int32} (g : GR n e) (c : ¬ -62 ≤ e) (cn : ¬ 0 ≤ n) : (-1 : Int64).toInt = n.toInt / 2 ^ (-e.toInt).toNat := by
  rw [div_bg g c, ifp (n_n cn)]; decide
theorem rdm_p {n : Int64} {e : Int32} (g : GR n e) (c : ¬ -62 ≤ e) (cn : 0 ≤ n) : (0 : Int64).toInt = n.toInt / 2 ^ (-e.toInt).toNat := by
  rw [div_bg g c, ifn (n_p cn)]; decide
theorem rdm_s {n v : Int64} {e w : Int32} (c1 : e < 0) (c : -62 ≤ e) (ew : w = -e) (ev : v = n >>> (w.toInt64 &&& 63)) : v.toInt = n.toInt / 2 ^ (-e.toInt).toNat := by
  rw [Int32.le_iff_toInt_le, show (-62 : Int32).toInt = -62 by decide] at c
  rw [Int32.lt_iff_toInt_lt, I0] at c1
  have hw : w.toInt = ((-e.toInt).toNat : Nat) := by rw [ew, I_neg] <;> omega
  rw [ev, L_shr n hw (by omega)]
theorem gt_c {r s k : Int32} {Q : Prop} (h : (r = 1 ∧ (k = 3 ∨ k = 4)) ∨ (r = 0 ∧ ¬ k = 3 ∧ ¬ k = 4)) (c : r = 0) (h2 : (s = 1 ∧ (k = 3 ∨ k = 4)) ∨ (s = 0 ∧ ¬ k = 3 ∧ ¬ k = 4)) (c2 : ¬ s = 0) : Q := by
  exfalso
  have a := gt_n h c
  rcases gt_y h2 c2 with q | q
  · exact a.1 q
  · exact a.2 q
theorem mul_z {ka kb ea eb t : Int32} {na nb : Int64} {a b : AV} (ha : MA ka na ea a) (hb : MA kb nb eb b) (wa : nW a) (wb : nW b) (a5 : ¬ ka = 5) (b5 : ¬ kb = 5) (ca : ¬ ka = 3 ∧ ¬ ka = 4) (cb : ¬ kb = 3 ∧ ¬ kb = 4) (ht : t.toInt = sg a * sg b) (c : t = 0) : mulR a b = .inr (.inl 0) := by
  have h1 := (MA_rr ha wa a5 ca).1
  have h2 := (MA_rr hb wb b5 cb).1
  rw [h1, h2] at ht ⊢
  exact mul_0 ht c
theorem qt_S {na nb sa sb bits : Int64} {ea eb sc1 x y : Int32} (ga : GR na ea) (gb : GR nb eb) (a0 : ¬ na = 0) (b0 : ¬ nb = 0) (ha : sa.toInt = na.toInt.natAbs) (hb : sb.toInt = nb.toInt.natAbs) (h : QTD sa.toInt.toNat sb.toInt.toNat bits sc1) (ex : x = ea - eb) (ey : y = x + sc1) : RT (bits.toInt.toNat * 2 ^ (y.toInt + (OFF : Int)).toNat) false = RT ((sc na.toInt ea.toInt).natAbs * W1 / (sc nb.toInt eb.toInt).natAbs) (decide ((sc na.toInt ea.toInt).natAbs * W1 % (sc nb.toInt eb.toInt).natAbs ≠ 0)) := by
  rw [show sa.toInt.toNat = na.toInt.natAbs by omega, show sb.toInt.toNat = nb.toInt.natAbs by omega] at h
  exact qt_R ga gb a0 b0 h ex ey
theorem MA_eq {k e ka ea : Int32} {n na : Int64} {a : AV} (q : ka = k ∧ na = n ∧ ea = e) (h : MA k n e a) : MA ka na ea a := by rw [q.1, q.2.1, q.2.2]; exact h
-- turnB, negative
theorem sc_ngv {n v : Int64} {e : Int32} (g : GR n e) (ev : v = -n) : sc v.toInt e.toInt = -sc n.toInt e.toInt := by
  have gn := GR_n g
  rw [ev, L_neg (by omega), sc, sc, Int.neg_mul]
theorem tb_2 {k e : Int32} {n v : Int64} {a : AV} (h : MA k n e a) (c : k = 2) (ev : v = -n) : MA k v e (ng a) := by
  obtain ⟨rfl, g⟩ := MA_2 h c
  exact ⟨c, GR_neg g ev, sc_ngv g ev⟩
theorem tb_3 {k e : Int32} {n : Int64} {a : AV} (h : MA k n e a) (c : k = 3) : MA 4 n e (ng a) := by
  rcases MA_k h with ⟨q, -⟩ | ⟨q, -⟩ | ⟨-, rfl, q⟩ | ⟨q, -⟩ | ⟨q, -⟩
  all_goals first | exact ⟨rfl, q⟩ | (rw [q] at c; exact absurd c (by decide))
theorem tb_4 {k e : Int32} {n : Int64} {a : AV} (h : MA k n e a) (g : k = 3 ∨ k = 4) (c : ¬ k = 3) : MA 3 n e (ng a) := by
  have c4 : k = 4 := g.resolve_left c
  rcases MA_k h with ⟨q, -⟩ | ⟨q, -⟩ | ⟨q, -⟩ | ⟨-, rfl, q⟩ | ⟨q, -⟩
  all_goals first | exact ⟨rfl, q⟩ | (rw [q] at c4; exact absurd c4 (by decide))
theorem tb_o {k e : Int32} {n : Int64} {a : AV} (h : MA k n e a) (w : nW a) (c2 : ¬ k = 2) (g : ¬ k = 3 ∧ ¬ k = 4) : MA k n e (ng a) := by
  rcases MA_k h with ⟨-, y, rfl, -⟩ | ⟨q, -⟩ | ⟨q, -⟩ | ⟨q, -⟩ | ⟨-, rfl, -⟩
  · exact absurd w id
  · exact absurd q c2
  · exact absurd q g.1
  · exact absurd q g.2
  · exact h
theorem ng_w {ka ea k e : Int32} {na n v : Int64} {a : AV} (h : MA ka na ea a) (c : ka = 1) (ev : v = -na) (hs : k = 1 ∧ n = v ∧ e = 0) : MA k n e (ng a) := by
  rw [(MA_1 h c).1]; exact ⟨hs.1, hs.2.1.trans ev, hs.2.2⟩
theorem ng_r {ka ea k e : Int32} {na n v : Int64} {a : AV} (h : MA ka na ea a) (c : ka = 2) (ev : v = -na) (hk : k = 2 ∧ GR n e) (hv : sc n.toInt e.toInt = sc v.toInt ea.toInt) : MA k n e (ng a) := by
  obtain ⟨rfl, g⟩ := MA_2 h c
  exact ⟨hk.1, hk.2, by rw [hv, sc_ngv g ev]⟩
theorem ng_s {ka ea k e : Int32} {na n : Int64} {a : AV} (z : Int32) (h : MA ka na ea a) (c1 : ¬ ka = 1) (c2 : ¬ ka = 2) (hz : (ka = 3 ∧ z = 4) ∨ (¬ ka = 3 ∧ ka = 4 ∧ z = 3) ∨ (¬ ka = 3 ∧ ¬ ka = 4 ∧ z = 5)) (hs : k = z ∧ n = 0 ∧ e = 0) : MA k n e (ng a) := by
  rcases MA_o h c1 c2 with ⟨rfl, rfl⟩ | ⟨rfl, rfl⟩ | ⟨rfl, rfl⟩
  · rcases hz with ⟨-, rfl⟩ | ⟨q, -⟩ | ⟨q, -⟩
    · exact hs
    · exact absurd rfl q
    · exact absurd rfl q
  · rcases hz with ⟨q, -⟩ | ⟨-, -, rfl⟩ | ⟨-, q, -⟩
    · exact absurd q (by decide)
    · exact hs
    · exact absurd rfl q
  · rcases hz with ⟨q, -⟩ | ⟨-, q, -⟩ | ⟨-, -, rfl⟩
    · exact absurd q (by decide)
    · exact absurd q (by decide)
    · exact hs
-- realA
theorem ra_1 {ka ea k1 e1 k2 e2 : Int32} {na n1 n2 : Int64} {a : AV} (h : MA ka na ea a) (c : ka = 1) (hn : MA k1 n1 e1 (rndS na.toInt (0 : Int32).toInt)) (q : k2 = k1 ∧ n2 = n1 ∧ e2 = e1) : MA k2 n2 e2 (turn a) := by
  rw [(MA_1 h c).1]
  rw [rndS_0] at hn
  exact MA_eq q hn
theorem ra_2 {ka ea : Int32} {na : Int64} {a : AV} (h : MA ka na ea a) (c : ¬ ka = 1) : MA ka na ea (turn a) := by
  cases a using AV_el with
  | w y => exact absurd h.1 c
  | r A => exact h
  | p => exact h
  | m => exact h
  | x => exact h
-- floorOfA
def flo (a : AV) : AV := @ite AV (cw (flr a)) (Classical.propDecidable _) (.inl (ofw (flr a))) (flr a)
theorem fo_1 {k e : Int32} {n : Int64} {a : AV} (h : MA k n e (flr a)) (c : ¬ k = 2) : MA k n e (flo a) := by
  unfold flo
  by_cases q : cw (flr a)
  · rw [ifp q]
    cases a using AV_el with
    | w y =>
      have : ofw (flr (.inl y)) = y := (ofw_e (r := y) (a := .inl y) rfl).symm
      rw [this]; exact h
    | r A => exact absurd h.1 c
    | p => exact absurd q id
    | m => exact absurd q id
    | x => exact absurd q id
  · rw [ifn q]; exact h
theorem fo_2 {k e r : Int32} {n : Int64} {a : AV} (h : MA k n e (flr a)) (hw : ∀ a, MA k n e a → CWP r a) (c : r = 0) : MA k n e (flo a) := by
  unfold flo
  rw [ifn (cwp_no (hw _ h) c)]; exact h
theorem fo_3 {k e r k2 e2 : Int32} {n n2 v : Int64} {a : AV} (h : MA k n e (flr a)) (hw : ∀ a, MA k n e a → CWP r a) (c : ¬ r = 0) (hv : ∀ a, MA k n e a → cw a → v.toInt = wi a) (hs : k2 = 1 ∧ n2 = v ∧ e2 = 0) : MA k2 n2 e2 (flo a) := by
  have q := cwp_y (hw _ h) c
  unfold flo
  rw [ifp q, ← ofw_e (hv _ h q)]; exact hs
-- single
def SIC (p : Int32) : Prop := p = 12 ∨ p = 14 ∨ p = 15 ∨ p = 17
theorem oE0 {p : Int32} {a : AV} (h : ¬ (p = 13 ∨ p = 16)) : 0 = oneE p a := (ifn (fun q => h q.1)).symm
theorem si_12 {k e p : Int32} {n : Int64} {a b : AV} (c : p = 12) (h : MA k n e (ng a)) : OPM k n e 0 p a b := by subst c; exact ⟨oE0 (p := 12) (a := a) (by decide), fun _ => h⟩
theorem si_14 {k e p : Int32} {n : Int64} {a b : AV} (c : p = 14) (h : MA k n e (flo a)) : OPM k n e 0 p a b := by subst c; exact ⟨oE0 (p := 14) (a := a) (by decide), fun _ => h⟩
theorem si_15 {k e p : Int32} {n : Int64} {a b : AV} (c : p = 15) (h : MA k n e (turn a)) : OPM k n e 0 p a b := by subst c; exact ⟨oE0 (p := 15) (a := a) (by decide), fun _ => h⟩
theorem si_17 {k e p s : Int32} {n : Int64} {a b : AV} (hp : SIC p) (c1 : ¬ p = 12) (c2 : ¬ p = 14) (c3 : ¬ p = 15) (hs : SG (sg a) s) (h : (¬ 0 ≤ s ∧ MA k n e (ng a)) ∨ (0 ≤ s ∧ MA k n e a)) : OPM k n e 0 p a b := by
  have c : p = 17 := by
    rcases hp with q | q | q | q
    · exact absurd q c1
    · exact absurd q c2
    · exact absurd q c3
    · exact q
  subst c
  refine ⟨oE0 (p := 17) (a := a) (by decide), fun _ => ?_⟩
  have t := SG_t hs (sg_3 a)
  show MA k n e (if sg a < 0 then ng a else a)
  rcases h with ⟨q, h⟩ | ⟨q, h⟩
  · rw [Int32.le_iff_toInt_le, I0] at q
    rw [ifp (by omega)]; exact h
  · rw [Int32.le_iff_toInt_le, I0] at q
    rw [ifn (by omega)]; exact h
-- remainder
theorem remM_x {ka kb ea eb sb : Int32} {na nb : Int64} {a b : AV} (ha : MA ka na ea a) (hb : MA kb nb eb b) (wb : nW b) (h2 : SG (sg b) sb) (h : ka = 5 ∨ kb = 5 ∨ (ka = 3 ∨ ka = 4) ∨ sb = 0) : remR a b = (.inr (.inr .gt)) := by
  rcases h with h | h | h | h
  · rcases MA_k ha with ⟨rfl, -⟩ | ⟨rfl, -⟩ | ⟨rfl, -⟩ | ⟨rfl, -⟩ | ⟨rfl, rfl, -⟩
    all_goals first | exact absurd h (by decide) | exact rem_x (Or.inl rfl)
  · rcases MA_k hb with ⟨rfl, -⟩ | ⟨rfl, -⟩ | ⟨rfl, -⟩ | ⟨rfl, -⟩ | ⟨rfl, rfl, -⟩
    all_goals first | exact absurd h (by decide) | exact rem_x (Or.inr rfl)
  · rcases MA_k ha with ⟨rfl, -⟩ | ⟨rfl, -⟩ | ⟨rfl, rfl, -⟩ | ⟨rfl, rfl, -⟩ | ⟨rfl, -⟩
    all_goals first | exact absurd h (by decide) | (cases b using AV_el <;> rfl)
  · exact rem_z wb h2 h
theorem remM_i {k e ka kb ea eb sa sb : Int32} {n na nb : Int64} {a b : AV} (ha : MA ka na ea a) (hb : MA kb nb eb b) (wa : nW a) (a5 : ¬ ka = 5) (ca : ¬ ka = 3 ∧ ¬ ka = 4) (g : kb = 3 ∨ kb = 4) (h1 : SG (sg a) sa) (h2 : SG (sg b) sb) (h : ((sa = 0 ∨ sa = sb) ∧ (k = 2 ∧ GR n e) ∧ sc n.toInt e.toInt = sc na.toInt ea.toInt) ∨ (¬ sa = 0 ∧ ¬ sa = sb ∧ k = kb ∧ n = 0 ∧ e = 0)) : MA k n e (remR a b) := by
  have e1 := (MA_rr ha wa a5 ca).1
  have t1 := SG_t h1 (sg_3 a)
  have t2 := SG_t h2 (sg_3 b)
  have hs0 : sa = 0 ↔ sg a = 0 := by rw [← t1, ← I0]; exact Int32.toInt_inj.symm
  have hss : sa = sb ↔ sg a = sg b := by rw [← t1, ← t2]; exact Int32.toInt_inj.symm
  rw [hs0, hss] at h
  rw [e1] at h ⊢
  generalize sc na.toInt ea.toInt = A at *
  have h : ((A.sign = 0 ∨ A.sign = sg b) ∧ (k = 2 ∧ GR n e) ∧ sc n.toInt e.toInt = A) ∨ (¬ A.sign = 0 ∧ ¬ A.sign = sg b ∧ k = kb ∧ n = 0 ∧ e = 0) := h
  rcases MA_k hb with ⟨rfl, -⟩ | ⟨rfl, -⟩ | ⟨rfl, rfl, -⟩ | ⟨rfl, rfl, -⟩ | ⟨rfl, -⟩
  · exact absurd g (by decide)
  · exact absurd g (by decide)
  · show MA k n e (if A < 0 then (.inr (.inr .lt)) else .inr (.inl A))
    have h : ((A.sign = 0 ∨ A.sign = 1) ∧ (k = 2 ∧ GR n e) ∧ sc n.toInt e.toInt = A) ∨ (¬ A.sign = 0 ∧ ¬ A.sign = 1 ∧ k = 3 ∧ n = 0 ∧ e = 0) := h
    rcases sign_c A with ⟨q, y⟩ | ⟨q, y⟩ | ⟨q, y⟩ <;> rw [y] at h
    · rw [ifp q]
      rcases h with ⟨w, -⟩ | ⟨-, -, w⟩
      · exact absurd w (by decide)
      · exact w
    · rw [ifn (by omega)]
      rcases h with ⟨-, w⟩ | ⟨w, -⟩
      · exact ma_r w.1 w.2
      · exact absurd rfl w
    · rw [ifn (by omega)]
      rcases h with ⟨-, w⟩ | ⟨-, w, -⟩
      · exact ma_r w.1 w.2
      · exact absurd rfl w
  · show MA k n e (if 0 < A then (.inr (.inr .eq)) else .inr (.inl A))
    have h : ((A.sign = 0 ∨ A.sign = -1) ∧ (k = 2 ∧ GR n e) ∧ sc n.toInt e.toInt = A) ∨ (¬ A.sign = 0 ∧ ¬ A.sign = -1 ∧ k = 4 ∧ n = 0 ∧ e = 0) := h
    rcases sign_c A with ⟨q, y⟩ | ⟨q, y⟩ | ⟨q, y⟩ <;> rw [y] at h
    · rw [ifn (by omega)]
      rcases h with ⟨-, w⟩ | ⟨-, w, -⟩
      · exact ma_r w.1 w.2
      · exact absurd rfl w
    · rw [ifn (by omega)]
      rcases h with ⟨-, w⟩ | ⟨w, -⟩
      · exact ma_r w.1 w.2
      · exact absurd rfl w
    · rw [ifp q]
      rcases h with ⟨w, -⟩ | ⟨-, -, w⟩
      · exact absurd w (by decide)
      · exact w
  · exact absurd g (by decide)
theorem rem_t0 {A B : Int} (h : A = 0) : A.tmod B = 0 := by rw [h, tmod_c]; rfl
theorem remM_0 {k e ka kb ea eb sa sb : Int32} {n na nb : Int64} {a b : AV} (ha : MA ka na ea a) (hb : MA kb nb eb b) (wa : nW a) (wb : nW b) (a5 : ¬ ka = 5) (b5 : ¬ kb = 5) (ca : ¬ ka = 3 ∧ ¬ ka = 4) (cb : ¬ kb = 3 ∧ ¬ kb = 4) (h1 : SG (sg a) sa) (h2 : SG (sg b) sb) (c : ¬ sb = 0) (c1 : sa = 0) (hk : k = 2 ∧ GR n e) (hz : n = 0 ∧ e = 0) : MA k n e (remR a b) := by
  have e1 := (MA_rr ha wa a5 ca).1
  have e2 := (MA_rr hb wb b5 cb).1
  have t1 := SG_t h1 (sg_3 a)
  have t2 := SG_t h2 (sg_3 b)
  rw [c1, I0] at t1
  have hb0 : ¬ sg b = 0 := fun q => c (Int32.toInt_inj.mp (by rw [t2, q, I0]))
  rw [e2] at hb0 ⊢
  rw [e1] at t1 ⊢
  generalize sc na.toInt ea.toInt = A at *
  generalize sc nb.toInt eb.toInt = B at *
  have hA : A = 0 := Int.sign_eq_zero_iff_zero.mp t1.symm
  have hB : ¬ B = 0 := fun q => hb0 (by rw [q]; rfl)
  have ht := rem_t0 (B := B) hA
  show MA k n e (if B = 0 then _ else if A.tmod B ≠ 0 ∧ (A.tmod B).sign ≠ B.sign then _ else .inr (.inl (A.tmod B)))
  rw [ifn hB, ifn (fun q => q.1 ht), ht]
  exact ma_z hk hz rfl
/-- what restOfSizes and plain leave: the remainder with A's sign -/
theorem rem_v {na nb bits m n : Int64} {ea eb scl e sa : Int32} (ga : GR na ea) (h : RSV (sc na.toInt ea.toInt) (sc nb.toInt eb.toInt) bits scl) (hb : 0 ≤ bits.toInt) (hs : SG (sc na.toInt ea.toInt).sign sa) (hm : (0 ≤ sa ∧ m = bits) ∨ (¬ 0 ≤ sa ∧ m = -bits)) (hv : sc n.toInt e.toInt = sc m.toInt scl.toInt) : sc n.toInt e.toInt = (sc na.toInt ea.toInt).tmod (sc nb.toInt eb.toInt) := by
  have t1 : sa.toInt = (sc na.toInt ea.toInt).sign := SG_t hs (sg_3 (.inr (.inl _)))
  unfold RSV at h
  rw [hv, tmod_c, ← h]
  generalize sc na.toInt ea.toInt = A at *
  have hr := L_rg bits
  have e9 : ((bits.toInt.toNat * 2 ^ (scl.toInt + (OFF : Int)).toNat : Nat) : Int) = sc bits.toInt scl.toInt := by
    rw [sc]; push_cast; rw [show ((bits.toInt.toNat : Nat) : Int) = bits.toInt by omega]
  rw [e9]
  rcases hm with ⟨q, rfl⟩ | ⟨q, rfl⟩
  · rw [Int32.le_iff_toInt_le, I0, t1] at q
    rcases sign_c A with ⟨w, y⟩ | ⟨w, y⟩ | ⟨w, y⟩
    · rw [y] at q; exact absurd q (by decide)
    · rw [ifn (by omega)]
    · rw [ifn (by omega)]
  · rw [Int32.le_iff_toInt_le, I0, t1] at q
    rcases sign_c A with ⟨w, y⟩ | ⟨w, y⟩ | ⟨w, y⟩
    · rw [ifp w, L_neg (by omega), sc, sc, Int.neg_mul]
    · rw [y] at q; exact absurd (by decide) q
    · rw [y] at q; exact absurd (by decide) q
theorem remM_f {k e ka kb ea eb sb k1 e1 : Int32} {n na nb n1 : Int64} {a b : AV} (ha : MA ka na ea a) (hb : MA kb nb eb b) (wa : nW a) (wb : nW b) (a5 : ¬ ka = 5) (b5 : ¬ kb = 5) (ca : ¬ ka = 3 ∧ ¬ ka = 4) (cb : ¬ kb = 3 ∧ ¬ kb = 4) (h2 : SG (sg b) sb) (c : ¬ sb = 0) (h1 : k1 = 2 ∧ GR n1 e1) (hv : sc n1.toInt e1.toInt = (sc na.toInt ea.toInt).tmod (sc nb.toInt eb.toInt)) (h : ((n1 = 0 ∨ (sc n1.toInt e1.toInt).sign = (sc nb.toInt eb.toInt).sign) ∧ k = k1 ∧ n = n1 ∧ e = e1) ∨ (¬ n1 = 0 ∧ ¬ (sc n1.toInt e1.toInt).sign = (sc nb.toInt eb.toInt).sign ∧ MA k n e (addR (.inr (.inl (sc n1.toInt e1.toInt))) (.inr (.inl (sc nb.toInt eb.toInt)))))) : MA k n e (remR a b) := by
  have q1 := (MA_rr ha wa a5 ca).1
  have q2 := (MA_rr hb wb b5 cb).1
  have t2 := SG_t h2 (sg_3 b)
  have hb0 : ¬ sg b = 0 := fun q => c (Int32.toInt_inj.mp (by rw [t2, q, I0]))
  rw [q2] at hb0
  have hB : ¬ sc nb.toInt eb.toInt = 0 := fun q => hb0 (by show (sc nb.toInt eb.toInt).sign = 0; rw [q]; rfl)
  rw [q1, q2]
  have hn0 : n1 = 0 ↔ (sc na.toInt ea.toInt).tmod (sc nb.toInt eb.toInt) = 0 := by
    rw [← hv]
    constructor
    · intro z; rw [z, L0, sc_0]
    · intro z
      rcases Int.mul_eq_zero.mp z with w | w
      · exact Int64.toInt_inj.mp (by rw [w, L0])
      · have := ip_pos (e1.toInt + (OFF : Int)).toNat; omega
  rw [hn0, hv] at h
  generalize sc na.toInt ea.toInt = A at *
  generalize sc nb.toInt eb.toInt = B at *
  show MA k n e (if B = 0 then _ else if A.tmod B ≠ 0 ∧ (A.tmod B).sign ≠ B.sign then rnd (decide (A.tmod B + B < 0)) (A.tmod B + B).natAbs false else .inr (.inl (A.tmod B)))
  rw [ifn hB]
  rcases h with ⟨z, w⟩ | ⟨z1, z2, w⟩
  · rw [ifn (by rintro ⟨u1, u2⟩; rcases z with z | z; exact u1 z; exact u2 z)]
    exact MA_eq w (ma_r h1 hv)
  · rw [ifp ⟨z1, z2⟩]
    have w : MA k n e (if A.tmod B = 0 then _ else if B = 0 then _ else _) := w
    rw [ifn z1, ifn hB] at w
    exact w
theorem sgr {a : AV} {A : Int} {r : Int32} (h : SG (sg a) r) (e : a = .inr (.inl A)) : SG A.sign r := by rw [e] at h; exact h
theorem rb_ma {k e : Int32} {n : Int64} {a : AV} (h : MA k n e a) (g : ¬ k = 3 ∧ ¬ k = 4) (c5 : ¬ k = 5) (w : nW a) : MA k n e (.inr (.inl (sc n.toInt e.toInt))) := by
  have := (MA_rr h w c5 g).1
  rw [this] at h; exact h
end
