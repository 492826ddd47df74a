noncomputable section
def addR : AV → AV → AV
  | .inr (.inl A), .inr (.inl B) => if A = 0 then .inr (.inl B) else if B = 0 then .inr (.inl A) else rnd (decide (A + B < 0)) (A + B).natAbs false
  | (.inr (.inr .lt)), .inr (.inl _) => (.inr (.inr .lt))
  | (.inr (.inr .eq)), .inr (.inl _) => (.inr (.inr .eq))
  | .inr (.inl _), (.inr (.inr .lt)) => (.inr (.inr .lt))
  | .inr (.inl _), (.inr (.inr .eq)) => (.inr (.inr .eq))
  | (.inr (.inr .lt)), (.inr (.inr .lt)) => (.inr (.inr .lt))
  | (.inr (.inr .eq)), (.inr (.inr .eq)) => (.inr (.inr .eq))
  | _, _ => (.inr (.inr .gt))
def inS (s : Int) : AV := if s = 0 then (.inr (.inr .gt)) else if s < 0 then (.inr (.inr .eq)) else (.inr (.inr .lt))
def mulR : AV → AV → AV
  | .inr (.inl A), .inr (.inl B) => rnd (decide (A.sign * B.sign < 0)) (A.natAbs * B.natAbs / W1) false
  | (.inr (.inr .gt)), _ => (.inr (.inr .gt))
  | _, (.inr (.inr .gt)) => (.inr (.inr .gt))
  | a, b => inS (sg a * sg b)
def divR : AV → AV → AV
  | (.inr (.inr .gt)), _ => (.inr (.inr .gt))
  | _, (.inr (.inr .gt)) => (.inr (.inr .gt))
  | .inr (.inl A), .inr (.inl B) => if B = 0 then inS A.sign else if A = 0 then .inr (.inl 0) else rnd (decide (A.sign ≠ B.sign)) (A.natAbs * W1 / B.natAbs) (decide (A.natAbs * W1 % B.natAbs ≠ 0))
  | .inr (.inl _), (.inr (.inr .lt)) => .inr (.inl 0)
  | .inr (.inl _), (.inr (.inr .eq)) => .inr (.inl 0)
  | (.inr (.inr .lt)), .inr (.inl B) => if B < 0 then (.inr (.inr .eq)) else (.inr (.inr .lt))
  | (.inr (.inr .eq)), .inr (.inl B) => if B < 0 then (.inr (.inr .lt)) else (.inr (.inr .eq))
  | _, _ => (.inr (.inr .gt))
def remR : AV → AV → AV
  | .inr (.inl A), .inr (.inl B) => if B = 0 then (.inr (.inr .gt)) else if A.tmod B ≠ 0 ∧ (A.tmod B).sign ≠ B.sign then rnd (decide (A.tmod B + B < 0)) (A.tmod B + B).natAbs false else .inr (.inl (A.tmod B))
  | .inr (.inl A), (.inr (.inr .lt)) => if A < 0 then (.inr (.inr .lt)) else .inr (.inl A)
  | .inr (.inl A), (.inr (.inr .eq)) => if 0 < A then (.inr (.inr .eq)) else .inr (.inl A)
  | _, _ => (.inr (.inr .gt))
def nW : AV → Prop
  | .inl _ => False
  | _ => True
theorem rnd_0 {b st : Bool} : rnd b 0 st = .inr (.inl 0) := by
  unfold rnd
  rw [RT_0, mkR_r TOP_pos]
  cases b <;> rfl
theorem rnd_sgn {A B : Int} (h : B.natAbs ≤ A.natAbs) : rnd (decide (A < 0)) (A + B).natAbs false = rnd (decide (A + B < 0)) (A + B).natAbs false := by
  by_cases q : A + B = 0
  · rw [q, Int.natAbs_zero, rnd_0, rnd_0]
  · congr 1
    by_cases z : A < 0
    · rw [decide_eq_true z, decide_eq_true (by omega)]
    · rw [decide_eq_false z, decide_eq_false (by omega)]
/-- a size, moved up by H - BL places -/
theorem nrm {s : Nat} {H : Nat} (h : s ≠ 0) (hL : BL s ≤ H) : 2 ^ (H - 1) ≤ s * 2 ^ (H - BL s) ∧ s * 2 ^ (H - BL s) < 2 ^ H := by
  have h1 := BL_self h
  have h2 := BL_lt (T := s)
  have h3 := BL_ge (T := s) (k := 0) (by rw [Nat.pow_zero]; omega)
  constructor
  · have : 2 ^ (BL s - 1) * 2 ^ (H - BL s) ≤ s * 2 ^ (H - BL s) := Nat.mul_le_mul_right _ h1
    rw [← Nat.pow_add, show BL s - 1 + (H - BL s) = H - 1 by omega] at this
    exact this
  · have : s * 2 ^ (H - BL s) < 2 ^ BL s * 2 ^ (H - BL s) := Nat.mul_lt_mul_of_pos_right h2 (Nat.two_pow_pos _)
    rw [← Nat.pow_add, show BL s + (H - BL s) = H by omega] at this
    exact this
theorem CA_abs {v : V3} {A : Int} (h : CA v (.inr (.inl A))) : A.natAbs = v.2.1.toInt.natAbs * 2 ^ (v.2.2.toInt + (OFF : Int)).toNat := by
  rw [← h.2.2, sc, Int.natAbs_mul, Int.natAbs_pow]; rfl
theorem CA_n0 {v : V3} {A : Int} (h : CA v (.inr (.inl A))) : A = 0 ↔ v.2.1.toInt = 0 := by
  rw [← h.2.2, sc]
  constructor
  · intro q
    rcases Int.mul_eq_zero.mp q with z | z
    · exact z
    · have := ip_pos (v.2.2.toInt + (OFF : Int)).toNat; omega
  · intro q; rw [q, Int.zero_mul]
theorem CA_neg {v : V3} {A : Int} (h : CA v (.inr (.inl A))) : A < 0 ↔ v.2.1.toInt < 0 := by
  have h1 : A.sign = v.2.1.toInt.sign := by rw [← h.2.2, sc_sign]
  rcases Int.lt_trichotomy A 0 with q | q | q <;> rcases Int.lt_trichotomy v.2.1.toInt 0 with z | z | z
  all_goals (first | (constructor <;> intro _ <;> omega) | (exfalso; simp [Int.sign_eq_neg_one_of_neg, Int.sign_eq_one_of_pos, *] at h1))
/-- a size moved up to H bits: M * 2^U, U = e - room + OFF -/
theorem big {v : V3} {A : Int} {s m : Int64} {room : Int32} (H : Nat) (hH : 53 ≤ H) (hH2 : H ≤ 63) (h : CA v (.inr (.inl A))) (h0 : A ≠ 0) (hs : un s = v.2.1.toInt.natAbs) (hr : room.toInt = (H : Int) - BL (un s)) (hm : m = s <<< (room.toInt64 &&& 63)) : 2 ^ (H - 1) ≤ un m ∧ un m < 2 ^ H ∧ A.natAbs = un m * 2 ^ (v.2.2.toInt - room.toInt + (OFF : Int)).toNat ∧ un m = un s * 2 ^ (H - BL (un s)) ∧ un s ≠ 0 ∧ BL (un s) ≤ 53 := by
  obtain ⟨b1, b2, b3⟩ := CN_e h.2.1
  have hOF : (OFF : Int) = 6000 := rfl
  have hs0 : un s ≠ 0 := fun q => h0 ((CA_n0 h).mpr (by omega))
  have hb : BL (un s) ≤ 53 := BL_le (by rw [hs]; exact b1)
  have hb0 := BL_ge (T := un s) (k := 0) (by rw [Nat.pow_zero]; omega)
  obtain ⟨n1, n2⟩ := nrm hs0 (H := H) (by omega)
  have h63 : 2 ^ H ≤ 2 ^ 63 := Nat.pow_le_pow_right (by decide) hH2
  have hm2 := un_shl (k := H - BL (un s)) (by omega) (by omega) hm
  rw [show (2 : Nat) ^ 63 = 9223372036854775808 by decide] at h63
  rw [Nat.mod_eq_of_lt (by omega)] at hm2
  refine ⟨by rw [hm2]; exact n1, by rw [hm2]; exact n2, ?_, hm2, hs0, hb⟩
  rw [CA_abs h, ← hs, hm2, Nat.mul_assoc, ← Nat.pow_add]
  congr 2
  omega
theorem room_of {s : Int64} {r v k : Int32} {n : Int} (h : r.toInt = 64 - (BL (un s) : Int)) (e : v = r - k) (hk : k.toInt = n) (hn : 0 ≤ n ∧ n ≤ 100) : v.toInt = 64 - n - BL (un s) := by
  have := bl_64 s
  rw [e, I_sub, hk] <;> (try rw [hk]) <;> omega
def CMPN (x y : Nat) (r : Int32) : Prop := (r = -1 ∧ x < y) ∨ (r = 0 ∧ x = y) ∨ (r = 1 ∧ y < x)
theorem un_le {x y : Int64} (hx : un x < 9223372036854775808) (hy : un y < 9223372036854775808) : (x < y ↔ un x < un y) ∧ (x = y ↔ un x = un y) := by
  have a := un_of x
  have b := un_of y
  rw [ifp hx] at a
  rw [ifp hy] at b
  refine ⟨?_, fun h => by rw [h], un_inj⟩
  rw [Int64.lt_iff_toInt_lt]
  omega
/-- Order.ofSizes -/
theorem os_u {M1 M2 U1 U2 : Nat} (h1 : M1 < 2 ^ 63) (h2 : 2 ^ 62 ≤ M2) (h : U1 < U2) : M1 * 2 ^ U1 < M2 * 2 ^ U2 := by
  obtain ⟨d, rfl⟩ : ∃ d, U2 = U1 + 1 + d := ⟨U2 - U1 - 1, by omega⟩
  have e : M2 * 2 ^ (U1 + 1 + d) = M2 * 2 * 2 ^ d * 2 ^ U1 := by
    rw [Nat.pow_add, Nat.pow_add, Nat.pow_one]
    simp only [Nat.mul_assoc, Nat.mul_comm, Nat.mul_left_comm]
  rw [e]
  refine Nat.mul_lt_mul_of_pos_right ?_ (Nat.two_pow_pos U1)
  have : M2 * 2 * 1 ≤ M2 * 2 * 2 ^ d := Nat.mul_le_mul_left _ (Nat.two_pow_pos d)
  rw [show (2 : Nat) ^ 63 = 9223372036854775808 by decide] at h1
  rw [show (2 : Nat) ^ 62 = 4611686018427387904 by decide] at h2
  omega
theorem os_e {v w : V3} {A B : Int} {s1 s2 t1 t2 m1 m2 : Int64} {z1 z2 r1 r2 e1 e2 u1 u2 r : Int32} (ha : CA v (.inr (.inl A))) (hb : CA w (.inr (.inl B))) (a0 : A ≠ 0) (b0 : B ≠ 0)
    (hs1 : un s1 = v.2.1.toInt.natAbs) (hz1 : z1.toInt = 64 - (BL (un s1) : Int)) (hr1 : r1 = z1 - 1) (hs2 : un s2 = w.2.1.toInt.natAbs) (hz2 : z2.toInt = 64 - (BL (un s2) : Int)) (hr2 : r2 = z2 - 1)
    (he1 : e1 = v.2.2) (hu1 : u1 = e1 - r1) (he2 : e2 = w.2.2) (hu2 : u2 = e2 - r2)
    (hr : (¬ u1 = u2 ∧ CMPI u1 u2 r) ∨ (u1 = u2 ∧ un t1 = v.2.1.toInt.natAbs ∧ m1 = t1 <<< (r1.toInt64 &&& 63) ∧ un t2 = w.2.1.toInt.natAbs ∧ m2 = t2 <<< (r2.toInt64 &&& 63) ∧ CMPL m1 m2 r)) : CMPN A.natAbs B.natAbs r := by
  obtain ⟨a1, a2, a3⟩ := CN_e ha.2.1
  obtain ⟨b1, b2, b3⟩ := CN_e hb.2.1
  have R1 := room_of hz1 hr1 I1 (by decide)
  have R2 := room_of hz2 hr2 I1 (by decide)
  obtain ⟨p1, p2, p3, p4, p5, p6⟩ := big (s := s1) (m := s1 <<< (r1.toInt64 &&& 63)) 63 (by decide) (by decide) ha a0 hs1 (by omega) rfl
  obtain ⟨q1, q2, q3, q4, q5, q6⟩ := big (s := s2) (m := s2 <<< (r2.toInt64 &&& 63)) 63 (by decide) (by decide) hb b0 hs2 (by omega) rfl
  have hOF : (OFF : Int) = 6000 := rfl
  have L1' := BL_ge (T := un s1) (k := 0) (by rw [Nat.pow_zero]; omega)
  have L2' := BL_ge (T := un s2) (k := 0) (by rw [Nat.pow_zero]; omega)
  have U1 : u1.toInt = v.2.2.toInt - r1.toInt := by rw [hu1, he1, I_sub] <;> omega
  have U2 : u2.toInt = w.2.2.toInt - r2.toInt := by rw [hu2, he2, I_sub] <;> omega
  rw [← U1] at p3
  rw [← U2] at q3
  rcases hr with ⟨hne, hr⟩ | ⟨heq, ht1, hm1, ht2, hm2, hr⟩
  · rcases hr with ⟨hr, c⟩ | ⟨hr, c⟩ | ⟨hr, c⟩
    · rw [Int32.lt_iff_toInt_lt] at c
      left; refine ⟨hr, ?_⟩
      rw [p3, q3]; exact os_u p2 q1 (by omega)
    · exact absurd c hne
    · rw [Int32.lt_iff_toInt_lt] at c
      right; right; refine ⟨hr, ?_⟩
      rw [p3, q3]; exact os_u q2 p1 (by omega)
  · have x1 : m1 = s1 <<< (r1.toInt64 &&& 63) := by rw [hm1, un_inj (ht1.trans hs1.symm)]
    have x2 : m2 = s2 <<< (r2.toInt64 &&& 63) := by rw [hm2, un_inj (ht2.trans hs2.symm)]
    rw [← x1] at p2 p3
    rw [← x2] at q2 q3
    rw [heq] at p3
    rw [show (2 : Nat) ^ 63 = 9223372036854775808 by decide] at p2 q2
    obtain ⟨y1, y2⟩ := un_le p2 q2
    obtain ⟨y3, -⟩ := un_le q2 p2
    have P := Nat.two_pow_pos (u2.toInt + (OFF : Int)).toNat
    rw [p3, q3]
    rcases hr with ⟨hr, c⟩ | ⟨hr, c⟩ | ⟨hr, c⟩
    · left; exact ⟨hr, Nat.mul_lt_mul_of_pos_right (y1.mp c) P⟩
    · right; left; exact ⟨hr, by rw [y2.mp c]⟩
    · right; right; exact ⟨hr, Nat.mul_lt_mul_of_pos_right (y3.mp c) P⟩
end
