noncomputable section
def kd : AV → Int32
  | .inl _ => 1
  | .inr (.inl _) => 2
  | (.inr (.inr .lt)) => 3
  | (.inr (.inr .eq)) => 4
  | (.inr (.inr .gt)) => 5
def isx : AV → Bool
  | (.inr (.inr .gt)) => true
  | _ => false
theorem isx_t {a : AV} : isx a = true ↔ a = (.inr (.inr .gt)) := by cases a using AV_el <;> simp [isx]
theorem isx_f {a : AV} : isx a = false ↔ a ≠ (.inr (.inr .gt)) := by cases a using AV_el <;> simp [isx]
def cmpV (p : Int32) (a b : AV) : Int32 := if isx a = true ∨ isx b = true then 0 else if ordv a b = 0 then (if p = 1 then 0 else 1) else if ordv a b < 0 ∧ ¬ p = 0 then 1 else 0
def befB (a b : AV) : Bool := if isx a = true then false else if isx b = true then true else decide (ordv a b < 0)
theorem bef_iff {a b : AV} : BEF a b ↔ befB a b = true := by
  unfold BEF befB
  by_cases h1 : isx a = true
  · rw [ifp h1]
    have := isx_t.mp h1
    constructor
    · rintro (⟨q, -⟩ | ⟨q, -⟩) <;> exact absurd this q
    · intro q; exact absurd q (by decide)
  · rw [ifn h1]
    have n1 : a ≠ (.inr (.inr .gt)) := fun q => h1 (isx_t.mpr q)
    by_cases h2 : isx b = true
    · rw [ifp h2]; exact ⟨fun _ => rfl, fun _ => Or.inl ⟨n1, isx_t.mp h2⟩⟩
    · rw [ifn h2]
      have n2 : b ≠ (.inr (.inr .gt)) := fun q => h2 (isx_t.mpr q)
      rw [decide_eq_true_iff]
      constructor
      · rintro (⟨-, q⟩ | ⟨-, -, q⟩)
        · exact absurd q n2
        · exact q
      · intro q; exact Or.inr ⟨n1, n2, q⟩
theorem CA_kd {v : V3} {a : AV} (h : CA v a) : v.1 = kd a := by
  rcases CA_k h with ⟨q, x, rfl, -⟩ | ⟨q, A, rfl, -⟩ | ⟨q, rfl, -⟩ | ⟨q, rfl, -⟩ | ⟨q, rfl, -⟩ <;> exact q
theorem RA_set {f f1 : Nat → V3} {g : Nat → Option Nat} {s : Nat → AV} {v1 v2 v3 : Nat} {p : Int32} {y : Nat} {c : AV} {v : V3} (z : zJ v1 v2 v3 g) (h : RA f g s) (hp : vp_in p 32) (gy : g p.toNatClampNeg = some y) (hc : CA v c) (e : f1 = va_up f y v) : RA f1 g (va_up s p.toNatClampNeg c) := fun j hj => by
  by_cases q : j = p.toNatClampNeg
  · subst q
    exact ⟨y, gy, by rw [e, va_up_self, va_up_self]; exact hc⟩
  · obtain ⟨w, e2, cw⟩ := h j hj
    refine ⟨w, e2, ?_⟩
    rw [va_up_ne _ _ q, e, va_up_ne]
    · exact cw
    · intro k
      exact q (z.2.2 j _ hj (vp_j hp) (by rw [e2, gy, k]))
/-- a call that is refused leaves all; else it makes S of the registers -/
def STP (f f' : Nat → V3) (v1 v2 v3 : Nat) (g g' : Nat → Option Nat) (C : Prop) (T : (Nat → AV) → Nat → AV) : Prop := zJ v1 v2 v3 g → zJ v1 v2 v3 g' ∧ ∀ s, RA f g s → (¬ C → RA f' g' s) ∧ (C → RA f' g' (T s))
theorem stp_n {f : Nat → V3} {v1 v2 v3 : Nat} {g : Nat → Option Nat} {C : Prop} {T : (Nat → AV) → Nat → AV} (h : ¬ C) : STP f f v1 v2 v3 g g C T := fun z => ⟨z, fun _ hs => ⟨fun _ => hs, fun q => absurd q h⟩⟩
theorem stp_y {f f' : Nat → V3} {v1 v2 v3 : Nat} {g : Nat → Option Nat} {C : Prop} {T : (Nat → AV) → Nat → AV} (c : C) (h : zJ v1 v2 v3 g → ∀ s, RA f g s → RA f' g (T s)) : STP f f' v1 v2 v3 g g C T := fun z => ⟨z, fun s hs => ⟨fun q => absurd c q, fun _ => h z s hs⟩⟩
def wholeT (p : Int32) (v : Int64) (s : Nat → AV) : Nat → AV := va_up s p.toNatClampNeg (.inl v)
def spA (k : Int32) : AV := if k = 3 then (.inr (.inr .lt)) else if k = 4 then (.inr (.inr .eq)) else (.inr (.inr .gt))
def specT (p k : Int32) (s : Nat → AV) : Nat → AV := va_up s p.toNatClampNeg (spA k)
theorem sp_c {k : Int32} (h1 : ¬ k < 3) (h2 : k ≤ 5) : CA (k, 0, 0) (spA k) := by
  have h3 : (3 : Int32).toInt = 3 := by decide
  have h5 : (5 : Int32).toInt = 5 := by decide
  rw [Int32.lt_iff_toInt_lt, h3] at h1
  rw [Int32.le_iff_toInt_le, h5] at h2
  have : k = 3 ∨ k = 4 ∨ k = 5 := by
    rcases (show k.toInt = 3 ∨ k.toInt = 4 ∨ k.toInt = 5 by omega) with q | q | q
    · left; exact Int32.toInt_inj.mp (by rw [q]; decide)
    · right; left; exact Int32.toInt_inj.mp (by rw [q]; decide)
    · right; right; exact Int32.toInt_inj.mp (by rw [q]; decide)
  rcases this with rfl | rfl | rfl <;> rfl
def real2 (e : Int) : AV → AV
  | .inr (.inl A) => rnd (decide (A < 0)) (A.natAbs * 2 ^ (e + 1200).toNat / 2 ^ 1200) false
  | a => a
def realT (p : Int32) (m : Int64) (e : Int32) (s : Nat → AV) : Nat → AV := va_up s p.toNatClampNeg (real2 e.toInt (rndW m.toInt))
theorem RT_le {T : Nat} {st : Bool} : RT T st ≤ 2 ^ (RG T + 53) := by
  unfold RT
  have h := RF_le (s := T) (d := RG T) (L := BL T) (st := st) BL_lt (by unfold RG; omega)
  have := Nat.mul_le_mul_right (2 ^ RG T) h
  rw [show 9007199254740992 * 2 ^ RG T = 2 ^ (RG T + 53) by rw [Nat.pow_add, Nat.mul_comm]] at this
  exact this
theorem rndW_r (v : Int64) : ∃ A, rndW v.toInt = .inr (.inl A) ∧ ∃ k : Nat, k ≤ 11 ∧ ∃ q : Nat, A.natAbs = q * 2 ^ OFF := by
  have hv := L_rg v
  have hO : OFF = 6000 := rfl
  have hG : GL = 4926 := rfl
  have hb : BL (v.toInt.natAbs * 2 ^ OFF) ≤ 64 + OFF := by
    by_cases h0 : v.toInt.natAbs = 0
    · rw [h0, Nat.zero_mul]; exact Nat.zero_le _
    · rw [BL_mul h0]
      have : BL v.toInt.natAbs ≤ 64 := BL_le (by rw [show (2 : Nat) ^ 64 = 18446744073709551616 by decide]; omega)
      omega
  have hRG : RG (v.toInt.natAbs * 2 ^ OFF) + 53 < 1024 + OFF := by
    unfold RG
    generalize BL (v.toInt.natAbs * 2 ^ OFF) = L at hb ⊢
    omega
  have hR : RT (v.toInt.natAbs * W1) false < TOP := by
    rw [W1_e2]
    have h1 : RT (v.toInt.natAbs * 2 ^ OFF) false ≤ 2 ^ (RG (v.toInt.natAbs * 2 ^ OFF) + 53) := RT_le
    generalize RT (v.toInt.natAbs * 2 ^ OFF) false = a at h1 ⊢
    generalize RG (v.toInt.natAbs * 2 ^ OFF) + 53 = b at h1 hRG
    have h2 : 2 ^ b < 2 ^ (b + 1) := by rw [Nat.pow_succ]; have := Nat.two_pow_pos b; omega
    exact Nat.lt_of_le_of_lt h1 (Nat.lt_of_lt_of_le h2 (le_TOP hRG))
  have hd : ∃ q : Nat, RT (v.toInt.natAbs * W1) false = q * 2 ^ OFF := by
    rw [W1_e2]
    by_cases h0 : v.toInt.natAbs = 0
    · exact ⟨0, by rw [h0, Nat.zero_mul, RT_0]⟩
    · by_cases h1 : max (BL v.toInt.natAbs + OFF - 53) GL ≤ OFF
      · exact ⟨_, RT_e h1⟩
      · obtain ⟨d, hd⟩ : ∃ d, max (BL v.toInt.natAbs + OFF - 53) GL = OFF + d := ⟨max (BL v.toInt.natAbs + OFF - 53) GL - OFF, by omega⟩
        refine ⟨RF v.toInt.natAbs d false * 2 ^ d, ?_⟩
        rw [RT_d (by omega) h0 hd, Nat.pow_add, Nat.mul_assoc, Nat.mul_comm (2 ^ d)]
  obtain ⟨q, hq⟩ := hd
  refine ⟨_, mkR_r hR, 0, by decide, q, ?_⟩
  rw [← hq]
  split <;> omega
theorem real_c {f f1 f2 : Nat → V3} {v1 : Nat} {m n : Int64} {e ex x2 : Int32} (h1 : SRC m 0 → UPD f f1 v1 (rndS m.toInt (0 : Int32).toInt)) (en : n = (f1 v1).2.1) (ee : ex = (f1 v1).2.2) (c1 : ¬ e < -1200) (c2 : e ≤ 1200) (ex2 : x2 = ex + e) (h2 : SRC n x2 → UPD f1 f2 v1 (rndS n.toInt x2.toInt)) : UPD f f2 v1 (real2 e.toInt (rndW m.toInt)) := by
  have u1 := h1 ⟨Or.inr I0, by decide, by decide⟩
  rw [rndS_0] at u1
  obtain ⟨A, hA, -, -, q, hq⟩ := rndW_r m
  rw [hA] at u1 ⊢
  have k := UPD_at u1
  obtain ⟨b1, b2, b3⟩ := CN_e k.2.1
  rw [Int32.lt_iff_toInt_lt, show (-1200 : Int32).toInt = -1200 by decide] at c1
  rw [Int32.le_iff_toInt_le, show (1200 : Int32).toInt = 1200 by decide] at c2
  have hx : x2.toInt = (f1 v1).2.2.toInt + e.toInt := by rw [ex2, ee, I_add] <;> omega
  have u2 := h2 ⟨Or.inl (by rw [en]; omega), by omega, by omega⟩
  refine UPD_2 u1 ?_
  have hO : (OFF : Int) = 6000 := rfl
  have e9 : rndS n.toInt x2.toInt = real2 e.toInt (.inr (.inl A)) := by
    show rnd _ _ _ = rnd _ _ _
    congr 1
    · rw [en]
      have := CA_neg k
      by_cases z : A < 0
      · rw [decide_eq_true z, decide_eq_true (this.mp z)]
      · rw [decide_eq_false z, decide_eq_false (fun w => z (this.mpr w))]
    · rw [CA_abs k, en, Nat.mul_assoc, ← Nat.pow_add, show ((f1 v1).2.2.toInt + (OFF : Int)).toNat + (e.toInt + 1200).toNat = (x2.toInt + (OFF : Int)).toNat + 1200 by omega, Nat.pow_add, ← Nat.mul_assoc, Nat.mul_div_cancel _ (Nat.two_pow_pos 1200)]
  rw [← e9]; exact u2
-- sum, polynomial
def sumN (s : Nat → AV) (b : Nat) : Nat → AV
  | 0 => .inl 0
  | k + 1 => addA 0 (sumN s b k) (s (b + k))
def sumT (t a n : Int32) (s : Nat → AV) : Nat → AV := va_up s t.toNatClampNeg (sumN s a.toNatClampNeg n.toNatClampNeg)
def SMI (f f1 : Nat → V3) (v1 v2 v3 : Nat) (g : Nat → Option Nat) (a i : Int32) : Prop := zJ v1 v2 v3 g → ∀ s, RA f g s → FRM f f1 v1 v2 v3 ∧ CA (f1 v1) (sumN s a.toNatClampNeg i.toNatClampNeg)
theorem smi_0 {f f1 : Nat → V3} {v1 v2 v3 : Nat} {g : Nat → Option Nat} {a : Int32} (h : f1 = va_up f v1 (1, 0, 0)) : SMI f f1 v1 v2 v3 g a 0 := fun _ s _ => by
  have u : UPD f f1 v1 (.inl 0) := ⟨_, h, rfl⟩
  exact ⟨frm_1 u, UPD_at u⟩
theorem clamp_add {a i v : Int32} (ha : 0 ≤ a.toInt) (hi : 0 ≤ i.toInt) (hs : a.toInt + i.toInt < 100) (e : v = a + i) : v.toNatClampNeg = a.toNatClampNeg + i.toNatClampNeg := by
  have h : v.toInt = a.toInt + i.toInt := by rw [e, I_add] <;> omega
  have e1 : v.toNatClampNeg = v.toInt.toNat := rfl
  have e2 : a.toNatClampNeg = a.toInt.toNat := rfl
  have e3 : i.toNatClampNeg = i.toInt.toNat := rfl
  omega
theorem smi_s {f f1 f2 f3 : Nat → V3} {v1 v2 v3 y : Nat} {g : Nat → Option Nat} {a n i i2 w r : Int32} (h : SMI f f1 v1 v2 v3 g a i) (hr : rowOK a n) (hi : 0 ≤ i.toInt) (c : ¬ n ≤ i) (ew : w = a + i) (gy : g w.toNatClampNeg = some y) (hb : f2 = va_up f1 v2 (f1 y)) (ha : r = 0 ∧ (zV v1 v2 v3 → ∀ a b, CA (f2 v1) a → CA (f2 v2) b → CA (f3 v1) (addA 0 a b) ∧ FRM f2 f3 v1 v2 v3)) (ei : i2 = i + Int32.ofInt 1) : SMI f f3 v1 v2 v3 g a i2 := fun z s hs => by
  obtain ⟨fr, ca⟩ := h z s hs
  obtain ⟨r1, r2, r3⟩ := hr
  rw [Int32.le_iff_toInt_le] at c
  have hw : vp_in w 32 := by
    have : w.toInt = a.toInt + i.toInt := by rw [ew, I_add] <;> omega
    exact vp_in_iff.mpr ⟨by omega, by omega⟩
  have cy := RA_at (RA_u z hs fr) hw gy
  rw [clamp_add r1 hi (by omega) ew] at cy
  have u2 : UPD f1 f2 v2 _ := ⟨_, hb, cy⟩
  obtain ⟨k1, k2⟩ := ha.2 z.1 _ _ (by rw [UPD_ne u2 z.1.1]; exact ca) (UPD_at u2)
  have e2 : i2.toNatClampNeg = i.toNatClampNeg + 1 := by
    have h5 : i2.toInt = i.toInt + 1 := by rw [ei, I_add, Io1] <;> (try rw [Io1]) <;> omega
    have e1 : i2.toNatClampNeg = i2.toInt.toNat := rfl
    have e3 : i.toNatClampNeg = i.toInt.toNat := rfl
    omega
  exact ⟨frm_t fr (frm_t (frm_2 u2) k2), by rw [e2]; exact k1⟩
theorem smi_e {f f1 f2 : Nat → V3} {v1 v2 v3 y : Nat} {g : Nat → Option Nat} {t a n i : Int32} (h : SMI f f1 v1 v2 v3 g a i) (ht : vp_in t 32) (hn : i.toNatClampNeg = n.toNatClampNeg) (gy : g t.toNatClampNeg = some y) (e : f2 = va_up f1 y (f1 v1)) : zJ v1 v2 v3 g → ∀ s, RA f g s → RA f2 g (sumT t a n s) := fun z s hs => by
  obtain ⟨fr, ca⟩ := h z s hs
  unfold sumT
  rw [← hn]
  exact RA_put z (RA_u z hs fr) ht gy ca e
def polN (s : Nat → AV) (x b n : Nat) : Nat → AV
  | 0 => .inl 0
  | k + 1 => addA 0 (addA 2 (polN s x b n k) (s x)) (s (b + (n - 1 - k)))
def polT (t x a n : Int32) (s : Nat → AV) : Nat → AV := va_up s t.toNatClampNeg (polN s x.toNatClampNeg a.toNatClampNeg n.toNatClampNeg n.toNatClampNeg)
def PLI (f f1 : Nat → V3) (v1 v2 v3 : Nat) (g : Nat → Option Nat) (x a n i : Int32) : Prop := zJ v1 v2 v3 g → ∀ s, RA f g s → FRM f f1 v1 v2 v3 ∧ ∃ k : Nat, i.toInt = n.toInt - 1 - k ∧ CA (f1 v1) (polN s x.toNatClampNeg a.toNatClampNeg n.toNatClampNeg k)
theorem pli_0 {f f1 : Nat → V3} {v1 v2 v3 : Nat} {g : Nat → Option Nat} {x a n i : Int32} (hr : rowOK a n) (h : f1 = va_up f v1 (1, 0, 0)) (ei : i = n - 1) : PLI f f1 v1 v2 v3 g x a n i := fun _ s _ => by
  have u : UPD f f1 v1 (.inl 0) := ⟨_, h, rfl⟩
  obtain ⟨r1, r2, r3⟩ := hr
  have : i.toInt = n.toInt - 1 := by rw [ei, I_sub, I1] <;> (try rw [I1]) <;> omega
  exact ⟨frm_1 u, 0, by omega, UPD_at u⟩
theorem pli_s {f f1 f2 f3 f4 f5 : Nat → V3} {v1 v2 v3 yx y : Nat} {g : Nat → Option Nat} {x a n i i2 w r r2 : Int32} (h : PLI f f1 v1 v2 v3 g x a n i) (hr : rowOK a n) (hx : vp_in x 32) (hin : i.toInt < n.toInt) (c : ¬ i < 0) (gx : g x.toNatClampNeg = some yx) (hb : f2 = va_up f1 v2 (f1 yx)) (ha : r = 0 ∧ (zV v1 v2 v3 → ∀ a b, CA (f2 v1) a → CA (f2 v2) b → CA (f3 v1) (addA 2 a b) ∧ FRM f2 f3 v1 v2 v3)) (ew : w = a + i) (gy : g w.toNatClampNeg = some y) (hb2 : f4 = va_up f3 v2 (f3 y)) (ha2 : r2 = 0 ∧ (zV v1 v2 v3 → ∀ a b, CA (f4 v1) a → CA (f4 v2) b → CA (f5 v1) (addA 0 a b) ∧ FRM f4 f5 v1 v2 v3)) (ei : i2 = i + Int32.ofInt (-1)) : PLI f f5 v1 v2 v3 g x a n i2 := fun z s hs => by
  obtain ⟨fr, k, hk, ca⟩ := h z s hs
  obtain ⟨r1, r2', r3⟩ := hr
  rw [Int32.lt_iff_toInt_lt, I0] at c
  have hwi : w.toInt = a.toInt + i.toInt := by rw [ew, I_add] <;> omega
  have hw : vp_in w 32 := vp_in_iff.mpr ⟨by omega, by omega⟩
  have cx := RA_at (RA_u z hs fr) hx gx
  have u2 : UPD f1 f2 v2 _ := ⟨_, hb, cx⟩
  obtain ⟨k1, k2⟩ := ha.2 z.1 _ _ (by rw [UPD_ne u2 z.1.1]; exact ca) (UPD_at u2)
  have fr3 := frm_t fr (frm_t (frm_2 u2) k2)
  have cy := RA_at (RA_u z hs fr3) hw gy
  have u4 : UPD f3 f4 v2 _ := ⟨_, hb2, cy⟩
  obtain ⟨k3, k4⟩ := ha2.2 z.1 _ _ (by rw [UPD_ne u4 z.1.1]; exact k1) (UPD_at u4)
  have h5 : i2.toInt = i.toInt - 1 := by rw [ei, I_add, Iom] <;> (try rw [Iom]) <;> omega
  refine ⟨frm_t fr3 (frm_t (frm_2 u4) k4), k + 1, by omega, ?_⟩
  have e9 : w.toNatClampNeg = a.toNatClampNeg + (n.toNatClampNeg - 1 - k) := by
    have e1 : w.toNatClampNeg = w.toInt.toNat := rfl
    have e2 : a.toNatClampNeg = a.toInt.toNat := rfl
    have e3 : n.toNatClampNeg = n.toInt.toNat := rfl
    omega
  rw [e9] at k3
  exact k3
theorem pli_e {f f1 f2 : Nat → V3} {v1 v2 v3 y : Nat} {g : Nat → Option Nat} {t x a n i : Int32} (h : PLI f f1 v1 v2 v3 g x a n i) (hr : rowOK a n) (hin : -1 ≤ i.toInt) (c : i < 0) (ht : vp_in t 32) (gy : g t.toNatClampNeg = some y) (e : f2 = va_up f1 y (f1 v1)) : zJ v1 v2 v3 g → ∀ s, RA f g s → RA f2 g (polT t x a n s) := fun z s hs => by
  obtain ⟨fr, k, hk, ca⟩ := h z s hs
  obtain ⟨r1, r2', r3⟩ := hr
  rw [Int32.lt_iff_toInt_lt, I0] at c
  have e3 : n.toNatClampNeg = n.toInt.toNat := rfl
  have : k = n.toNatClampNeg := by omega
  subst this
  exact RA_put z (RA_u z hs fr) ht gy ca e
-- sort
def swp (s : Nat → AV) (i j : Nat) : Nat → AV := va_up (va_up s i (s j)) j (s i)
def insN (s : Nat → AV) (b : Nat) : Nat → Nat → AV
  | 0 => s
  | k + 1 => if b < k + 1 ∧ befB (s (k + 1)) (s k) = true then insN (swp s (k + 1) k) b k else s
def sortN (s : Nat → AV) (b : Nat) : Nat → Nat → AV
  | 0 => s
  | k + 1 => insN (sortN s b k) b (b + 1 + k)
def sortT (a n : Int32) (s : Nat → AV) : Nat → AV := sortN s a.toNatClampNeg (n.toNatClampNeg - 1)
/-- insert's loop: with the moved one at its place the registers are the swapped ones -/
def INI (f : Nat → V3) (v1 v2 v3 : Nat) (g g1 : Nat → Option Nat) (mv : Nat) (a p x : Int32) : Prop := zJ v1 v2 v3 g → zJ v1 v2 v3 (va_up g1 x.toNatClampNeg (some mv)) ∧ ∀ s, RA f g s → ∃ s1, RA f (va_up g1 x.toNatClampNeg (some mv)) s1 ∧ insN s a.toNatClampNeg p.toNatClampNeg = insN s1 a.toNatClampNeg x.toNatClampNeg
theorem ini_0 {f : Nat → V3} {v1 v2 v3 : Nat} {g : Nat → Option Nat} {mv : Nat} {a p : Int32} (gy : g p.toNatClampNeg = some mv) : INI f v1 v2 v3 g g mv a p p := by
  have e : va_up g p.toNatClampNeg (some mv) = g := by
    funext j
    by_cases q : j = p.toNatClampNeg
    · subst q; rw [va_up_self, gy]
    · rw [va_up_ne _ _ q]
  intro z
  rw [e]
  exact ⟨z, fun s hs => ⟨s, hs, rfl⟩⟩
theorem swp_g {g1 : Nat → Option Nat} {x y mv : Nat} {w : Nat} (hxy : x ≠ y) (gy : g1 y = some w) : va_up (va_up g1 x (some w)) y (some mv) = fun j => (va_up g1 x (some mv)) (if j = x then y else if j = y then x else j) := by
  funext j
  by_cases q1 : j = y
  · subst q1
    rw [va_up_self, ifn (Ne.symm hxy), ifp rfl, va_up_self]
  · by_cases q2 : j = x
    · subst q2
      rw [va_up_ne _ _ q1, va_up_self, ifp rfl, va_up_ne _ _ (Ne.symm hxy), gy]
    · rw [va_up_ne _ _ q1, va_up_ne _ _ q2, ifn q2, ifn q1, va_up_ne _ _ q2]
theorem swp_s {s : Nat → AV} {x y : Nat} (hxy : x ≠ y) : swp s x y = fun j => s (if j = x then y else if j = y then x else j) := by
  funext j
  unfold swp
  by_cases q1 : j = y
  · subst q1
    rw [va_up_self, ifn (Ne.symm hxy), ifp rfl]
  · by_cases q2 : j = x
    · subst q2
      rw [va_up_ne _ _ q1, va_up_self, ifp rfl]
    · rw [va_up_ne _ _ q1, va_up_ne _ _ q2, ifn q2, ifn q1]
theorem ini_s {f : Nat → V3} {v1 v2 v3 : Nat} {g g1 g2 : Nat → Option Nat} {mv w w2 : Nat} {a p x y y2 x2 r : Int32} (h : INI f v1 v2 v3 g g1 mv a p x) (h1 : 0 ≤ a.toInt) (h3 : p.toInt < 32) (h4 : x.toInt ≤ p.toInt) (c : ¬ x ≤ a) (ey : y = x - 1) (gw : g1 y.toNatClampNeg = some w) (hb : ∀ a b, CA (f mv) a → CA (f w) b → (r = 1 ∧ BEF a b ∨ r = 0 ∧ ¬ BEF a b)) (cr : ¬ r = 0) (ey2 : y2 = x - 1) (gw2 : g1 y2.toNatClampNeg = some w2) (e2 : g2 = va_up g1 x.toNatClampNeg (some w2)) (ex : x2 = x + Int32.ofInt (-1)) : INI f v1 v2 v3 g g2 mv a p x2 := fun z => by
  obtain ⟨z1, h⟩ := h z
  rw [Int32.le_iff_toInt_le] at c
  have hy : y.toInt = x.toInt - 1 := by rw [ey, I_sub, I1] <;> (try rw [I1]) <;> omega
  have hy2 : y2.toInt = x.toInt - 1 := by rw [ey2, I_sub, I1] <;> (try rw [I1]) <;> omega
  have hx2 : x2.toInt = x.toInt - 1 := by rw [ex, I_add, Iom] <;> (try rw [Iom]) <;> omega
  obtain ⟨k, hk⟩ : ∃ k : Nat, x.toInt = (k : Int) + 1 := ⟨(x.toInt - 1).toNat, by omega⟩
  have c1 : x.toNatClampNeg = k + 1 := by have : x.toNatClampNeg = x.toInt.toNat := rfl; omega
  have c2 : y.toNatClampNeg = k := by have : y.toNatClampNeg = y.toInt.toNat := rfl; omega
  have c3 : y2.toNatClampNeg = k := by have : y2.toNatClampNeg = y2.toInt.toNat := rfl; omega
  have c4 : x2.toNatClampNeg = k := by have : x2.toNatClampNeg = x2.toInt.toNat := rfl; omega
  have ca : a.toNatClampNeg = a.toInt.toNat := rfl
  rw [c2] at gw
  rw [c3, gw] at gw2
  cases gw2
  rw [c1] at z1 h e2
  rw [c4, e2]
  have hne : k + 1 ≠ k := by omega
  have eg := swp_g (g1 := g1) (mv := mv) hne gw
  rw [eg]
  have perm : ∀ j, j < 32 → (if j = k + 1 then k else if j = k then k + 1 else j) < 32 := fun j hj => by split <;> (try split) <;> omega
  have pinj : ∀ i j : Nat, (if i = k + 1 then k else if i = k then k + 1 else i) = (if j = k + 1 then k else if j = k then k + 1 else j) → i = j := fun i j q => by
    split at q <;> split at q <;> (try split at q) <;> (try split at q) <;> omega
  refine ⟨⟨z1.1, fun j y hj e => z1.2.1 _ y (perm j hj) e, fun i j hi hj e => pinj i j (z1.2.2 _ _ (perm i hi) (perm j hj) e)⟩, fun s hs => ?_⟩
  obtain ⟨s1, rs, es⟩ := h s hs
  refine ⟨swp s1 (k + 1) k, ?_, ?_⟩
  · rw [swp_s hne]
    intro j hj
    exact rs _ (perm j hj)
  · have cm : CA (f mv) (s1 (k + 1)) := by
      obtain ⟨y9, e9, c9⟩ := rs (k + 1) (by omega)
      rw [va_up_self] at e9
      cases e9; exact c9
    have cw' : CA (f w) (s1 k) := by
      obtain ⟨y9, e9, c9⟩ := rs k (by omega)
      rw [va_up_ne _ _ (by omega), gw] at e9
      cases e9; exact c9
    have hB : befB (s1 (k + 1)) (s1 k) = true := by
      rcases hb _ _ cm cw' with ⟨-, q⟩ | ⟨q, -⟩
      · exact bef_iff.mp q
      · exact absurd q cr
    rw [es]
    show (if a.toNatClampNeg < k + 1 ∧ _ then _ else _) = _
    rw [ifp ⟨by omega, hB⟩]
theorem ini_e {f : Nat → V3} {v1 v2 v3 : Nat} {g g1 g2 : Nat → Option Nat} {mv : Nat} {a p x : Int32} (h : INI f v1 v2 v3 g g1 mv a p x) (h1 : 0 ≤ a.toInt) (h3 : p.toInt < 32) (h4 : x.toInt ≤ p.toInt) (hc : x ≤ a ∨ ∃ (y r : Int32) (w : Nat), ¬ x ≤ a ∧ y = x - 1 ∧ g1 y.toNatClampNeg = some w ∧ (∀ a b, CA (f mv) a → CA (f w) b → (r = 1 ∧ BEF a b ∨ r = 0 ∧ ¬ BEF a b)) ∧ r = 0) (hax : a.toInt ≤ x.toInt) (e2 : g2 = va_up g1 x.toNatClampNeg (some mv)) : zJ v1 v2 v3 g → zJ v1 v2 v3 g2 ∧ ∀ s, RA f g s → RA f g2 (insN s a.toNatClampNeg p.toNatClampNeg) := fun z => by
  obtain ⟨z1, h⟩ := h z
  rw [e2]
  refine ⟨z1, fun s hs => ?_⟩
  obtain ⟨s1, rs, es⟩ := h s hs
  rw [es]
  have ca : a.toNatClampNeg = a.toInt.toNat := rfl
  have cx : x.toNatClampNeg = x.toInt.toNat := rfl
  have fin : insN s1 a.toNatClampNeg x.toNatClampNeg = s1 := by
    rcases hc with q | ⟨y, r, w, q, ey, gw, hb, cr⟩
    · rw [Int32.le_iff_toInt_le] at q
      have : x.toNatClampNeg = a.toNatClampNeg := by omega
      rw [this]
      generalize a.toNatClampNeg = n
      cases n with
      | zero => rfl
      | succ n =>
        show (if n + 1 < n + 1 ∧ _ then _ else _) = _
        rw [ifn (by rintro ⟨q, -⟩; omega)]
    · rw [Int32.le_iff_toInt_le] at q
      have hy : y.toInt = x.toInt - 1 := by rw [ey, I_sub, I1] <;> (try rw [I1]) <;> omega
      obtain ⟨k, hk⟩ : ∃ k : Nat, x.toInt = (k : Int) + 1 := ⟨(x.toInt - 1).toNat, by omega⟩
      have c1 : x.toNatClampNeg = k + 1 := by omega
      have c2 : y.toNatClampNeg = k := by have : y.toNatClampNeg = y.toInt.toNat := rfl; omega
      rw [c2] at gw
      rw [c1] at rs ⊢
      have cm : CA (f mv) (s1 (k + 1)) := by
        obtain ⟨y9, e9, c9⟩ := rs (k + 1) (by omega)
        rw [va_up_self] at e9
        cases e9; exact c9
      have cw' : CA (f w) (s1 k) := by
        obtain ⟨y9, e9, c9⟩ := rs k (by omega)
        rw [va_up_ne _ _ (by omega), gw] at e9
        cases e9; exact c9
      have hB : ¬ befB (s1 (k + 1)) (s1 k) = true := by
        rcases hb _ _ cm cw' with ⟨w, -⟩ | ⟨-, w⟩
        · rw [w] at cr; exact absurd cr (by decide)
        · exact fun u => w (bef_iff.mpr u)
      show (if a.toNatClampNeg < k + 1 ∧ _ then _ else _) = _
      rw [ifn (fun u => hB u.2)]
  rw [fin]; exact rs
def SRI (f f1 : Nat → V3) (v1 v2 v3 : Nat) (g g1 : Nat → Option Nat) (a i : Int32) : Prop := zJ v1 v2 v3 g → zJ v1 v2 v3 g1 ∧ ∀ s, RA f g s → ∃ k : Nat, i.toInt = a.toInt + 1 + k ∧ RA f1 g1 (sortN s a.toNatClampNeg k)
theorem sri_0 {f : Nat → V3} {v1 v2 v3 : Nat} {g : Nat → Option Nat} {a n i : Int32} (hr : rowOK a n) (e : i = a + 1) : SRI f f v1 v2 v3 g g a i := fun z => ⟨z, fun s hs => by
  obtain ⟨r1, r2, r3⟩ := hr
  have : i.toInt = a.toInt + 1 := by rw [e, I_add, I1] <;> (try rw [I1]) <;> omega
  exact ⟨0, by omega, hs⟩⟩
theorem sri_s {f f1 : Nat → V3} {v1 v2 v3 : Nat} {g g1 g2 : Nat → Option Nat} {a n i i2 b : Int32} (h : SRI f f1 v1 v2 v3 g g1 a i) (hr : rowOK a n) (hb : b = a + n) (c : ¬ b ≤ i) (h2 : zJ v1 v2 v3 g1 → zJ v1 v2 v3 g2 ∧ ∀ s, RA f1 g1 s → RA f1 g2 (insN s a.toNatClampNeg i.toNatClampNeg)) (e : i2 = i + Int32.ofInt 1) : SRI f f1 v1 v2 v3 g g2 a i2 := fun z => by
  obtain ⟨z1, h⟩ := h z
  obtain ⟨z2, h2⟩ := h2 z1
  obtain ⟨r1, r2, r3⟩ := hr
  refine ⟨z2, fun s hs => ?_⟩
  obtain ⟨k, hk, ra⟩ := h s hs
  have hb' : b.toInt = a.toInt + n.toInt := by rw [hb, I_add] <;> omega
  rw [Int32.le_iff_toInt_le, hb'] at c
  have hi2 : i2.toInt = i.toInt + 1 := by rw [e, I_add, Io1] <;> (try rw [Io1]) <;> omega
  refine ⟨k + 1, by omega, ?_⟩
  have e1 : i.toNatClampNeg = a.toNatClampNeg + 1 + k := by
    have : i.toNatClampNeg = i.toInt.toNat := rfl
    have : a.toNatClampNeg = a.toInt.toNat := rfl
    omega
  have := h2 _ ra
  rw [e1] at this
  exact this
theorem sri_e {f f1 : Nat → V3} {v1 v2 v3 : Nat} {g g1 : Nat → Option Nat} {a n i b : Int32} (h : SRI f f1 v1 v2 v3 g g1 a i) (hr : rowOK a n) (hb : b = a + n) (c : b ≤ i) (hi : i.toInt ≤ max (a.toInt + 1) (a.toInt + n.toInt)) : STP f f1 v1 v2 v3 g g1 (rowOK a n) (sortT a n) := fun z => by
  obtain ⟨z1, h⟩ := h z
  refine ⟨z1, fun s hs => ⟨fun q => absurd hr q, fun _ => ?_⟩⟩
  obtain ⟨k, hk, ra⟩ := h s hs
  obtain ⟨r1, r2, r3⟩ := hr
  have hb' : b.toInt = a.toInt + n.toInt := by rw [hb, I_add] <;> omega
  rw [Int32.le_iff_toInt_le, hb'] at c
  have e1 : n.toNatClampNeg = n.toInt.toNat := rfl
  unfold sortT
  rw [show n.toNatClampNeg - 1 = k by omega]; exact ra
-- compare, kind
theorem cv_x {p : Int32} {a b : AV} (h : a = (.inr (.inr .gt)) ∨ b = (.inr (.inr .gt))) : 0 = cmpV p a b := by
  unfold cmpV
  rw [ifp]
  rcases h with q | q
  · left; exact isx_t.mpr q
  · right; exact isx_t.mpr q
theorem cv_n {p r : Int32} {a b : AV} (t : Int32) (ha : a ≠ (.inr (.inr .gt))) (hb : b ≠ (.inr (.inr .gt))) (h : SG (ordv a b) r) (hc : (r = 0 ∧ ((¬ p = 1 ∧ t = 1) ∨ (p = 1 ∧ t = 0))) ∨ (¬ r = 0 ∧ ((0 ≤ r ∧ t = 0) ∨ (¬ 0 ≤ r ∧ p = 0 ∧ t = 0) ∨ (¬ 0 ≤ r ∧ ¬ p = 0 ∧ t = 1)))) : t = cmpV p a b := by
  unfold cmpV
  rw [ifn (by rintro (q | q); exact ha (isx_t.mp q); exact hb (isx_t.mp q))]
  rcases h with ⟨rfl, y⟩ | ⟨rfl, y⟩ | ⟨rfl, y⟩
  · rw [ifn (by omega)]
    rcases hc with ⟨q, -⟩ | ⟨-, ⟨q, -⟩ | ⟨-, q, z⟩ | ⟨-, q, z⟩⟩
    · exact absurd q (by decide)
    · exact absurd q (by decide)
    · rw [ifn (by rintro ⟨-, w⟩; exact w q)]; exact z
    · rw [ifp ⟨y, q⟩]; exact z
  · rw [ifp y]
    rcases hc with ⟨-, ⟨q, z⟩ | ⟨q, z⟩⟩ | ⟨q, -⟩
    · rw [ifn q]; exact z
    · rw [ifp q]; exact z
    · exact absurd rfl q
  · rw [ifn (by omega), ifn (by rintro ⟨w, -⟩; omega)]
    rcases hc with ⟨q, -⟩ | ⟨-, ⟨-, z⟩ | ⟨q, -⟩ | ⟨q, -⟩⟩
    · exact absurd q (by decide)
    · exact z
    · exact absurd (by decide) q
    · exact absurd (by decide) q
def CPR (f : Nat → V3) (g : Nat → Option Nat) (p1 p2 p3 r : Int32) : Prop := ∀ s, RA f g s → (¬ CPC p1 p2 p3 → r = -1) ∧ (CPC p1 p2 p3 → r = cmpV p1 (s p2.toNatClampNeg) (s p3.toNatClampNeg))
theorem cpr_n {f : Nat → V3} {g : Nat → Option Nat} {p1 p2 p3 : Int32} (h : ¬ CPC p1 p2 p3) : CPR f g p1 p2 p3 (-1) := fun _ _ => ⟨fun _ => rfl, fun q => absurd q h⟩
theorem cpr_y {f : Nat → V3} {g : Nat → Option Nat} {p1 p2 p3 r : Int32} {ya yb : Nat} (hc : CPC p1 p2 p3) (ga : g p2.toNatClampNeg = some ya) (gb : g p3.toNatClampNeg = some yb) (h : ∀ a b, CA (f ya) a → CA (f yb) b → r = cmpV p1 a b) : CPR f g p1 p2 p3 r := fun s hs => ⟨fun q => absurd hc q, fun _ => h _ _ (RA_at hs hc.1 ga) (RA_at hs hc.2.1 gb)⟩
def KDR (f : Nat → V3) (g : Nat → Option Nat) (p r : Int32) : Prop := ∀ s, RA f g s → (¬ vp_in p 32 → r = -1) ∧ (vp_in p 32 → r = kd (s p.toNatClampNeg))
theorem kdr_n {f : Nat → V3} {g : Nat → Option Nat} {p : Int32} (h : ¬ vp_in p 32) : KDR f g p (-1) := fun _ _ => ⟨fun _ => rfl, fun q => absurd q h⟩
theorem kdr_y {f : Nat → V3} {g : Nat → Option Nat} {p r : Int32} {y : Nat} (h : vp_in p 32) (gy : g p.toNatClampNeg = some y) (e : r = (f y).1) : KDR f g p r := fun s hs => ⟨fun q => absurd h q, fun _ => by rw [e, CA_kd (RA_at hs h gy)]⟩
theorem inc_le {n i v : Int32} (hi : 0 ≤ i.toInt) (c : ¬ n ≤ i) (e : v = i + Int32.ofInt 1) : v.toInt ≤ n.toInt := by
  rw [Int32.le_iff_toInt_le] at c
  have hn := I_rg n
  have : v.toInt = i.toInt + 1 := by rw [e, I_add, Io1] <;> (try rw [Io1]) <;> omega
  omega
theorem row_n {a n : Int32} (h : rowOK a n) : (0 : Int32).toInt ≤ n.toInt := by rw [I0]; exact h.2.1
theorem clamp_e {n i : Int32} (h : i.toInt ≤ n.toInt) (c : n ≤ i) : i.toNatClampNeg = n.toNatClampNeg := by
  rw [Int32.le_iff_toInt_le] at c
  have e1 : i.toNatClampNeg = i.toInt.toNat := rfl
  have e2 : n.toNatClampNeg = n.toInt.toNat := rfl
  omega
theorem dec_m1 {i v : Int32} (c : ¬ i < 0) (e : v = i + Int32.ofInt (-1)) : -1 ≤ v.toInt := by
  rw [Int32.lt_iff_toInt_lt, I0] at c
  have hi := I_rg i
  have : v.toInt = i.toInt - 1 := by rw [e, I_add, Iom] <;> (try rw [Iom]) <;> omega
  omega
theorem pol_m1 {a n i : Int32} (h : rowOK a n) (e : i = n - 1) : -1 ≤ i.toInt := by
  obtain ⟨r1, r2, r3⟩ := h
  have : i.toInt = n.toInt - 1 := by rw [e, I_sub, I1] <;> (try rw [I1]) <;> omega
  omega
theorem srt_k {a n i b v : Int32} (h : rowOK a n) (hb : b = a + n) (c : ¬ b ≤ i) (e : v = i + Int32.ofInt 1) : v.toInt ≤ max (a.toInt + 1) (a.toInt + n.toInt) := by
  obtain ⟨r1, r2, r3⟩ := h
  have hb' : b.toInt = a.toInt + n.toInt := by rw [hb, I_add] <;> omega
  rw [Int32.le_iff_toInt_le, hb'] at c
  have hi := I_rg i
  have : v.toInt = i.toInt + 1 := by rw [e, I_add, Io1] <;> (try rw [Io1]) <;> omega
  omega
theorem srt_k0 {a n v : Int32} (h : rowOK a n) (e : v = a + 1) : v.toInt ≤ max (a.toInt + 1) (a.toInt + n.toInt) := by
  obtain ⟨r1, r2, r3⟩ := h
  have : v.toInt = a.toInt + 1 := by rw [e, I_add, I1] <;> (try rw [I1]) <;> omega
  omega
end
