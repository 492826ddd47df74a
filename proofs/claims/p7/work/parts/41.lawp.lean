theorem eq_ok {c : Prop} {r r2 : Int32} (h1 : (c → r = 1) ∧ (¬ c → r = 0)) (h2 : (c → r2 = 1) ∧ (¬ c → r2 = 0)) : r = r2 := by
  by_cases h : c
  · rw [h1.1 h, h2.1 h]
  · rw [h1.2 h, h2.2 h]
theorem lw_L {L : Nat} (hL : L ≤ 2560) : (Int32.ofNat L).toInt = L := nI_toInt (n := L) (by omega)
theorem lw_i {L : Nat} {v x : Int32} (hL : L ≤ 2560) (e : v = Int32.ofNat L - 5) (c : ¬ v < x) : x.toInt + 5 ≤ L := by
  have h1 := lw_L hL
  have h5 : (5 : Int32).toInt = 5 := by decide
  rw [Int32.lt_iff_toInt_lt, e, I_sub, h1, h5] at c <;> (try rw [h1, h5]) <;> omega
theorem lw_i0 {L : Nat} {x : Int32} (h0 : 0 ≤ x.toInt ∧ x.toInt ≤ L) (h : x.toInt + 5 ≤ L) : vp_in x L := vp_in_iff.mpr ⟨by omega, by omega⟩
theorem lw_ix {L : Nat} {v x : Int32} (k : Int32) (hL : L ≤ 2560) (h0 : 0 ≤ x.toInt ∧ x.toInt ≤ L) (h : x.toInt + 5 ≤ L) (hk : 0 ≤ k.toInt ∧ k.toInt ≤ 4) (e : v = x + k) : vp_in v L := by
  have : v.toInt = x.toInt + k.toInt := by rw [e, I_add] <;> omega
  exact vp_in_iff.mpr ⟨by omega, by omega⟩
theorem lw_n {L : Nat} {y x : Int32} (hL : L ≤ 2560) (h0 : 0 ≤ x.toInt ∧ x.toInt ≤ L) (h : x.toInt + 5 ≤ L) (e : y = x + Int32.ofInt 5) : (0 ≤ y.toInt ∧ y.toInt ≤ L) ∧ (L - y.toInt).toNat < (L - x.toInt).toNat := by
  have h5 : (Int32.ofInt 5).toInt = 5 := by decide
  have : y.toInt = x.toInt + 5 := by rw [e, I_add, h5] <;> rw [h5] <;> omega
  omega
theorem AK_0 {K : Nat → Int32} {N : Nat → Int64} {E : Nat → Int32} (h : ∀ j, j < 32 → K j = 1) : AK K N E := fun j hj => Or.inl (h j hj)
section ZW
variable {l : Launch} {D : va_G} {own : String} {cc : ByteArray} {nL : Nat} {ret : Option FieldType} {Ts : List Cond} {R : Room} {mc ms : Nat} {post : zP} {isI : Bool} {Z : zZ}
variable {k n pc : Nat} {tys : zT} {lv : List (Nat × Value)} {st : List Value} {x0 ra v1 v2 v3 : Nat} {cR : ClassId} {g : Nat → Option Nat} {W : va_W} {LP : List Nat} {f : Nat → V3}
theorem z_toM (hZ : zI l D vwCl zNF zNM own cc nL ret Ts R mc ms post isI Z) (kk : Z k n tys pc lv st (W ++ (CX x0 ra v1 v2 v3 cR g [] ++ PL LP f))) : Z k n tys pc lv st (CX x0 ra v1 v2 v3 cR g W ++ PL LP f) := by
  refine z_perm hZ (a := CX x0 ra v1 v2 v3 cR g []) (b := W) (c := PL LP f) ?_
  rw [List.append_assoc]
  exact kk
theorem z_toC (hZ : zI l D vwCl zNF zNM own cc nL ret Ts R mc ms post isI Z) (kk : Z k n tys pc lv st (CX x0 ra v1 v2 v3 cR g W ++ PL LP f)) : Z k n tys pc lv st (W ++ (CX x0 ra v1 v2 v3 cR g [] ++ PL LP f)) := by
  rw [← List.append_assoc]
  exact z_perm hZ (a := W) (b := CX x0 ra v1 v2 v3 cR g []) (c := PL LP f) kk
end ZW
theorem lw_00 {L : Nat} : 0 ≤ (0 : Int32).toInt ∧ (0 : Int32).toInt ≤ (L : Int) := by
  rw [I0]
  omega
theorem lw_ne {L : Nat} {y x : Int32} (hL : L ≤ 2560) (h0 : 0 ≤ x.toInt ∧ x.toInt ≤ (L : Int)) (h : x.toInt + 5 ≤ L) (e : y = x + Int32.ofInt 5) : ¬ y = 0 := fun q => by
  have h5 : (Int32.ofInt 5).toInt = 5 := by decide
  have : y.toInt = x.toInt + 5 := by rw [e, I_add, h5] <;> rw [h5] <;> omega
  rw [q, I0] at this
  omega
theorem lw_z {L : Nat} {x : Int32} (hL : L ≤ 5) (h0 : 0 ≤ x.toInt ∧ x.toInt ≤ (L : Int)) (h : x.toInt + 5 ≤ L) : x = 0 := by
  rw [← Int32.toInt_inj, I0]
  omega
def SIM (v1 v2 v3 : Nat) (f : Nat → V3) (g : Nat → Option Nat) (K : Nat → Int32) (N : Nat → Int64) (E : Nat → Int32) : Prop := zJ v1 v2 v3 g ∧ ∃ s, RA f g s ∧ RMs K N E s
theorem RA_ok {f : Nat → V3} {g : Nat → Option Nat} {s : Nat → AV} (h : RA f g s) : okS s := fun j hj => by
  obtain ⟨y, -, q⟩ := h j hj
  exact CA_ok q
section SW
variable {v1 v2 v3 : Nat} {f f' : Nat → V3} {g g' : Nat → Option Nat} {K K' : Nat → Int32} {N N' : Nat → Int64} {E E' : Nat → Int32}
theorem SIM_0 {LP : List Nat} (hJ : zJ v1 v2 v3 g) (hH : zH LP v1 v2 v3 g) (hf : ∀ a ∈ LP, f a = (1, 0, 0)) (hK : ∀ j, j < 32 → K j = 1) : SIM v1 v2 v3 f g K (fun _ => 0) (fun _ => 0) := by
  refine ⟨hJ, fun _ => .inl 0, fun j hj => ?_, fun j hj => ?_⟩
  · obtain ⟨y, h1, h2⟩ := hH.2.2.2 j hj
    exact ⟨y, h2, by rw [hf y h1]; exact (rfl : ((1, 0, 0) : V3) = (1, 0, 0))⟩
  · rw [hK j hj]; exact ⟨rfl, rfl, rfl⟩
theorem SIM_st {C : Prop} {T : (Nat → AV) → Nat → AV} (h : SIM v1 v2 v3 f g K N E) (c : STP f f' v1 v2 v3 g g' C T) (m : STM K N E K' N' E' C T) : SIM v1 v2 v3 f' g' K' N' E' := by
  obtain ⟨hJ, s, hA, hM⟩ := h
  obtain ⟨hJ', q⟩ := c hJ
  have ok := RA_ok hA
  by_cases hC : C
  · exact ⟨hJ', T s, (q s hA).2 hC, (m s ok hM).2 hC⟩
  · exact ⟨hJ', s, (q s hA).1 hC, (m s ok hM).1 hC⟩
theorem SIM_op {p1 p2 p3 p4 r r' : Int32} (h : SIM v1 v2 v3 f g K N E) (c : OPR f f' v1 v2 v3 g p1 p2 p3 p4 r) (m : OPRm K N E K' N' E' p1 p2 p3 p4 r') : SIM v1 v2 v3 f' g K' N' E' := by
  obtain ⟨hJ, s, hA, hM⟩ := h
  have q := c hJ s hA
  have q2 := m s hM
  by_cases hC : OPC p1 p2 p3 p4
  · exact ⟨hJ, _, (q.2 hC).2, (q2.2 hC).2⟩
  · exact ⟨hJ, s, (q.1 hC).2, (q2.1 hC).2⟩
theorem op_eq {p1 p2 p3 p4 r r' : Int32} (h : SIM v1 v2 v3 f g K N E) (c : OPR f f' v1 v2 v3 g p1 p2 p3 p4 r) (m : OPRm K N E K' N' E' p1 p2 p3 p4 r') : r = r' := by
  obtain ⟨hJ, s, hA, hM⟩ := h
  have q := c hJ s hA
  have q2 := m s hM
  by_cases hC : OPC p1 p2 p3 p4
  · rw [(q.2 hC).1, (q2.2 hC).1]
  · rw [(q.1 hC).1, (q2.1 hC).1]
theorem cp_eq {p1 p2 p3 r r' : Int32} (h : SIM v1 v2 v3 f g K N E) (c : CPR f g p1 p2 p3 r) (m : CPRm K N E p1 p2 p3 r') : r = r' := by
  obtain ⟨hJ, s, hA, hM⟩ := h
  have q := c s hA
  have q2 := m s (RA_ok hA) hM
  by_cases hC : CPC p1 p2 p3
  · rw [q.2 hC, q2.2 hC]
  · rw [q.1 hC, q2.1 hC]
theorem kd_eq {p r r' : Int32} (h : SIM v1 v2 v3 f g K N E) (c : KDR f g p r) (m : KDM K N E p r') : r = r' := by
  obtain ⟨hJ, s, hA, hM⟩ := h
  have q := c s hA
  have q2 := m s hM
  by_cases hC : vp_in p 32
  · rw [q.2 hC, q2.2 hC]
  · rw [q.1 hC, q2.1 hC]
end SW
