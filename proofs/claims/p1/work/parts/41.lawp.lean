theorem eq_ok {c : Prop} {r r2 : Int32} (h1 : (c → r = 1) ∧ (¬ c → r = 0)) (h2 : (c → r2 = 1) ∧ (¬ c → r2 = 0)) : r = r2 := by
  by_cases h : c
  · rw [h1.1 h, h2.1 h]
  · rw [h1.2 h, h2.2 h]
theorem lw_L {L : Nat} (hL : L ≤ 2560) : (Int32.ofNat L).toInt = L := nI_toInt (n := L) (by omega)
theorem lw_i {L : Nat} {v x : Int32} (hL : L ≤ 2560) (e : v = Int32.ofNat L - 5) (c : ¬ v < x) : x.toInt + 5 ≤ L := by
  have h1 := lw_L hL
  have h5 : (5 : Int32).toInt = 5 := by decide
  rw [Int32.lt_iff_toInt_lt, e, I_sub, h1, h5] at c <;> (try rw [h1, h5]) <;> omega
theorem lw_i0 {L : Nat} {x : Int32} (h0 : 0 ≤ x.toInt ∧ x.toInt ≤ L) (h : x.toInt + 5 ≤ L) : vp_in x L := vp_in_iff.mpr ⟨by omega, by omega⟩
theorem lw_ix {L : Nat} {v x : Int32} (k : Int32) (hL : L ≤ 2560) (h0 : 0 ≤ x.toInt ∧ x.toInt ≤ L) (h : x.toInt + 5 ≤ L) (hk : 0 ≤ k.toInt ∧ k.toInt ≤ 4) (e : v = x + k) : vp_in v L := by
  have : v.toInt = x.toInt + k.toInt := by rw [e, I_add] <;> omega
  exact vp_in_iff.mpr ⟨by omega, by omega⟩
theorem lw_n {L : Nat} {y x : Int32} (hL : L ≤ 2560) (h0 : 0 ≤ x.toInt ∧ x.toInt ≤ L) (h : x.toInt + 5 ≤ L) (e : y = x + Int32.ofInt 5) : (0 ≤ y.toInt ∧ y.toInt ≤ L) ∧ (L - y.toInt).toNat < (L - x.toInt).toNat := by
  have h5 : (Int32.ofInt 5).toInt = 5 := by decide
  have : y.toInt = x.toInt + 5 := by rw [e, I_add, h5] <;> rw [h5] <;> omega
  omega
theorem AK_0 {K : Nat → Int32} {N : Nat → Int64} {E : Nat → Int32} (h : ∀ j, j < 32 → K j = 1) : AK K N E := fun j hj => Or.inl (h j hj)
section ZW
variable {l : Launch} {D : va_G} {own : String} {cc : ByteArray} {nL : Nat} {ret : Option FieldType} {Ts : List Cond} {R : Room} {mc ms : Nat} {post : zP} {isI : Bool} {Z : zZ}
variable {k n pc : Nat} {tys : zT} {lv : List (Nat × Value)} {st : List Value} {x0 ra v1 v2 v3 : Nat} {cR : ClassId} {g : Nat → Option Nat} {W : va_W} {LP : List Nat} {f : Nat → V3}
theorem z_toM (hZ : zI l D vwCl zNF zNM own cc nL ret Ts R mc ms post isI Z) (kk : Z k n tys pc lv st (W ++ (CX x0 ra v1 v2 v3 cR g [] ++ PL LP f))) : Z k n tys pc lv st (CX x0 ra v1 v2 v3 cR g W ++ PL LP f) := by
  refine z_perm hZ (a := CX x0 ra v1 v2 v3 cR g []) (b := W) (c := PL LP f) ?_
  rw [List.append_assoc]
  exact kk
theorem z_toC (hZ : zI l D vwCl zNF zNM own cc nL ret Ts R mc ms post isI Z) (kk : Z k n tys pc lv st (CX x0 ra v1 v2 v3 cR g W ++ PL LP f)) : Z k n tys pc lv st (W ++ (CX x0 ra v1 v2 v3 cR g [] ++ PL LP f)) := by
  rw [← List.append_assoc]
  exact z_perm hZ (a := W) (b := CX x0 ra v1 v2 v3 cR g []) (c := PL LP f) kk
end ZW
theorem lw_00 {L : Nat} : 0 ≤ (0 : Int32).toInt ∧ (0 : Int32).toInt ≤ (L : Int) := by
  rw [I0]
  omega
theorem lw_ne {L : Nat} {y x : Int32} (hL : L ≤ 2560) (h0 : 0 ≤ x.toInt ∧ x.toInt ≤ (L : Int)) (h : x.toInt + 5 ≤ L) (e : y = x + Int32.ofInt 5) : ¬ y = 0 := fun q => by
  have h5 : (Int32.ofInt 5).toInt = 5 := by decide
  have : y.toInt = x.toInt + 5 := by rw [e, I_add, h5] <;> rw [h5] <;> omega
  rw [q, I0] at this
  omega
theorem lw_z {L : Nat} {x : Int32} (hL : L ≤ 5) (h0 : 0 ≤ x.toInt ∧ x.toInt ≤ (L : Int)) (h : x.toInt + 5 ≤ L) : x = 0 := by
  rw [← Int32.toInt_inj, I0]
  omega
theorem kind_eq {LP : List Nat} {f : Nat → V3} {g : Nat → Option Nat} {K : Nat → Int32} {N : Nat → Int64} {E : Nat → Int32} {p r s : Int32} (h : (¬ vp_in p 32 → r = -1) ∧ (vp_in p 32 → KV LP f g p (fun v => r = v.1))) (h2 : (¬ vp_in p 32 → s = -1) ∧ (vp_in p 32 → s = K p.toNatClampNeg)) (z : FZ LP f) (z2 : RZ K N E) : r = s := by
  by_cases q : vp_in p 32
  · rw [h2.2 q, (z2 _ (vp_j q)).1]; exact kv_z (h.2 q) z
  · rw [h.1 q, h2.1 q]
theorem number_eq {LP : List Nat} {f : Nat → V3} {g : Nat → Option Nat} {K : Nat → Int32} {N : Nat → Int64} {E : Nat → Int32} {p : Int32} {r s : Int64} (h : (¬ vp_in p 32 → r = 0) ∧ (vp_in p 32 → KV LP f g p (fun v => r = v.2.1))) (h2 : (¬ vp_in p 32 → s = 0) ∧ (vp_in p 32 → (K p.toNatClampNeg < 3 → s = N p.toNatClampNeg) ∧ (¬ K p.toNatClampNeg < 3 → s = 0))) (z : FZ LP f) (z2 : RZ K N E) : r = s := by
  by_cases q : vp_in p 32
  · rw [(h2.2 q).1 (by rw [(z2 _ (vp_j q)).1]; decide), (z2 _ (vp_j q)).2.1]; exact kv_z (h.2 q) z
  · rw [h.1 q, h2.1 q]
theorem exponent_eq {LP : List Nat} {f : Nat → V3} {g : Nat → Option Nat} {K : Nat → Int32} {N : Nat → Int64} {E : Nat → Int32} {p r s : Int32} (h : (¬ vp_in p 32 → r = 0) ∧ (vp_in p 32 → KV LP f g p (fun v => r = v.2.2))) (h2 : (¬ vp_in p 32 → s = 0) ∧ (vp_in p 32 → (K p.toNatClampNeg = 2 → s = E p.toNatClampNeg) ∧ (¬ K p.toNatClampNeg = 2 → s = 0))) (z : FZ LP f) (z2 : RZ K N E) : r = s := by
  by_cases q : vp_in p 32
  · rw [(h2.2 q).2 (by rw [(z2 _ (vp_j q)).1]; decide)]; exact kv_z (h.2 q) z
  · rw [h.1 q, h2.1 q]
