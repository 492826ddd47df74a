/-! THE LAYER. Z k n tys pc lv st w: with k cells of n slots made, array kinds tys, at pc, places lv, stack st, world w, the machine comes to its goal. zI says that Z is such a predicate of a method. -/
abbrev zT : Type := List (ClassId × FieldType)
abbrev zZ : Type := Nat → Nat → zT → Nat → List (Nat × Value) → List Value → va_W → Prop
abbrev zP : Type := Option Value → va_W → zT → Prop
/-- links to members of nest mates: fields, methods -/
abbrev zNf : Type := List (String × Nat × String × String × String × String)
abbrev zNm : Type := List (String × Nat × MethodName × String)
def zN (nf : zNf) (nm : zNm) (U : State) : Prop := (∀ q ∈ nf, va_Nw (.fieldLinkNest q.1 q.2.1 q.2.2.1 q.2.2.2.1 q.2.2.2.2.1 q.2.2.2.2.2) U) ∧ (∀ q ∈ nm, va_Nw (.methodLinkNest q.1 q.2.1 q.2.2.1 q.2.2.2) U) ∧ va_AO "MixedNumbers$Value" U
theorem zN.warm {nf : zNf} {nm : zNm} {s U : State} (hW : s.WarmedH U.vm) (h : zN nf nm s) : zN nf nm U := ⟨fun q hq => va_Nw.warmF hW (h.1 q hq), fun q hq => va_Nw.warmM hW (h.2.1 q hq), va_AO.moved hW.alike h.2.2⟩
theorem zN.same {nf : zNf} {nm : zNm} {s U : State} (hv : s.vm = U.vm) (h : zN nf nm s) : zN nf nm U := ⟨fun q hq => va_Nw.same rfl hv (h.1 q hq), fun q hq => va_Nw.same rfl hv (h.2.1 q hq), va_AO.moved (hv ▸ Vm.Alike.refl s.vm) h.2.2⟩
/-- what stands at a return -/
def zE (cc : ByteArray) (pc : Nat) (ret : Option FieldType) (v : Option Value) : Prop :=
  (v = none ∧ ret = none ∧ decode cc pc = .ok (.return_, 1)) ∨ (∃ (x : Int32) (ty : FieldType), v = some (.int x) ∧ ret = some ty ∧ narrow ty (.int x) = .int x ∧ decode cc pc = .ok (.ireturn, 1)) ∨ (∃ x : Int64, v = some (.long x) ∧ ret = some .long ∧ decode cc pc = .ok (.lreturn, 1))
/-- the end of a contract -/
def zC (D : va_G) (cl : List vw_C) (post : zP) (w0 : va_W) (sz : Nat) : Array Value → State → Outcome → State → Prop := fun _ st oc t =>
  (∃ (v : Option Value) (w : va_W) (tys : zT), oc = .returned v ∧ post v w tys ∧ va_P D cl w t.heap ∧ va_K D cl tys t ∧ va_D (va_A w0 sz) w) ∧ va_F (va_A w0 sz) st t
/-- its start -/
def zB (D : va_G) (cl : List vw_C) (nf : zNf) (nm : zNm) (As : List Value) (w0 : va_W) (tys : zT) (sz : Nat) : Array Value → State → Prop := va_Pc As (fun U => U.heap.size = sz ∧ va_P D cl w0 U.heap ∧ va_K D cl tys U ∧ va_D (fun _ => True) w0 ∧ zN nf nm U)
/-- a contract -/
def zM (l : Launch) (D : va_G) (cl : List vw_C) (nf : zNf) (nm : zNm) (y : MethodName) (ws : List Cond) (rm : Room) (As : List Value) (w0 : va_W) (tys : zT) (post : zP) : Prop :=
  ∀ sz : Nat, Met l y ws rm (zB D cl nf nm As w0 tys sz) (zC D cl post w0 sz) rm.cells rm.slots (va_A w0 sz)
def zI (l : Launch) (D : va_G) (cl : List vw_C) (nf : zNf) (nm : zNm) (own : String) (cc : ByteArray) (nL : Nat) (ret : Option FieldType) (Ts : List Cond) (R : Room) (mc ms : Nat) (post : zP) (isI : Bool) (Z : zZ) : Prop :=
  ∃ (p : Program) (e : Env) (s : State) (m : MethodId) (args : Array Value) (below : List Frame) (meth : Method) (c : Code) (Q : State → Prop) (A : Nat → Prop),
    p.tables.exec = Jvm.exec ∧ c.code = cc ∧ c.maxLocals = nL ∧ s.vm.findClass own = some m.cls ∧ (∀ w ∈ Ts, w.before args s = true) ∧ zN nf nm s ∧ (∀ q : Nat, s.heap.size ≤ q → A q) ∧ (isI = true → meth.name = "<init>") ∧
    (∀ (v : Option Value) (w : va_W) (tys : zT) (H : Heap) (locs : List Loc) (pc : Nat) (ls : Array Slot), post v w tys → va_K D cl tys s → va_P D cl w H → va_D A w → va_S A s.heap H locs → zE cc pc ret v → W p l e R s m args below meth c H locs mc ms Q (F0 m pc ls v.toList)) ∧
    Z = fun k n tys pc lv st w => ∀ (ls : Array Slot) (H : Heap) (locs : List Loc), lv_has ls nL lv → va_K D cl tys s → va_P D cl w H → va_D A w → va_S A s.heap H locs → W p l e R s m args below meth c H locs k n Q (F0 m pc ls st)
set_option maxHeartbeats 4000000 in
/-- a contract out of a walk -/
theorem z_met {l : Launch} {D : va_G} {cl : List vw_C} {nf : zNf} {nm : zNm} {y : MethodName} {ws ws' : List Cond} {rm : Room} {As : List Value} {w0 : va_W} {tys : zT} {post : zP} {cc : ByteArray} {maxL : Nat} {ret : Option FieldType} {isI : Bool} {own : String}
    (hy : plainFor y = true) (hc : y.cls = own) (hw : ws = Cond.code y cc maxL ret :: ws') (hi : isI = true → y.name = "<init>") (hlen : (lg_sl As).length ≤ maxL)
    (h : ∀ Z : zZ, zI l D cl nf nm own cc maxL ret ws rm rm.cells rm.slots post isI Z → Z 0 0 tys 0 (lv_args 0 As) [] w0) : zM l D cl nf nm y ws rm As w0 tys post := by
  intro sz
  refine va_MetF (cc := cc) (maxL := maxL) (ret := ret) hy hw ?_
  intro p e s m args below meth c s₁ B hml hv
  obtain ⟨rfl, hsz, hP, hK, hD0, hN⟩ := hv
  have hx := B.exec
  have hb := B.bytes
  have hr := B.returns
  have hts := atoms_spec (ws := ws) B.pre
  have hown : s.vm.findClass own = some m.cls := by rw [← hc]; exact findClass_of_methodNamed B.named
  have hlocks := B.notSynchronized
  have hin : isI = true → meth.name = "<init>" := fun q => by rw [(name_of_methodNamed B.named B.method).1]; exact hi q
  subst hsz
  have hD := hD0.self (sz := s.heap.size)
  have hA : ∀ q : Nat, s.heap.size ≤ q → va_A w0 s.heap.size q := fun q h => Or.inr h
  have hl := lv_entry As (n := maxL) hlen
  rw [lg_entry_eq]
  generalize (lg_sl As ++ List.replicate (maxL - (lg_sl As).length) Slot.unset).toArray = ls at hl ⊢
  refine h _ ⟨p, e, s, m, As.toArray, below, meth, c, MQ below (zC D cl post w0 s.heap.size) As.toArray s rm.cells rm.slots (va_A w0 s.heap.size), va_A w0 s.heap.size, hx, hb, hml, hown, hts, hN, hA, hin, ?_, rfl⟩ ls s.heap [] hl hK hP hD va_S.rf
  intro v w tys' H locs pc ls' hp hK' hP' hD' hS' hE
  have hq : ∀ t : State, t.heap = H → s.WarmedH t.vm → zC D cl post w0 s.heap.size As.toArray s (.returned v) t := fun t ht hW => ⟨⟨v, w, tys', rfl, hp, by rw [ht]; exact hP', va_K.moved hW.alike hK', hD'⟩, hS'.F ht⟩
  rcases hE with ⟨rfl, h1, h2⟩ | ⟨x, ty, rfl, h1, h2, h3⟩ | ⟨x, rfl, h1, h2⟩
  · exact W.vret hx hb (hr.trans h1) hq hS'.2.2 h2 hlocks
  · exact W.zret hx hb (hr.trans h1) h2 hq hS'.2.2 h3 hlocks
  · exact W.lret hx hb (hr.trans h1) hq hS'.2.2 h2 hlocks
section ZL
variable {l : Launch} {D : va_G} {cl : List vw_C} {nf : zNf} {nm : zNm} {own : String} {cc : ByteArray} {nL : Nat} {ret : Option FieldType} {Ts : List Cond} {R : Room} {mc ms : Nat} {post : zP} {isI : Bool} {Z : zZ}
variable {k n pc : Nat} {tys : zT} {lv : List (Nat × Value)} {st : List Value} {w : va_W}
theorem z_ret (hZ : zI l D cl nf nm own cc nL ret Ts R mc ms post isI Z) {v : Option Value} (hE : zE cc pc ret v) (hp : post v w tys) : Z mc ms tys pc lv v.toList w := by
  obtain ⟨p, e, s, m, args, below, meth, c, Q, A, hx, hb, hml, hown, hts, hN, hA, hin0, hret, rfl⟩ := hZ
  intro ls H locs hl hK hP hD hS
  exact hret v w tys H locs pc ls hp hK hP hD hS hE
theorem z_retv (hZ : zI l D cl nf nm own cc nL ret Ts R mc ms post isI Z) (hdg : decode cc pc = .ok (.return_, 1)) (hr : ret = none) (hp : post none w tys) : Z mc ms tys pc lv [] w := z_ret hZ (v := none) (Or.inl ⟨rfl, hr, hdg⟩) hp
theorem z_reti (hZ : zI l D cl nf nm own cc nL ret Ts R mc ms post isI Z) {x : Int32} (hdg : decode cc pc = .ok (.ireturn, 1)) (ty : FieldType) (hr : ret = some ty) (hn : narrow ty (.int x) = .int x) (hp : post (some (.int x)) w tys) : Z mc ms tys pc lv [.int x] w := z_ret hZ (v := some (.int x)) (Or.inr (Or.inl ⟨x, ty, rfl, hr, hn, hdg⟩)) hp
theorem z_retl (hZ : zI l D cl nf nm own cc nL ret Ts R mc ms post isI Z) {x : Int64} (hdg : decode cc pc = .ok (.lreturn, 1)) (hr : ret = some .long) (hp : post (some (.long x)) w tys) : Z mc ms tys pc lv [.long x] w := z_ret hZ (v := some (.long x)) (Or.inr (Or.inr ⟨x, rfl, hr, hdg⟩)) hp
theorem z_sub (hZ : zI l D cl nf nm own cc nL ret Ts R mc ms post isI Z) {lv' : List (Nat × Value)} (ks : List Nat) (hl' : lv_pick lv ks = lv') (kk : Z k n tys pc lv' st w) : Z k n tys pc lv st w := by
  obtain ⟨p, e, s, m, args, below, meth, c, Q, A, hx, hb, hml, hown, hts, hN, hA, hin0, hret, rfl⟩ := hZ
  intro ls H locs hl hK hP hD hS
  exact kk ls H locs (lv_sub hl ks hl') hK hP hD hS
theorem z_widen (hZ : zI l D cl nf nm own cc nL ret Ts R mc ms post isI Z) {k' n' : Nat} (h1 : k ≤ k') (h2 : n ≤ n') (kk : Z k' n' tys pc lv st w) : Z k n tys pc lv st w := by
  obtain ⟨p, e, s, m, args, below, meth, c, Q, A, hx, hb, hml, hown, hts, hN, hA, hin0, hret, rfl⟩ := hZ
  intro ls H locs hl hK hP hD hS
  exact W.widen h1 h2 (kk ls H locs hl hK hP hD hS)
theorem z_tys (hZ : zI l D cl nf nm own cc nL ret Ts R mc ms post isI Z) {tys' : zT} (is : List Nat) (hs : is.filterMap (fun i => tys[i]?) = tys') (kk : Z k n tys' pc lv st w) : Z k n tys pc lv st w := by
  obtain ⟨p, e, s, m, args, below, meth, c, Q, A, hx, hb, hml, hown, hts, hN, hA, hin0, hret, rfl⟩ := hZ
  intro ls H locs hl hK hP hD hS
  exact kk ls H locs hl (hK.sub is hs) hP hD hS
theorem z_by (hZ : zI l D cl nf nm own cc nL ret Ts R mc ms post isI Z) {w' : va_W} (g : Nat → Nat) (hg : ∀ (j : Nat) (q : Nat × va_E), w'[j]? = some q → w[g j]? = some q) (hi : ∀ i j : Nat, i < w'.length → j < w'.length → g i = g j → i = j) (kk : Z k n tys pc lv st w') : Z k n tys pc lv st w := by
  obtain ⟨p, e, s, m, args, below, meth, c, Q, A, hx, hb, hml, hown, hts, hN, hA, hin0, hret, rfl⟩ := hZ
  intro ls H locs hl hK hP hD hS
  exact kk ls H locs hl hK (hP.by g hg) (hD.by g hg hi) hS
theorem z_iconst (hZ : zI l D cl nf nm own cc nL ret Ts R mc ms post isI Z) {z : Int} (v : Int32) (hdg : decode cc pc = .ok (.iconst z, 1)) (hv : Int32.ofInt z = v) (kk : Z k n tys (pc + 1) lv (.int v :: st) w) : Z k n tys pc lv st w := by
  obtain ⟨p, e, s, m, args, below, meth, c, Q, A, hx, hb, hml, hown, hts, hN, hA, hin0, hret, rfl⟩ := hZ
  intro ls H locs hl hK hP hD hS
  exact lv_iconst hx hb hdg hv (kk ls H locs hl hK hP hD hS)
theorem z_bipush (hZ : zI l D cl nf nm own cc nL ret Ts R mc ms post isI Z) {z : Int} (v : Int32) (hdg : decode cc pc = .ok (.bipush z, 2)) (hv : (Int8.ofInt z).toInt32 = v) (kk : Z k n tys (pc + 2) lv (.int v :: st) w) : Z k n tys pc lv st w := by
  obtain ⟨p, e, s, m, args, below, meth, c, Q, A, hx, hb, hml, hown, hts, hN, hA, hin0, hret, rfl⟩ := hZ
  intro ls H locs hl hK hP hD hS
  exact lv_bipush hx hb hdg hv (kk ls H locs hl hK hP hD hS)
theorem z_sipush (hZ : zI l D cl nf nm own cc nL ret Ts R mc ms post isI Z) {z : Int} (v : Int32) (hdg : decode cc pc = .ok (.sipush z, 3)) (hv : (Int16.ofInt z).toInt32 = v) (kk : Z k n tys (pc + 3) lv (.int v :: st) w) : Z k n tys pc lv st w := by
  obtain ⟨p, e, s, m, args, below, meth, c, Q, A, hx, hb, hml, hown, hts, hN, hA, hin0, hret, rfl⟩ := hZ
  intro ls H locs hl hK hP hD hS
  exact lv_sipush hx hb hdg hv (kk ls H locs hl hK hP hD hS)
theorem z_lconst (hZ : zI l D cl nf nm own cc nL ret Ts R mc ms post isI Z) {z : Fin 2} (v : Int64) (hdg : decode cc pc = .ok (.lconst z, 1)) (hv : Int64.ofNat (z : Nat) = v) (kk : Z k n tys (pc + 1) lv (.long v :: st) w) : Z k n tys pc lv st w := by
  obtain ⟨p, e, s, m, args, below, meth, c, Q, A, hx, hb, hml, hown, hts, hN, hA, hin0, hret, rfl⟩ := hZ
  intro ls H locs hl hK hP hD hS
  exact lv_lconst hx hb hdg hv (kk ls H locs hl hK hP hD hS)
theorem z_ldc2 (hZ : zI l D cl nf nm own cc nL ret Ts R mc ms post isI Z) {index : Nat} (v : Int64) (hc : Cond.constantLong own index v ∈ Ts) (hdg : decode cc pc = .ok (.ldc2_w index, 3)) (kk : Z k n tys (pc + 3) lv (.long v :: st) w) : Z k n tys pc lv st w := by
  obtain ⟨p, e, s, m, args, below, meth, c, Q, A, hx, hb, hml, hown, hts, hN, hA, hin0, hret, rfl⟩ := hZ
  intro ls H locs hl hK hP hD hS
  exact lv_ldc2 hx hb hown (hts _ hc) hdg (kk ls H locs hl hK hP hD hS)
theorem z_ldcw (hZ : zI l D cl nf nm own cc nL ret Ts R mc ms post isI Z) {index : Nat} (v : Int32) (hc : Cond.constant own index v ∈ Ts) (hdg : decode cc pc = .ok (.ldc_w index, 3)) (kk : Z k n tys (pc + 3) lv (.int v :: st) w) : Z k n tys pc lv st w := by
  obtain ⟨p, e, s, m, args, below, meth, c, Q, A, hx, hb, hml, hown, hts, hN, hA, hin0, hret, rfl⟩ := hZ
  intro ls H locs hl hK hP hD hS
  exact lv_ldcw hx hb hown (hts _ hc) hdg (kk ls H locs hl hK hP hD hS)
theorem z_ldc (hZ : zI l D cl nf nm own cc nL ret Ts R mc ms post isI Z) {index : Nat} (v : Int32) (hc : Cond.constant own index v ∈ Ts) (hdg : decode cc pc = .ok (.ldc index, 2)) (kk : Z k n tys (pc + 2) lv (.int v :: st) w) : Z k n tys pc lv st w := by
  obtain ⟨p, e, s, m, args, below, meth, c, Q, A, hx, hb, hml, hown, hts, hN, hA, hin0, hret, rfl⟩ := hZ
  intro ls H locs hl hK hP hD hS
  exact lv_ldc hx hb hown (hts _ hc) hdg (kk ls H locs hl hK hP hD hS)
theorem z_iload_n (hZ : zI l D cl nf nm own cc nL ret Ts R mc ms post isI Z) {j : Fin 4} {i : Nat} {x : Int32} (q : Nat) (hdg : decode cc pc = .ok (.iload_n j, 1)) (hi : (j : Nat) = i) (hq : lv[q]? = some (i, .int x)) (kk : Z k n tys (pc + 1) lv (.int x :: st) w) : Z k n tys pc lv st w := by
  obtain ⟨p, e, s, m, args, below, meth, c, Q, A, hx, hb, hml, hown, hts, hN, hA, hin0, hret, rfl⟩ := hZ
  intro ls H locs hl hK hP hD hS
  exact lv_iload_n hx hb hdg hi (lv_at hl q hq) (kk ls H locs hl hK hP hD hS)
theorem z_iload (hZ : zI l D cl nf nm own cc nL ret Ts R mc ms post isI Z) {i : Nat} {x : Int32} (q : Nat) (hdg : decode cc pc = .ok (.iload i, 2)) (hq : lv[q]? = some (i, .int x)) (kk : Z k n tys (pc + 2) lv (.int x :: st) w) : Z k n tys pc lv st w := by
  obtain ⟨p, e, s, m, args, below, meth, c, Q, A, hx, hb, hml, hown, hts, hN, hA, hin0, hret, rfl⟩ := hZ
  intro ls H locs hl hK hP hD hS
  exact lv_iload hx hb hdg (lv_at hl q hq) (kk ls H locs hl hK hP hD hS)
theorem z_istore_n (hZ : zI l D cl nf nm own cc nL ret Ts R mc ms post isI Z) {j : Fin 4} {i : Nat} {x : Int32} (lv' : List (Nat × Value)) (hdg : decode cc pc = .ok (.istore_n j, 1)) (hi : (j : Nat) = i) (hn : i < nL) (hl' : (i, Value.int x) :: lv.filter (fun q => !(q.1 == i) && !(q.1 + 1 == i && q.2.category == 2)) = lv') (kk : Z k n tys (pc + 1) lv' st w) : Z k n tys pc lv (.int x :: st) w := by
  obtain ⟨p, e, s, m, args, below, meth, c, Q, A, hx, hb, hml, hown, hts, hN, hA, hin0, hret, rfl⟩ := hZ
  intro ls H locs hl hK hP hD hS
  exact lv_istore_n hx hb hdg hi hl hn hl' (fun ls hl => kk ls H locs hl hK hP hD hS)
theorem z_istore (hZ : zI l D cl nf nm own cc nL ret Ts R mc ms post isI Z) {i : Nat} {x : Int32} (lv' : List (Nat × Value)) (hdg : decode cc pc = .ok (.istore i, 2)) (hn : i < nL) (hl' : (i, Value.int x) :: lv.filter (fun q => !(q.1 == i) && !(q.1 + 1 == i && q.2.category == 2)) = lv') (kk : Z k n tys (pc + 2) lv' st w) : Z k n tys pc lv (.int x :: st) w := by
  obtain ⟨p, e, s, m, args, below, meth, c, Q, A, hx, hb, hml, hown, hts, hN, hA, hin0, hret, rfl⟩ := hZ
  intro ls H locs hl hK hP hD hS
  exact lv_istore hx hb hdg hl hn hl' (fun ls hl => kk ls H locs hl hK hP hD hS)
theorem z_lload_n (hZ : zI l D cl nf nm own cc nL ret Ts R mc ms post isI Z) {j : Fin 4} {i : Nat} {x : Int64} (q : Nat) (hdg : decode cc pc = .ok (.lload_n j, 1)) (hi : (j : Nat) = i) (hq : lv[q]? = some (i, .long x)) (kk : Z k n tys (pc + 1) lv (.long x :: st) w) : Z k n tys pc lv st w := by
  obtain ⟨p, e, s, m, args, below, meth, c, Q, A, hx, hb, hml, hown, hts, hN, hA, hin0, hret, rfl⟩ := hZ
  intro ls H locs hl hK hP hD hS
  exact lv_lload_n hx hb hdg hi (lv_at hl q hq) (kk ls H locs hl hK hP hD hS)
theorem z_lload (hZ : zI l D cl nf nm own cc nL ret Ts R mc ms post isI Z) {i : Nat} {x : Int64} (q : Nat) (hdg : decode cc pc = .ok (.lload i, 2)) (hq : lv[q]? = some (i, .long x)) (kk : Z k n tys (pc + 2) lv (.long x :: st) w) : Z k n tys pc lv st w := by
  obtain ⟨p, e, s, m, args, below, meth, c, Q, A, hx, hb, hml, hown, hts, hN, hA, hin0, hret, rfl⟩ := hZ
  intro ls H locs hl hK hP hD hS
  exact lv_lload hx hb hdg (lv_at hl q hq) (kk ls H locs hl hK hP hD hS)
theorem z_lstore_n (hZ : zI l D cl nf nm own cc nL ret Ts R mc ms post isI Z) {j : Fin 4} {i : Nat} {x : Int64} (lv' : List (Nat × Value)) (hdg : decode cc pc = .ok (.lstore_n j, 1)) (hi : (j : Nat) = i) (hn : i + 1 < nL) (hl' : (i, Value.long x) :: lv.filter (fun q => !(q.1 == i) && (!(q.1 == i + 1) && !(q.1 + 1 == i && q.2.category == 2))) = lv') (kk : Z k n tys (pc + 1) lv' st w) : Z k n tys pc lv (.long x :: st) w := by
  obtain ⟨p, e, s, m, args, below, meth, c, Q, A, hx, hb, hml, hown, hts, hN, hA, hin0, hret, rfl⟩ := hZ
  intro ls H locs hl hK hP hD hS
  exact lv_lstore_n hx hb hdg hi hl hn hl' (fun ls hl => kk ls H locs hl hK hP hD hS)
theorem z_lstore (hZ : zI l D cl nf nm own cc nL ret Ts R mc ms post isI Z) {i : Nat} {x : Int64} (lv' : List (Nat × Value)) (hdg : decode cc pc = .ok (.lstore i, 2)) (hn : i + 1 < nL) (hl' : (i, Value.long x) :: lv.filter (fun q => !(q.1 == i) && (!(q.1 == i + 1) && !(q.1 + 1 == i && q.2.category == 2))) = lv') (kk : Z k n tys (pc + 2) lv' st w) : Z k n tys pc lv (.long x :: st) w := by
  obtain ⟨p, e, s, m, args, below, meth, c, Q, A, hx, hb, hml, hown, hts, hN, hA, hin0, hret, rfl⟩ := hZ
  intro ls H locs hl hK hP hD hS
  exact lv_lstore hx hb hdg hl hn hl' (fun ls hl => kk ls H locs hl hK hP hD hS)
theorem z_aload_n (hZ : zI l D cl nf nm own cc nL ret Ts R mc ms post isI Z) {j : Fin 4} {i : Nat} {x : Nat} (q : Nat) (hdg : decode cc pc = .ok (.aload_n j, 1)) (hi : (j : Nat) = i) (hq : lv[q]? = some (i, .ref x)) (kk : Z k n tys (pc + 1) lv (.ref x :: st) w) : Z k n tys pc lv st w := by
  obtain ⟨p, e, s, m, args, below, meth, c, Q, A, hx, hb, hml, hown, hts, hN, hA, hin0, hret, rfl⟩ := hZ
  intro ls H locs hl hK hP hD hS
  exact lv_aload_n hx hb hdg hi (lv_at hl q hq) (kk ls H locs hl hK hP hD hS)
theorem z_aload (hZ : zI l D cl nf nm own cc nL ret Ts R mc ms post isI Z) {i : Nat} {x : Nat} (q : Nat) (hdg : decode cc pc = .ok (.aload i, 2)) (hq : lv[q]? = some (i, .ref x)) (kk : Z k n tys (pc + 2) lv (.ref x :: st) w) : Z k n tys pc lv st w := by
  obtain ⟨p, e, s, m, args, below, meth, c, Q, A, hx, hb, hml, hown, hts, hN, hA, hin0, hret, rfl⟩ := hZ
  intro ls H locs hl hK hP hD hS
  exact lv_aload hx hb hdg (lv_at hl q hq) (kk ls H locs hl hK hP hD hS)
theorem z_astore_n (hZ : zI l D cl nf nm own cc nL ret Ts R mc ms post isI Z) {j : Fin 4} {i : Nat} {x : Nat} (lv' : List (Nat × Value)) (hdg : decode cc pc = .ok (.astore_n j, 1)) (hi : (j : Nat) = i) (hn : i < nL) (hl' : (i, Value.ref x) :: lv.filter (fun q => !(q.1 == i) && !(q.1 + 1 == i && q.2.category == 2)) = lv') (kk : Z k n tys (pc + 1) lv' st w) : Z k n tys pc lv (.ref x :: st) w := by
  obtain ⟨p, e, s, m, args, below, meth, c, Q, A, hx, hb, hml, hown, hts, hN, hA, hin0, hret, rfl⟩ := hZ
  intro ls H locs hl hK hP hD hS
  exact lv_astore_n hx hb hdg hi hl hn hl' (fun ls hl => kk ls H locs hl hK hP hD hS)
theorem z_astore (hZ : zI l D cl nf nm own cc nL ret Ts R mc ms post isI Z) {i : Nat} {x : Nat} (lv' : List (Nat × Value)) (hdg : decode cc pc = .ok (.astore i, 2)) (hn : i < nL) (hl' : (i, Value.ref x) :: lv.filter (fun q => !(q.1 == i) && !(q.1 + 1 == i && q.2.category == 2)) = lv') (kk : Z k n tys (pc + 2) lv' st w) : Z k n tys pc lv (.ref x :: st) w := by
  obtain ⟨p, e, s, m, args, below, meth, c, Q, A, hx, hb, hml, hown, hts, hN, hA, hin0, hret, rfl⟩ := hZ
  intro ls H locs hl hK hP hD hS
  exact lv_astore hx hb hdg hl hn hl' (fun ls hl => kk ls H locs hl hK hP hD hS)
theorem z_iinc (hZ : zI l D cl nf nm own cc nL ret Ts R mc ms post isI Z) {i : Nat} {z : Int} {x : Int32} (q : Nat) (lv' : Int32 → List (Nat × Value)) (hdg : decode cc pc = .ok (.iinc i z, 3)) (hq : lv[q]? = some (i, .int x)) (hn : i < nL) (hl' : ∀ v, (i, Value.int v) :: lv.filter (fun q => !(q.1 == i) && !(q.1 + 1 == i && q.2.category == 2)) = lv' v) (kk : ∀ v : Int32, v = x + Int32.ofInt z → Z k n tys (pc + 3) (lv' v) st w) : Z k n tys pc lv st w := by
  obtain ⟨p, e, s, m, args, below, meth, c, Q, A, hx, hb, hml, hown, hts, hN, hA, hin0, hret, rfl⟩ := hZ
  intro ls H locs hl hK hP hD hS
  exact lv_iinc hx hb hdg hl hq rfl hn (hl' _) (fun ls hl => kk _ rfl ls H locs hl hK hP hD hS)
theorem z_iadd (hZ : zI l D cl nf nm own cc nL ret Ts R mc ms post isI Z) {x y : Int32} (hdg : decode cc pc = .ok (.iadd, 1)) (kk : ∀ v : Int32, v = x + y → Z k n tys (pc + 1) lv (.int v :: st) w) : Z k n tys pc lv (.int y :: .int x :: st) w := by
  obtain ⟨p, e, s, m, args, below, meth, c, Q, A, hx, hb, hml, hown, hts, hN, hA, hin0, hret, rfl⟩ := hZ
  intro ls H locs hl hK hP hD hS
  exact lv_iadd hx hb hdg (kk _ rfl ls H locs hl hK hP hD hS)
theorem z_isub (hZ : zI l D cl nf nm own cc nL ret Ts R mc ms post isI Z) {x y : Int32} (hdg : decode cc pc = .ok (.isub, 1)) (kk : ∀ v : Int32, v = x - y → Z k n tys (pc + 1) lv (.int v :: st) w) : Z k n tys pc lv (.int y :: .int x :: st) w := by
  obtain ⟨p, e, s, m, args, below, meth, c, Q, A, hx, hb, hml, hown, hts, hN, hA, hin0, hret, rfl⟩ := hZ
  intro ls H locs hl hK hP hD hS
  exact lv_isub hx hb hdg (kk _ rfl ls H locs hl hK hP hD hS)
theorem z_imul (hZ : zI l D cl nf nm own cc nL ret Ts R mc ms post isI Z) {x y : Int32} (hdg : decode cc pc = .ok (.imul, 1)) (kk : ∀ v : Int32, v = x * y → Z k n tys (pc + 1) lv (.int v :: st) w) : Z k n tys pc lv (.int y :: .int x :: st) w := by
  obtain ⟨p, e, s, m, args, below, meth, c, Q, A, hx, hb, hml, hown, hts, hN, hA, hin0, hret, rfl⟩ := hZ
  intro ls H locs hl hK hP hD hS
  exact lv_imul hx hb hdg (kk _ rfl ls H locs hl hK hP hD hS)
theorem z_iand (hZ : zI l D cl nf nm own cc nL ret Ts R mc ms post isI Z) {x y : Int32} (hdg : decode cc pc = .ok (.iand, 1)) (kk : ∀ v : Int32, v = x &&& y → Z k n tys (pc + 1) lv (.int v :: st) w) : Z k n tys pc lv (.int y :: .int x :: st) w := by
  obtain ⟨p, e, s, m, args, below, meth, c, Q, A, hx, hb, hml, hown, hts, hN, hA, hin0, hret, rfl⟩ := hZ
  intro ls H locs hl hK hP hD hS
  exact lv_iand hx hb hdg (kk _ rfl ls H locs hl hK hP hD hS)
theorem z_ior (hZ : zI l D cl nf nm own cc nL ret Ts R mc ms post isI Z) {x y : Int32} (hdg : decode cc pc = .ok (.ior, 1)) (kk : ∀ v : Int32, v = x ||| y → Z k n tys (pc + 1) lv (.int v :: st) w) : Z k n tys pc lv (.int y :: .int x :: st) w := by
  obtain ⟨p, e, s, m, args, below, meth, c, Q, A, hx, hb, hml, hown, hts, hN, hA, hin0, hret, rfl⟩ := hZ
  intro ls H locs hl hK hP hD hS
  exact lv_ior hx hb hdg (kk _ rfl ls H locs hl hK hP hD hS)
theorem z_ixor (hZ : zI l D cl nf nm own cc nL ret Ts R mc ms post isI Z) {x y : Int32} (hdg : decode cc pc = .ok (.ixor, 1)) (kk : ∀ v : Int32, v = x ^^^ y → Z k n tys (pc + 1) lv (.int v :: st) w) : Z k n tys pc lv (.int y :: .int x :: st) w := by
  obtain ⟨p, e, s, m, args, below, meth, c, Q, A, hx, hb, hml, hown, hts, hN, hA, hin0, hret, rfl⟩ := hZ
  intro ls H locs hl hK hP hD hS
  exact lv_ixor hx hb hdg (kk _ rfl ls H locs hl hK hP hD hS)
theorem z_ishl (hZ : zI l D cl nf nm own cc nL ret Ts R mc ms post isI Z) {x y : Int32} (hdg : decode cc pc = .ok (.ishl, 1)) (kk : ∀ v : Int32, v = x <<< (y &&& 31) → Z k n tys (pc + 1) lv (.int v :: st) w) : Z k n tys pc lv (.int y :: .int x :: st) w := by
  obtain ⟨p, e, s, m, args, below, meth, c, Q, A, hx, hb, hml, hown, hts, hN, hA, hin0, hret, rfl⟩ := hZ
  intro ls H locs hl hK hP hD hS
  exact lv_ishl hx hb hdg (kk _ rfl ls H locs hl hK hP hD hS)
theorem z_ishr (hZ : zI l D cl nf nm own cc nL ret Ts R mc ms post isI Z) {x y : Int32} (hdg : decode cc pc = .ok (.ishr, 1)) (kk : ∀ v : Int32, v = x >>> (y &&& 31) → Z k n tys (pc + 1) lv (.int v :: st) w) : Z k n tys pc lv (.int y :: .int x :: st) w := by
  obtain ⟨p, e, s, m, args, below, meth, c, Q, A, hx, hb, hml, hown, hts, hN, hA, hin0, hret, rfl⟩ := hZ
  intro ls H locs hl hK hP hD hS
  exact lv_ishr hx hb hdg (kk _ rfl ls H locs hl hK hP hD hS)
theorem z_ineg (hZ : zI l D cl nf nm own cc nL ret Ts R mc ms post isI Z) {x : Int32} (hdg : decode cc pc = .ok (.ineg, 1)) (kk : ∀ v : Int32, v = -x → Z k n tys (pc + 1) lv (.int v :: st) w) : Z k n tys pc lv (.int x :: st) w := by
  obtain ⟨p, e, s, m, args, below, meth, c, Q, A, hx, hb, hml, hown, hts, hN, hA, hin0, hret, rfl⟩ := hZ
  intro ls H locs hl hK hP hD hS
  exact lv_ineg hx hb hdg (kk _ (by first | rfl | simp) ls H locs hl hK hP hD hS)
theorem z_ladd (hZ : zI l D cl nf nm own cc nL ret Ts R mc ms post isI Z) {x y : Int64} (hdg : decode cc pc = .ok (.ladd, 1)) (kk : ∀ v : Int64, v = x + y → Z k n tys (pc + 1) lv (.long v :: st) w) : Z k n tys pc lv (.long y :: .long x :: st) w := by
  obtain ⟨p, e, s, m, args, below, meth, c, Q, A, hx, hb, hml, hown, hts, hN, hA, hin0, hret, rfl⟩ := hZ
  intro ls H locs hl hK hP hD hS
  exact lv_ladd hx hb hdg (kk _ rfl ls H locs hl hK hP hD hS)
theorem z_lsub (hZ : zI l D cl nf nm own cc nL ret Ts R mc ms post isI Z) {x y : Int64} (hdg : decode cc pc = .ok (.lsub, 1)) (kk : ∀ v : Int64, v = x - y → Z k n tys (pc + 1) lv (.long v :: st) w) : Z k n tys pc lv (.long y :: .long x :: st) w := by
  obtain ⟨p, e, s, m, args, below, meth, c, Q, A, hx, hb, hml, hown, hts, hN, hA, hin0, hret, rfl⟩ := hZ
  intro ls H locs hl hK hP hD hS
  exact lv_lsub hx hb hdg (kk _ rfl ls H locs hl hK hP hD hS)
theorem z_lmul (hZ : zI l D cl nf nm own cc nL ret Ts R mc ms post isI Z) {x y : Int64} (hdg : decode cc pc = .ok (.lmul, 1)) (kk : ∀ v : Int64, v = x * y → Z k n tys (pc + 1) lv (.long v :: st) w) : Z k n tys pc lv (.long y :: .long x :: st) w := by
  obtain ⟨p, e, s, m, args, below, meth, c, Q, A, hx, hb, hml, hown, hts, hN, hA, hin0, hret, rfl⟩ := hZ
  intro ls H locs hl hK hP hD hS
  exact lv_lmul hx hb hdg (kk _ rfl ls H locs hl hK hP hD hS)
theorem z_land (hZ : zI l D cl nf nm own cc nL ret Ts R mc ms post isI Z) {x y : Int64} (hdg : decode cc pc = .ok (.land, 1)) (kk : ∀ v : Int64, v = x &&& y → Z k n tys (pc + 1) lv (.long v :: st) w) : Z k n tys pc lv (.long y :: .long x :: st) w := by
  obtain ⟨p, e, s, m, args, below, meth, c, Q, A, hx, hb, hml, hown, hts, hN, hA, hin0, hret, rfl⟩ := hZ
  intro ls H locs hl hK hP hD hS
  exact lv_land hx hb hdg (kk _ rfl ls H locs hl hK hP hD hS)
theorem z_lor (hZ : zI l D cl nf nm own cc nL ret Ts R mc ms post isI Z) {x y : Int64} (hdg : decode cc pc = .ok (.lor, 1)) (kk : ∀ v : Int64, v = x ||| y → Z k n tys (pc + 1) lv (.long v :: st) w) : Z k n tys pc lv (.long y :: .long x :: st) w := by
  obtain ⟨p, e, s, m, args, below, meth, c, Q, A, hx, hb, hml, hown, hts, hN, hA, hin0, hret, rfl⟩ := hZ
  intro ls H locs hl hK hP hD hS
  exact lv_lor hx hb hdg (kk _ rfl ls H locs hl hK hP hD hS)
theorem z_lxor (hZ : zI l D cl nf nm own cc nL ret Ts R mc ms post isI Z) {x y : Int64} (hdg : decode cc pc = .ok (.lxor, 1)) (kk : ∀ v : Int64, v = x ^^^ y → Z k n tys (pc + 1) lv (.long v :: st) w) : Z k n tys pc lv (.long y :: .long x :: st) w := by
  obtain ⟨p, e, s, m, args, below, meth, c, Q, A, hx, hb, hml, hown, hts, hN, hA, hin0, hret, rfl⟩ := hZ
  intro ls H locs hl hK hP hD hS
  exact lv_lxor hx hb hdg (kk _ rfl ls H locs hl hK hP hD hS)
theorem z_lneg (hZ : zI l D cl nf nm own cc nL ret Ts R mc ms post isI Z) {x : Int64} (hdg : decode cc pc = .ok (.lneg, 1)) (kk : ∀ v : Int64, v = -x → Z k n tys (pc + 1) lv (.long v :: st) w) : Z k n tys pc lv (.long x :: st) w := by
  obtain ⟨p, e, s, m, args, below, meth, c, Q, A, hx, hb, hml, hown, hts, hN, hA, hin0, hret, rfl⟩ := hZ
  intro ls H locs hl hK hP hD hS
  exact lv_lneg hx hb hdg (kk _ (by first | rfl | simp) ls H locs hl hK hP hD hS)
theorem z_ldiv (hZ : zI l D cl nf nm own cc nL ret Ts R mc ms post isI Z) {x y : Int64} (hdg : decode cc pc = .ok (.ldiv, 1)) (hne : ¬ y = 0) (kk : ∀ v : Int64, v = x / y → Z k n tys (pc + 1) lv (.long v :: st) w) : Z k n tys pc lv (.long y :: .long x :: st) w := by
  obtain ⟨p, e, s, m, args, below, meth, c, Q, A, hx, hb, hml, hown, hts, hN, hA, hin0, hret, rfl⟩ := hZ
  intro ls H locs hl hK hP hD hS
  exact lv_ldiv hx hb hdg hne (kk _ rfl ls H locs hl hK hP hD hS)
theorem z_lrem (hZ : zI l D cl nf nm own cc nL ret Ts R mc ms post isI Z) {x y : Int64} (hdg : decode cc pc = .ok (.lrem, 1)) (hne : ¬ y = 0) (kk : ∀ v : Int64, v = x - x / y * y → Z k n tys (pc + 1) lv (.long v :: st) w) : Z k n tys pc lv (.long y :: .long x :: st) w := by
  obtain ⟨p, e, s, m, args, below, meth, c, Q, A, hx, hb, hml, hown, hts, hN, hA, hin0, hret, rfl⟩ := hZ
  intro ls H locs hl hK hP hD hS
  exact lv_lrem hx hb hdg hne (kk _ rfl ls H locs hl hK hP hD hS)
theorem z_lshl (hZ : zI l D cl nf nm own cc nL ret Ts R mc ms post isI Z) {x : Int64} {y : Int32} (hdg : decode cc pc = .ok (.lshl, 1)) (kk : ∀ v : Int64, v = x <<< (y.toInt64 &&& 63) → Z k n tys (pc + 1) lv (.long v :: st) w) : Z k n tys pc lv (.int y :: .long x :: st) w := by
  obtain ⟨p, e, s, m, args, below, meth, c, Q, A, hx, hb, hml, hown, hts, hN, hA, hin0, hret, rfl⟩ := hZ
  intro ls H locs hl hK hP hD hS
  exact lv_lshl hx hb hdg rfl (kk _ rfl ls H locs hl hK hP hD hS)
theorem z_lshr (hZ : zI l D cl nf nm own cc nL ret Ts R mc ms post isI Z) {x : Int64} {y : Int32} (hdg : decode cc pc = .ok (.lshr, 1)) (kk : ∀ v : Int64, v = x >>> (y.toInt64 &&& 63) → Z k n tys (pc + 1) lv (.long v :: st) w) : Z k n tys pc lv (.int y :: .long x :: st) w := by
  obtain ⟨p, e, s, m, args, below, meth, c, Q, A, hx, hb, hml, hown, hts, hN, hA, hin0, hret, rfl⟩ := hZ
  intro ls H locs hl hK hP hD hS
  exact lv_lshr hx hb hdg rfl (kk _ rfl ls H locs hl hK hP hD hS)
theorem z_lushr (hZ : zI l D cl nf nm own cc nL ret Ts R mc ms post isI Z) {x : Int64} {y : Int32} (hdg : decode cc pc = .ok (.lushr, 1)) (kk : ∀ v : Int64, v = (x.toUInt64 >>> (y.toInt64.toUInt64 &&& Int64.toUInt64 63)).toInt64 → Z k n tys (pc + 1) lv (.long v :: st) w) : Z k n tys pc lv (.int y :: .long x :: st) w := by
  obtain ⟨p, e, s, m, args, below, meth, c, Q, A, hx, hb, hml, hown, hts, hN, hA, hin0, hret, rfl⟩ := hZ
  intro ls H locs hl hK hP hD hS
  exact lv_lushr hx hb hdg rfl (kk _ rfl ls H locs hl hK hP hD hS)
theorem z_i2l (hZ : zI l D cl nf nm own cc nL ret Ts R mc ms post isI Z) {x : Int32} (hdg : decode cc pc = .ok (.i2l, 1)) (kk : ∀ v : Int64, v = x.toInt64 → Z k n tys (pc + 1) lv (.long v :: st) w) : Z k n tys pc lv (.int x :: st) w := by
  obtain ⟨p, e, s, m, args, below, meth, c, Q, A, hx, hb, hml, hown, hts, hN, hA, hin0, hret, rfl⟩ := hZ
  intro ls H locs hl hK hP hD hS
  exact lv_i2l hx hb hdg rfl (kk _ rfl ls H locs hl hK hP hD hS)
theorem z_l2i (hZ : zI l D cl nf nm own cc nL ret Ts R mc ms post isI Z) {x : Int64} (hdg : decode cc pc = .ok (.l2i, 1)) (kk : ∀ v : Int32, v = x.toInt32 → Z k n tys (pc + 1) lv (.int v :: st) w) : Z k n tys pc lv (.long x :: st) w := by
  obtain ⟨p, e, s, m, args, below, meth, c, Q, A, hx, hb, hml, hown, hts, hN, hA, hin0, hret, rfl⟩ := hZ
  intro ls H locs hl hK hP hD hS
  exact lv_l2i hx hb hdg rfl (kk _ rfl ls H locs hl hK hP hD hS)
theorem z_iushr (hZ : zI l D cl nf nm own cc nL ret Ts R mc ms post isI Z) {x y : Int32} (hdg : decode cc pc = .ok (.iushr, 1)) (kk : ∀ v : Int32, v = (x.toUInt32 >>> (y.toUInt32 &&& Int32.toUInt32 31)).toInt32 → Z k n tys (pc + 1) lv (.int v :: st) w) : Z k n tys pc lv (.int y :: .int x :: st) w := by
  obtain ⟨p, e, s, m, args, below, meth, c, Q, A, hx, hb, hml, hown, hts, hN, hA, hin0, hret, rfl⟩ := hZ
  intro ls H locs hl hK hP hD hS
  exact lv_iushr hx hb hdg rfl (kk _ rfl ls H locs hl hK hP hD hS)
theorem z_lcmp (hZ : zI l D cl nf nm own cc nL ret Ts R mc ms post isI Z) {x y : Int64} (hdg : decode cc pc = .ok (.lcmp, 1)) (kk : ∀ v : Int32, v = lg_cmp x y → Z k n tys (pc + 1) lv (.int v :: st) w) : Z k n tys pc lv (.long y :: .long x :: st) w := by
  obtain ⟨p, e, s, m, args, below, meth, c, Q, A, hx, hb, hml, hown, hts, hN, hA, hin0, hret, rfl⟩ := hZ
  intro ls H locs hl hK hP hD hS
  exact W.lcmp hx hb hdg (kk _ rfl ls H locs hl hK hP hD hS)
theorem z_dup (hZ : zI l D cl nf nm own cc nL ret Ts R mc ms post isI Z) {va : Value} (hdg : decode cc pc = .ok (.dup, 1)) (hva : va.category = 1) (kk : Z k n tys (pc + 1) lv (va :: va :: st) w) : Z k n tys pc lv (va :: st) w := by
  obtain ⟨p, e, s, m, args, below, meth, c, Q, A, hx, hb, hml, hown, hts, hN, hA, hin0, hret, rfl⟩ := hZ
  intro ls H locs hl hK hP hD hS
  exact lv_dup hx hb hdg hva (kk ls H locs hl hK hP hD hS)
theorem z_pop (hZ : zI l D cl nf nm own cc nL ret Ts R mc ms post isI Z) {va : Value} (hdg : decode cc pc = .ok (.pop, 1)) (hva : va.category = 1) (kk : Z k n tys (pc + 1) lv st w) : Z k n tys pc lv (va :: st) w := by
  obtain ⟨p, e, s, m, args, below, meth, c, Q, A, hx, hb, hml, hown, hts, hN, hA, hin0, hret, rfl⟩ := hZ
  intro ls H locs hl hK hP hD hS
  exact lv_pop hx hb hdg hva (kk ls H locs hl hK hP hD hS)
theorem z_pop2 (hZ : zI l D cl nf nm own cc nL ret Ts R mc ms post isI Z) {va : Value} (hdg : decode cc pc = .ok (.pop2, 1)) (hva : va.category = 2) (kk : Z k n tys (pc + 1) lv st w) : Z k n tys pc lv (va :: st) w := by
  obtain ⟨p, e, s, m, args, below, meth, c, Q, A, hx, hb, hml, hown, hts, hN, hA, hin0, hret, rfl⟩ := hZ
  intro ls H locs hl hK hP hD hS
  exact lv_pop2_2 hx hb hdg hva (kk ls H locs hl hK hP hD hS)
theorem z_if_eq (hZ : zI l D cl nf nm own cc nL ret Ts R mc ms post isI Z) {x : Int32} {off : Int} (tgt : Nat) (hdg : decode cc pc = .ok (.ifCond .eq off, 3)) (ht : (pc : Int) + off = (tgt : Int)) (kt : x = 0 → Z k n tys tgt lv st w) (kf : ¬ x = 0 → Z k n tys (pc + 3) lv st w) : Z k n tys pc lv (.int x :: st) w := by
  obtain ⟨p, e, s, m, args, below, meth, c, Q, A, hx, hb, hml, hown, hts, hN, hA, hin0, hret, rfl⟩ := hZ
  intro ls H locs hl hK hP hD hS
  exact lv_if_eq hx hb hdg ht (fun q => kt q ls H locs hl hK hP hD hS) (fun q => kf q ls H locs hl hK hP hD hS)
theorem z_icmp_eq (hZ : zI l D cl nf nm own cc nL ret Ts R mc ms post isI Z) {x y : Int32} {off : Int} (tgt : Nat) (hdg : decode cc pc = .ok (.if_icmp .eq off, 3)) (ht : (pc : Int) + off = (tgt : Int)) (kt : x = y → Z k n tys tgt lv st w) (kf : ¬ x = y → Z k n tys (pc + 3) lv st w) : Z k n tys pc lv (.int y :: .int x :: st) w := by
  obtain ⟨p, e, s, m, args, below, meth, c, Q, A, hx, hb, hml, hown, hts, hN, hA, hin0, hret, rfl⟩ := hZ
  intro ls H locs hl hK hP hD hS
  exact lv_icmp_eq hx hb hdg ht (fun q => kt q ls H locs hl hK hP hD hS) (fun q => kf q ls H locs hl hK hP hD hS)
theorem z_if_ne (hZ : zI l D cl nf nm own cc nL ret Ts R mc ms post isI Z) {x : Int32} {off : Int} (tgt : Nat) (hdg : decode cc pc = .ok (.ifCond .ne off, 3)) (ht : (pc : Int) + off = (tgt : Int)) (kt : ¬ x = 0 → Z k n tys tgt lv st w) (kf : x = 0 → Z k n tys (pc + 3) lv st w) : Z k n tys pc lv (.int x :: st) w := by
  obtain ⟨p, e, s, m, args, below, meth, c, Q, A, hx, hb, hml, hown, hts, hN, hA, hin0, hret, rfl⟩ := hZ
  intro ls H locs hl hK hP hD hS
  exact lv_if_ne hx hb hdg ht (fun q => kt q ls H locs hl hK hP hD hS) (fun q => kf q ls H locs hl hK hP hD hS)
theorem z_icmp_ne (hZ : zI l D cl nf nm own cc nL ret Ts R mc ms post isI Z) {x y : Int32} {off : Int} (tgt : Nat) (hdg : decode cc pc = .ok (.if_icmp .ne off, 3)) (ht : (pc : Int) + off = (tgt : Int)) (kt : ¬ x = y → Z k n tys tgt lv st w) (kf : x = y → Z k n tys (pc + 3) lv st w) : Z k n tys pc lv (.int y :: .int x :: st) w := by
  obtain ⟨p, e, s, m, args, below, meth, c, Q, A, hx, hb, hml, hown, hts, hN, hA, hin0, hret, rfl⟩ := hZ
  intro ls H locs hl hK hP hD hS
  exact lv_icmp_ne hx hb hdg ht (fun q => kt q ls H locs hl hK hP hD hS) (fun q => kf q ls H locs hl hK hP hD hS)
theorem z_if_lt (hZ : zI l D cl nf nm own cc nL ret Ts R mc ms post isI Z) {x : Int32} {off : Int} (tgt : Nat) (hdg : decode cc pc = .ok (.ifCond .lt off, 3)) (ht : (pc : Int) + off = (tgt : Int)) (kt : x < 0 → Z k n tys tgt lv st w) (kf : ¬ x < 0 → Z k n tys (pc + 3) lv st w) : Z k n tys pc lv (.int x :: st) w := by
  obtain ⟨p, e, s, m, args, below, meth, c, Q, A, hx, hb, hml, hown, hts, hN, hA, hin0, hret, rfl⟩ := hZ
  intro ls H locs hl hK hP hD hS
  exact lv_if_lt hx hb hdg ht (fun q => kt q ls H locs hl hK hP hD hS) (fun q => kf q ls H locs hl hK hP hD hS)
theorem z_icmp_lt (hZ : zI l D cl nf nm own cc nL ret Ts R mc ms post isI Z) {x y : Int32} {off : Int} (tgt : Nat) (hdg : decode cc pc = .ok (.if_icmp .lt off, 3)) (ht : (pc : Int) + off = (tgt : Int)) (kt : x < y → Z k n tys tgt lv st w) (kf : ¬ x < y → Z k n tys (pc + 3) lv st w) : Z k n tys pc lv (.int y :: .int x :: st) w := by
  obtain ⟨p, e, s, m, args, below, meth, c, Q, A, hx, hb, hml, hown, hts, hN, hA, hin0, hret, rfl⟩ := hZ
  intro ls H locs hl hK hP hD hS
  exact lv_icmp_lt hx hb hdg ht (fun q => kt q ls H locs hl hK hP hD hS) (fun q => kf q ls H locs hl hK hP hD hS)
theorem z_if_ge (hZ : zI l D cl nf nm own cc nL ret Ts R mc ms post isI Z) {x : Int32} {off : Int} (tgt : Nat) (hdg : decode cc pc = .ok (.ifCond .ge off, 3)) (ht : (pc : Int) + off = (tgt : Int)) (kt : 0 ≤ x → Z k n tys tgt lv st w) (kf : ¬ 0 ≤ x → Z k n tys (pc + 3) lv st w) : Z k n tys pc lv (.int x :: st) w := by
  obtain ⟨p, e, s, m, args, below, meth, c, Q, A, hx, hb, hml, hown, hts, hN, hA, hin0, hret, rfl⟩ := hZ
  intro ls H locs hl hK hP hD hS
  exact lv_if_ge hx hb hdg ht (fun q => kt q ls H locs hl hK hP hD hS) (fun q => kf q ls H locs hl hK hP hD hS)
theorem z_icmp_ge (hZ : zI l D cl nf nm own cc nL ret Ts R mc ms post isI Z) {x y : Int32} {off : Int} (tgt : Nat) (hdg : decode cc pc = .ok (.if_icmp .ge off, 3)) (ht : (pc : Int) + off = (tgt : Int)) (kt : y ≤ x → Z k n tys tgt lv st w) (kf : ¬ y ≤ x → Z k n tys (pc + 3) lv st w) : Z k n tys pc lv (.int y :: .int x :: st) w := by
  obtain ⟨p, e, s, m, args, below, meth, c, Q, A, hx, hb, hml, hown, hts, hN, hA, hin0, hret, rfl⟩ := hZ
  intro ls H locs hl hK hP hD hS
  exact lv_icmp_ge hx hb hdg ht (fun q => kt q ls H locs hl hK hP hD hS) (fun q => kf q ls H locs hl hK hP hD hS)
theorem z_if_gt (hZ : zI l D cl nf nm own cc nL ret Ts R mc ms post isI Z) {x : Int32} {off : Int} (tgt : Nat) (hdg : decode cc pc = .ok (.ifCond .gt off, 3)) (ht : (pc : Int) + off = (tgt : Int)) (kt : 0 < x → Z k n tys tgt lv st w) (kf : ¬ 0 < x → Z k n tys (pc + 3) lv st w) : Z k n tys pc lv (.int x :: st) w := by
  obtain ⟨p, e, s, m, args, below, meth, c, Q, A, hx, hb, hml, hown, hts, hN, hA, hin0, hret, rfl⟩ := hZ
  intro ls H locs hl hK hP hD hS
  exact lv_if_gt hx hb hdg ht (fun q => kt q ls H locs hl hK hP hD hS) (fun q => kf q ls H locs hl hK hP hD hS)
theorem z_icmp_gt (hZ : zI l D cl nf nm own cc nL ret Ts R mc ms post isI Z) {x y : Int32} {off : Int} (tgt : Nat) (hdg : decode cc pc = .ok (.if_icmp .gt off, 3)) (ht : (pc : Int) + off = (tgt : Int)) (kt : y < x → Z k n tys tgt lv st w) (kf : ¬ y < x → Z k n tys (pc + 3) lv st w) : Z k n tys pc lv (.int y :: .int x :: st) w := by
  obtain ⟨p, e, s, m, args, below, meth, c, Q, A, hx, hb, hml, hown, hts, hN, hA, hin0, hret, rfl⟩ := hZ
  intro ls H locs hl hK hP hD hS
  exact lv_icmp_gt hx hb hdg ht (fun q => kt q ls H locs hl hK hP hD hS) (fun q => kf q ls H locs hl hK hP hD hS)
theorem z_if_le (hZ : zI l D cl nf nm own cc nL ret Ts R mc ms post isI Z) {x : Int32} {off : Int} (tgt : Nat) (hdg : decode cc pc = .ok (.ifCond .le off, 3)) (ht : (pc : Int) + off = (tgt : Int)) (kt : x ≤ 0 → Z k n tys tgt lv st w) (kf : ¬ x ≤ 0 → Z k n tys (pc + 3) lv st w) : Z k n tys pc lv (.int x :: st) w := by
  obtain ⟨p, e, s, m, args, below, meth, c, Q, A, hx, hb, hml, hown, hts, hN, hA, hin0, hret, rfl⟩ := hZ
  intro ls H locs hl hK hP hD hS
  exact lv_if_le hx hb hdg ht (fun q => kt q ls H locs hl hK hP hD hS) (fun q => kf q ls H locs hl hK hP hD hS)
theorem z_icmp_le (hZ : zI l D cl nf nm own cc nL ret Ts R mc ms post isI Z) {x y : Int32} {off : Int} (tgt : Nat) (hdg : decode cc pc = .ok (.if_icmp .le off, 3)) (ht : (pc : Int) + off = (tgt : Int)) (kt : x ≤ y → Z k n tys tgt lv st w) (kf : ¬ x ≤ y → Z k n tys (pc + 3) lv st w) : Z k n tys pc lv (.int y :: .int x :: st) w := by
  obtain ⟨p, e, s, m, args, below, meth, c, Q, A, hx, hb, hml, hown, hts, hN, hA, hin0, hret, rfl⟩ := hZ
  intro ls H locs hl hK hP hD hS
  exact lv_icmp_le hx hb hdg ht (fun q => kt q ls H locs hl hK hP hD hS) (fun q => kf q ls H locs hl hK hP hD hS)
theorem z_goto (hZ : zI l D cl nf nm own cc nL ret Ts R mc ms post isI Z) {off : Int} (tgt : Nat) (hdg : decode cc pc = .ok (.goto off, 3)) (ht : (pc : Int) + off = (tgt : Int)) (kk : Z k n tys tgt lv st w) : Z k n tys pc lv st w := by
  obtain ⟨p, e, s, m, args, below, meth, c, Q, A, hx, hb, hml, hown, hts, hN, hA, hin0, hret, rfl⟩ := hZ
  intro ls H locs hl hK hP hD hS
  exact lv_goto hx hb hdg ht (kk ls H locs hl hK hP hD hS)
theorem z_lif_eq (hZ : zI l D cl nf nm own cc nL ret Ts R mc ms post isI Z) {x y : Int64} {off : Int} (tgt : Nat) (hd1 : decode cc pc = .ok (.lcmp, 1)) (hd2 : decode cc (pc + 1) = .ok (.ifCond .eq off, 3)) (ht : ((pc + 1 : Nat) : Int) + off = (tgt : Int)) (kt : x = y → Z k n tys tgt lv st w) (kf : ¬ x = y → Z k n tys (pc + 4) lv st w) : Z k n tys pc lv (.long y :: .long x :: st) w := by
  obtain ⟨p, e, s, m, args, below, meth, c, Q, A, hx, hb, hml, hown, hts, hN, hA, hin0, hret, rfl⟩ := hZ
  intro ls H locs hl hK hP hD hS
  exact W.lcmp hx hb hd1 (lv_if_eq hx hb hd2 ht (fun q => kt ((lg_cmp_eq x y).mp q) ls H locs hl hK hP hD hS) (fun q => kf (fun q2 => q ((lg_cmp_eq x y).mpr q2)) ls H locs hl hK hP hD hS))
theorem z_lif_ne (hZ : zI l D cl nf nm own cc nL ret Ts R mc ms post isI Z) {x y : Int64} {off : Int} (tgt : Nat) (hd1 : decode cc pc = .ok (.lcmp, 1)) (hd2 : decode cc (pc + 1) = .ok (.ifCond .ne off, 3)) (ht : ((pc + 1 : Nat) : Int) + off = (tgt : Int)) (kt : ¬ x = y → Z k n tys tgt lv st w) (kf : x = y → Z k n tys (pc + 4) lv st w) : Z k n tys pc lv (.long y :: .long x :: st) w := by
  obtain ⟨p, e, s, m, args, below, meth, c, Q, A, hx, hb, hml, hown, hts, hN, hA, hin0, hret, rfl⟩ := hZ
  intro ls H locs hl hK hP hD hS
  refine W.lcmp hx hb hd1 (lv_if_ne hx hb hd2 ht (fun q => kt (fun q2 => ?_) ls H locs hl hK hP hD hS) (fun q => kf ?_ ls H locs hl hK hP hD hS))
  · revert q; rw [(lg_cmp_eq x y).mpr q2]; decide
  · exact (lg_cmp_eq x y).mp q
theorem z_lif_lt (hZ : zI l D cl nf nm own cc nL ret Ts R mc ms post isI Z) {x y : Int64} {off : Int} (tgt : Nat) (hd1 : decode cc pc = .ok (.lcmp, 1)) (hd2 : decode cc (pc + 1) = .ok (.ifCond .lt off, 3)) (ht : ((pc + 1 : Nat) : Int) + off = (tgt : Int)) (kt : x < y → Z k n tys tgt lv st w) (kf : ¬ x < y → Z k n tys (pc + 4) lv st w) : Z k n tys pc lv (.long y :: .long x :: st) w := by
  obtain ⟨p, e, s, m, args, below, meth, c, Q, A, hx, hb, hml, hown, hts, hN, hA, hin0, hret, rfl⟩ := hZ
  intro ls H locs hl hK hP hD hS
  exact W.lcmp hx hb hd1 (lv_if_lt hx hb hd2 ht (fun q => kt ((lg_cmp_lt x y).mp q) ls H locs hl hK hP hD hS) (fun q => kf (fun q2 => q ((lg_cmp_lt x y).mpr q2)) ls H locs hl hK hP hD hS))
theorem z_lif_ge (hZ : zI l D cl nf nm own cc nL ret Ts R mc ms post isI Z) {x y : Int64} {off : Int} (tgt : Nat) (hd1 : decode cc pc = .ok (.lcmp, 1)) (hd2 : decode cc (pc + 1) = .ok (.ifCond .ge off, 3)) (ht : ((pc + 1 : Nat) : Int) + off = (tgt : Int)) (kt : y ≤ x → Z k n tys tgt lv st w) (kf : ¬ y ≤ x → Z k n tys (pc + 4) lv st w) : Z k n tys pc lv (.long y :: .long x :: st) w := by
  obtain ⟨p, e, s, m, args, below, meth, c, Q, A, hx, hb, hml, hown, hts, hN, hA, hin0, hret, rfl⟩ := hZ
  intro ls H locs hl hK hP hD hS
  exact W.lcmp hx hb hd1 (lv_if_ge hx hb hd2 ht (fun q => kt ((lg_cmp_ge x y).mp q) ls H locs hl hK hP hD hS) (fun q => kf (fun q2 => q ((lg_cmp_ge x y).mpr q2)) ls H locs hl hK hP hD hS))
theorem z_lif_gt (hZ : zI l D cl nf nm own cc nL ret Ts R mc ms post isI Z) {x y : Int64} {off : Int} (tgt : Nat) (hd1 : decode cc pc = .ok (.lcmp, 1)) (hd2 : decode cc (pc + 1) = .ok (.ifCond .gt off, 3)) (ht : ((pc + 1 : Nat) : Int) + off = (tgt : Int)) (kt : y < x → Z k n tys tgt lv st w) (kf : ¬ y < x → Z k n tys (pc + 4) lv st w) : Z k n tys pc lv (.long y :: .long x :: st) w := by
  obtain ⟨p, e, s, m, args, below, meth, c, Q, A, hx, hb, hml, hown, hts, hN, hA, hin0, hret, rfl⟩ := hZ
  intro ls H locs hl hK hP hD hS
  exact W.lcmp hx hb hd1 (lv_if_gt hx hb hd2 ht (fun q => kt ((lg_cmp_gt x y).mp q) ls H locs hl hK hP hD hS) (fun q => kf (fun q2 => q ((lg_cmp_gt x y).mpr q2)) ls H locs hl hK hP hD hS))
theorem z_lif_le (hZ : zI l D cl nf nm own cc nL ret Ts R mc ms post isI Z) {x y : Int64} {off : Int} (tgt : Nat) (hd1 : decode cc pc = .ok (.lcmp, 1)) (hd2 : decode cc (pc + 1) = .ok (.ifCond .le off, 3)) (ht : ((pc + 1 : Nat) : Int) + off = (tgt : Int)) (kt : x ≤ y → Z k n tys tgt lv st w) (kf : ¬ x ≤ y → Z k n tys (pc + 4) lv st w) : Z k n tys pc lv (.long y :: .long x :: st) w := by
  obtain ⟨p, e, s, m, args, below, meth, c, Q, A, hx, hb, hml, hown, hts, hN, hA, hin0, hret, rfl⟩ := hZ
  intro ls H locs hl hK hP hD hS
  exact W.lcmp hx hb hd1 (lv_if_le hx hb hd2 ht (fun q => kt ((lg_cmp_le x y).mp q) ls H locs hl hK hP hD hS) (fun q => kf (fun q2 => q ((lg_cmp_le x y).mpr q2)) ls H locs hl hK hP hD hS))
theorem z_tabAt (hZ : zI l D cl nf nm own cc nL ret Ts R mc ms post isI Z) {dflt lo hi : Int} {offs : Array Int} {len : Nat} {x : Int32} {off : Int} (v : Int32) (tgt : Nat) (hv : x = v) (hdg : decode cc pc = .ok (.tableswitch dflt lo hi offs, len)) (h1 : ¬ v.toInt < lo) (h2 : ¬ hi < v.toInt) (ho : offs[(v.toInt - lo).toNat]? = some off) (ht : (pc : Int) + off = (tgt : Int)) (kk : Z k n tys tgt lv st w) : Z k n tys pc lv (.int x :: st) w := by
  obtain ⟨p, e, s, m, args, below, meth, c, Q, A, hx, hb, hml, hown, hts, hN, hA, hin0, hret, rfl⟩ := hZ
  intro ls H locs hl hK hP hD hS
  subst hv
  exact lv_tableIn hx hb hdg h1 h2 ho ht (kk ls H locs hl hK hP hD hS)
theorem z_tabOut (hZ : zI l D cl nf nm own cc nL ret Ts R mc ms post isI Z) {dflt lo hi : Int} {offs : Array Int} {len : Nat} {x : Int32} (tgt : Nat) (hdg : decode cc pc = .ok (.tableswitch dflt lo hi offs, len)) (h : x.toInt < lo ∨ hi < x.toInt) (ht : (pc : Int) + dflt = (tgt : Int)) (kk : Z k n tys tgt lv st w) : Z k n tys pc lv (.int x :: st) w := by
  obtain ⟨p, e, s, m, args, below, meth, c, Q, A, hx, hb, hml, hown, hts, hN, hA, hin0, hret, rfl⟩ := hZ
  intro ls H locs hl hK hP hD hS
  exact lv_tableOut hx hb hdg h ht (kk ls H locs hl hK hP hD hS)
theorem z_get (hZ : zI l D cl nf nm own cc nL ret Ts R mc ms post isI Z) {C : String} {T : u_T} {N ci index a : Nat} {fs : List Value} (q0 : Nat) (he : w[q0]? = some (a, .inr (ci, fs))) (hc : cl[ci]? = some (C, T, N)) (hw : ∀ x ∈ u_ws C T N, x ∈ Ts) (j : Nat) (hj : j < N) (hlink : Cond.fieldLink own index (T j).1 (T j).2.1 (T j).2.2.1 ∈ Ts) {v : Value} (hv : fs[j]? = some v) (hdg : decode cc pc = .ok (.getfield index, 3)) (kk : Z k n tys (pc + 3) lv (v :: st) w) : Z k n tys pc lv (.ref a :: st) w := by
  obtain ⟨p, e, s, m, args, below, meth, c, Q, A, hx, hb, hml, hown, hts, hN, hA, hin0, hret, rfl⟩ := hZ
  intro ls H locs hl hK hP hD hS
  exact va_get hx hb hts hw hown hK hP q0 he hc j hj (hts _ hlink) (fun _ h9 => h9) hv hdg (kk ls H locs hl hK hP hD hS)
theorem z_put (hZ : zI l D cl nf nm own cc nL ret Ts R mc ms post isI Z) {C : String} {T : u_T} {N ci index a : Nat} {fs : List Value} (q0 : Nat) (he : w[q0]? = some (a, .inr (ci, fs))) (hc : cl[ci]? = some (C, T, N)) (hw : ∀ x ∈ u_ws C T N, x ∈ Ts) (j : Nat) (hj : j < N) (hlink : Cond.fieldLink own index (T j).1 (T j).2.1 (T j).2.2.1 ∈ Ts) (ty0 : Nat → FieldType) (hty : ∀ k, k < N → parseFieldDescriptor (T k).2.2.1 = some (ty0 k)) (hnm : ∀ a, a < N → ∀ b, b < N → a ≠ b → (T a).2.1 ≠ (T b).2.1) (hfin : (T j).2.2.2 = false) {v : Value} (hn : narrow (ty0 j) v = v) (hfit : fits (ty0 j) v = true) (hln : j < fs.length) (hdg : decode cc pc = .ok (.putfield index, 3)) (kk : Z k n tys (pc + 3) lv st (w.set q0 (a, .inr (ci, fs.set j v)))) : Z k n tys pc lv (v :: .ref a :: st) w := by
  obtain ⟨p, e, s, m, args, below, meth, c, Q, A, hx, hb, hml, hown, hts, hN, hA, hin0, hret, rfl⟩ := hZ
  intro ls H locs hl hK hP hD hS
  exact va_put hx hb hts hw ty0 hty hnm hown hK hP hD hS q0 he hc j hj (hts _ hlink) (fun _ h9 => h9) hfin (hty j hj) hn hfit hln hdg (fun H locs hP hD hS => kk ls H locs hl hK hP hD hS)
theorem z_getN (hZ : zI l D cl nf nm own cc nL ret Ts R mc ms post isI Z) {C : String} {T : u_T} {N ci index a : Nat} {fs : List Value} (q0 : Nat) (he : w[q0]? = some (a, .inr (ci, fs))) (hc : cl[ci]? = some (C, T, N)) (hw : ∀ x ∈ u_ws C T N, x ∈ Ts) (j : Nat) (hj : j < N) {host : String} (hlink : (own, index, (T j).1, (T j).2.1, (T j).2.2.1, host) ∈ nf) {v : Value} (hv : fs[j]? = some v) (hdg : decode cc pc = .ok (.getfield index, 3)) (kk : Z k n tys (pc + 3) lv (v :: st) w) : Z k n tys pc lv (.ref a :: st) w := by
  obtain ⟨p, e, s, m, args, below, meth, c, Q, A, hx, hb, hml, hown, hts, hN, hA, hin0, hret, rfl⟩ := hZ
  intro ls H locs hl hK hP hD hS
  exact va_getN hx hb hts hw hown hK hP q0 he hc j hj (va_Nw.use rfl (hN.1 _ hlink)) (fun _ h9 => h9) hv hdg (kk ls H locs hl hK hP hD hS)
theorem z_putN (hZ : zI l D cl nf nm own cc nL ret Ts R mc ms post isI Z) {C : String} {T : u_T} {N ci index a : Nat} {fs : List Value} (q0 : Nat) (he : w[q0]? = some (a, .inr (ci, fs))) (hc : cl[ci]? = some (C, T, N)) (hw : ∀ x ∈ u_ws C T N, x ∈ Ts) (j : Nat) (hj : j < N) {host : String} (hlink : (own, index, (T j).1, (T j).2.1, (T j).2.2.1, host) ∈ nf) (ty0 : Nat → FieldType) (hty : ∀ k, k < N → parseFieldDescriptor (T k).2.2.1 = some (ty0 k)) (hnm : ∀ a, a < N → ∀ b, b < N → a ≠ b → (T a).2.1 ≠ (T b).2.1) (hfin : (T j).2.2.2 = false) {v : Value} (hn : narrow (ty0 j) v = v) (hfit : fits (ty0 j) v = true) (hln : j < fs.length) (hdg : decode cc pc = .ok (.putfield index, 3)) (kk : Z k n tys (pc + 3) lv st (w.set q0 (a, .inr (ci, fs.set j v)))) : Z k n tys pc lv (v :: .ref a :: st) w := by
  obtain ⟨p, e, s, m, args, below, meth, c, Q, A, hx, hb, hml, hown, hts, hN, hA, hin0, hret, rfl⟩ := hZ
  intro ls H locs hl hK hP hD hS
  exact va_putN hx hb hts hw ty0 hty hnm hown hK hP hD hS q0 he hc j hj (va_Nw.use rfl (hN.1 _ hlink)) (fun _ h9 => h9) hfin (hty j hj) hn hfit hln hdg (fun H locs hP hD hS => kk ls H locs hl hK hP hD hS)
theorem z_putF (hZ : zI l D cl nf nm own cc nL ret Ts R mc ms post isI Z) {C : String} {T : u_T} {N ci index a : Nat} {fs : List Value} (q0 : Nat) (he : w[q0]? = some (a, .inr (ci, fs))) (hc : cl[ci]? = some (C, T, N)) (hw : ∀ x ∈ u_ws C T N, x ∈ Ts) (j : Nat) (hj : j < N) (hlink : Cond.fieldLink own index (T j).1 (T j).2.1 (T j).2.2.1 ∈ Ts) (ty0 : Nat → FieldType) (hty : ∀ k, k < N → parseFieldDescriptor (T k).2.2.1 = some (ty0 k)) (hnm : ∀ a, a < N → ∀ b, b < N → a ≠ b → (T a).2.1 ≠ (T b).2.1) (hfin : (T j).2.2.2 = true) (hI : isI = true) (hdecl : (T j).1 = own) {v : Value} (hn : narrow (ty0 j) v = v) (hfit : fits (ty0 j) v = true) (hln : j < fs.length) (hdg : decode cc pc = .ok (.putfield index, 3)) (kk : Z k n tys (pc + 3) lv st (w.set q0 (a, .inr (ci, fs.set j v)))) : Z k n tys pc lv (v :: .ref a :: st) w := by
  obtain ⟨p, e, s, m, args, below, meth, c, Q, A, hx, hb, hml, hown, hts, hN, hA, hin0, hret, rfl⟩ := hZ
  intro ls H locs hl hK hP hD hS
  exact va_putF hx hb hts hw ty0 hty hnm hown hK hP hD hS q0 he hc j hj (hts _ hlink) (fun _ h9 => h9) hfin (hin0 hI) hdecl (hty j hj) hn hfit hln hdg (fun H locs hP hD hS => kk ls H locs hl hK hP hD hS)
theorem z_iald (hZ : zI l D cl nf nm own cc nL ret Ts R mc ms post isI Z) {cA : ClassId} {N a : Nat} {f : Nat → Int32} {i : Int32} (q0 t0 : Nat) (ha : w[q0]? = some (a, .inl (cA, N, .inl f))) (ht : tys[t0]? = some (cA, .int)) (hin : vp_in i N) (hdg : decode cc pc = .ok (.iaload, 1)) (kk : ∀ v : Int32, v = f i.toNatClampNeg → Z k n tys (pc + 1) lv (.int v :: st) w) : Z k n tys pc lv (.int i :: .ref a :: st) w := by
  obtain ⟨p, e, s, m, args, below, meth, c, Q, A, hx, hb, hml, hown, hts, hN, hA, hin0, hret, rfl⟩ := hZ
  intro ls H locs hl hK hP hD hS
  exact va_iald hx hb hK hP q0 t0 ha ht hin hdg (kk _ rfl ls H locs hl hK hP hD hS)
theorem z_lald (hZ : zI l D cl nf nm own cc nL ret Ts R mc ms post isI Z) {cA : ClassId} {N a : Nat} {f : Nat → Int64} {i : Int32} (q0 t0 : Nat) (ha : w[q0]? = some (a, .inl (cA, N, .inr (.inl f)))) (ht : tys[t0]? = some (cA, .long)) (hin : vp_in i N) (hdg : decode cc pc = .ok (.laload, 1)) (kk : ∀ v : Int64, v = f i.toNatClampNeg → Z k n tys (pc + 1) lv (.long v :: st) w) : Z k n tys pc lv (.int i :: .ref a :: st) w := by
  obtain ⟨p, e, s, m, args, below, meth, c, Q, A, hx, hb, hml, hown, hts, hN, hA, hin0, hret, rfl⟩ := hZ
  intro ls H locs hl hK hP hD hS
  exact va_lald hx hb hK hP q0 t0 ha ht hin hdg (kk _ rfl ls H locs hl hK hP hD hS)
theorem z_iast (hZ : zI l D cl nf nm own cc nL ret Ts R mc ms post isI Z) {cA : ClassId} {N a : Nat} {f : Nat → Int32} {i x : Int32} (q0 t0 : Nat) (ha : w[q0]? = some (a, .inl (cA, N, .inl f))) (ht : tys[t0]? = some (cA, .int)) (hin : vp_in i N) (hdg : decode cc pc = .ok (.iastore, 1)) (kk : ∀ g : Nat → Int32, g = upd f i.toNatClampNeg x → Z k n tys (pc + 1) lv st (w.set q0 (a, .inl (cA, N, .inl g)))) : Z k n tys pc lv (.int x :: .int i :: .ref a :: st) w := by
  obtain ⟨p, e, s, m, args, below, meth, c, Q, A, hx, hb, hml, hown, hts, hN, hA, hin0, hret, rfl⟩ := hZ
  intro ls H locs hl hK hP hD hS
  exact va_iast hx hb hK hP hD hS q0 t0 ha ht hin hdg (fun H locs hP hD hS => kk _ rfl ls H locs hl hK hP hD hS)
theorem z_last (hZ : zI l D cl nf nm own cc nL ret Ts R mc ms post isI Z) {cA : ClassId} {N a : Nat} {f : Nat → Int64} {i : Int32} {x : Int64} (q0 t0 : Nat) (ha : w[q0]? = some (a, .inl (cA, N, .inr (.inl f)))) (ht : tys[t0]? = some (cA, .long)) (hin : vp_in i N) (hdg : decode cc pc = .ok (.lastore, 1)) (kk : ∀ g : Nat → Int64, g = vp_updL f i.toNatClampNeg x → Z k n tys (pc + 1) lv st (w.set q0 (a, .inl (cA, N, .inr (.inl g))))) : Z k n tys pc lv (.long x :: .int i :: .ref a :: st) w := by
  obtain ⟨p, e, s, m, args, below, meth, c, Q, A, hx, hb, hml, hown, hts, hN, hA, hin0, hret, rfl⟩ := hZ
  intro ls H locs hl hK hP hD hS
  exact va_last hx hb hK hP hD hS q0 t0 ha ht hin hdg (fun H locs hP hD hS => kk _ rfl ls H locs hl hK hP hD hS)
theorem z_aald (hZ : zI l D cl nf nm own cc nL ret Ts R mc ms post isI Z) {cA : ClassId} {C : String} {N a y : Nat} {f : Nat → Option Nat} {i : Int32} (q0 t0 : Nat) (ha : w[q0]? = some (a, .inl (cA, N, .inr (.inr (.inr (.inr f)))))) (ht : tys[t0]? = some (cA, .object C)) (hin : vp_in i N) (hy : f i.toNatClampNeg = some y) (hdg : decode cc pc = .ok (.aaload, 1)) (kk : Z k n tys (pc + 1) lv (.ref y :: st) w) : Z k n tys pc lv (.int i :: .ref a :: st) w := by
  obtain ⟨p, e, s, m, args, below, meth, c, Q, A, hx, hb, hml, hown, hts, hN, hA, hin0, hret, rfl⟩ := hZ
  intro ls H locs hl hK hP hD hS
  exact va_aldq hx hb hK hP q0 t0 ha ht hin hdg (by rw [hy]; exact kk ls H locs hl hK hP hD hS)
theorem z_aast (hZ : zI l D cl nf nm own cc nL ret Ts R mc ms post isI Z) {cA : ClassId} {r : vw_C} {N a v ci : Nat} {vs : List Value} {f : Nat → Option Nat} {i : Int32} (q0 t0 qk : Nat) (ha : w[q0]? = some (a, .inl (cA, N, .inr (.inr (.inr (.inr f)))))) (ht : tys[t0]? = some (cA, .object r.1)) (hv : w[qk]? = some (v, .inr (ci, vs))) (hc : cl[ci]? = some r) (hin : vp_in i N) (hdg : decode cc pc = .ok (.aastore, 1)) (kk : ∀ g : Nat → Option Nat, g = va_up f i.toNatClampNeg (some v) → Z k n tys (pc + 1) lv st (w.set q0 (a, .inl (cA, N, .inr (.inr (.inr (.inr g))))))) : Z k n tys pc lv (.ref v :: .int i :: .ref a :: st) w := by
  obtain ⟨p, e, s, m, args, below, meth, c, Q, A, hx, hb, hml, hown, hts, hN, hA, hin0, hret, rfl⟩ := hZ
  intro ls H locs hl hK hP hD hS
  exact va_astq hx hb hK hP hD hS q0 t0 qk ci ha ht hv hc hin hdg (fun H locs hP hD hS => kk _ rfl ls H locs hl hK hP hD hS)
theorem z_mmax (hZ : zI l D cl nf nm own cc nL ret Ts R mc ms post isI Z) {index : Nat} {x y : Int32} (hlink : Cond.methodLink own index Lib.Math.max.name ∈ Ts) (hstat : Cond.static Lib.Math.max.name ∈ Ts) (hini : Cond.initialized "java/lang/Math" ∈ Ts) (hcode : Cond.code Lib.Math.max.name Lib.Math.max.code 2 (some .int) ∈ Ts) (hf : 1 ≤ R.frames) (hlo : (st.map fun v => v.category).sum + 13 ≤ R.locals) (hc : k ≤ R.cells) (hs : n ≤ R.slots) (hdg : decode cc pc = .ok (.invokestatic index, 3)) (kk : ∀ v : Int32, v = (if x < y then y else x) → Z k n tys (pc + 3) lv (.int v :: st) w) : Z k n tys pc lv (.int y :: .int x :: st) w := by
  obtain ⟨p, e, s, m, args, below, meth, c, Q, A, hx, hb, hml, hown, hts, hN, hA, hin0, hret, rfl⟩ := hZ
  intro ls H locs hl hK hP hD hS
  exact va_mmax hx hb (by rw [hml]; exact hl.1.symm) hown (hts _ hlink) (hts _ hstat) (hts _ hini) (hts _ hcode) hf hlo hc hs hdg (kk _ rfl ls H locs hl hK hP hD hS)
theorem z_mmin (hZ : zI l D cl nf nm own cc nL ret Ts R mc ms post isI Z) {index : Nat} {x y : Int32} (hlink : Cond.methodLink own index Lib.Math.min.name ∈ Ts) (hstat : Cond.static Lib.Math.min.name ∈ Ts) (hini : Cond.initialized "java/lang/Math" ∈ Ts) (hcode : Cond.code Lib.Math.min.name Lib.Math.min.code 2 (some .int) ∈ Ts) (hf : 1 ≤ R.frames) (hlo : (st.map fun v => v.category).sum + 13 ≤ R.locals) (hc : k ≤ R.cells) (hs : n ≤ R.slots) (hdg : decode cc pc = .ok (.invokestatic index, 3)) (kk : ∀ v : Int32, v = (if y < x then y else x) → Z k n tys (pc + 3) lv (.int v :: st) w) : Z k n tys pc lv (.int y :: .int x :: st) w := by
  obtain ⟨p, e, s, m, args, below, meth, c, Q, A, hx, hb, hml, hown, hts, hN, hA, hin0, hret, rfl⟩ := hZ
  intro ls H locs hl hK hP hD hS
  exact va_mmin hx hb (by rw [hml]; exact hl.1.symm) hown (hts _ hlink) (hts _ hstat) (hts _ hini) (hts _ hcode) hf hlo hc hs hdg (kk _ rfl ls H locs hl hK hP hD hS)
theorem z_new (hZ : zI l D cl nf nm own cc nL ret Ts R mc ms post isI Z) {C : String} {T : u_T} {N ci index : Nat} {fs : List Value} (hw : ∀ x ∈ u_ws C T N, x ∈ Ts) (ty : Nat → FieldType) (hty : ∀ k, k < N → parseFieldDescriptor (T k).2.2.1 = some (ty k)) (hcl : Cond.classLink own index C ∈ Ts) (hinst : Cond.instantiable C N ∈ Ts) (hini : Cond.initialized C ∈ Ts) (hc : cl[ci]? = some (C, T, N)) (hfs : ∀ j, j < N → defaultValue (ty j) = vp_V fs j) (hcells : k + 1 ≤ R.cells) (hslots : n + N ≤ R.slots) (hdg : decode cc pc = .ok (.new index, 3)) (kk : ∀ q : Nat, Z (k + 1) (n + N) tys (pc + 3) lv (.ref q :: st) (w ++ [(q, .inr (ci, fs))])) : Z k n tys pc lv st w := by
  obtain ⟨p, e, s, m, args, below, meth, c, Q, A, hx, hb, hml, hown, hts, hN, hA, hin0, hret, rfl⟩ := hZ
  intro ls H locs hl hK hP hD hS
  exact va_new hx hb hts hw ty hty hown (hts _ hcl) (hts _ hinst) (hts _ hini) hK hP hD hS hA hc hfs hcells hslots hdg (fun q H hP hD hS => kk q ls H locs hl hK hP hD hS)
theorem z_newa (hZ : zI l D cl nf nm own cc nL ret Ts R mc ms post isI Z) {atype : ArrayType} {ty : FieldType} {nn : Int32} {N' : Nat} {a0 : vp_A} (harr : Cond.arrayClass (newarray.typeOf atype) ∈ Ts) (hty : newarray.typeOf atype = ty) (ha : ∀ cA : ClassId, vp_cell cA a0 = arrV cA N' (fun _ => defaultValue ty)) (hn : ¬ nn < 0) (hN' : nn.toNatClampNeg = N') (hbytes : N' * componentBytes ty ≤ 536870912) (hcells : k + 1 ≤ R.cells) (hslots : n + N' ≤ R.slots) (hdg : decode cc pc = .ok (.newarray atype, 2)) (kk : ∀ (q : Nat) (cA : ClassId), Z (k + 1) (n + N') (tys ++ [(cA, ty)]) (pc + 2) lv (.ref q :: st) (w ++ [(q, .inl (cA, a0))])) : Z k n tys pc lv (.int nn :: st) w := by
  obtain ⟨p, e, s, m, args, below, meth, c, Q, A, hx, hb, hml, hown, hts, hN, hA, hin0, hret, rfl⟩ := hZ
  intro ls H locs hl hK hP hD hS
  exact va_newa hx hb (hts _ harr) hty hK hP hD hS hA ha hn hN' hbytes hcells hslots hdg (fun q cA H hK hP hD hS => kk q cA ls H locs hl hK hP hD hS)
theorem z_newq (hZ : zI l D cl nf nm own cc nL ret Ts R mc ms post isI Z) {index : Nat} {nn : Int32} {N' : Nat} (hcl : Cond.classLink own index "MixedNumbers$Value" ∈ Ts) (hn : ¬ nn < 0) (hN' : nn.toNatClampNeg = N') (hbytes : N' * 4 ≤ 536870912) (hcells : k + 1 ≤ R.cells) (hslots : n + N' ≤ R.slots) (hdg : decode cc pc = .ok (.anewarray index, 3)) (kk : ∀ (q : Nat) (cA : ClassId), Z (k + 1) (n + N') (tys ++ [(cA, .object "MixedNumbers$Value")]) (pc + 3) lv (.ref q :: st) (w ++ [(q, .inl (cA, N', .inr (.inr (.inr (.inr (fun _ => none))))))])) : Z k n tys pc lv (.int nn :: st) w := by
  obtain ⟨p, e, s, m, args, below, meth, c, Q, A, hx, hb, hml, hown, hts, hN, hA, hin0, hret, rfl⟩ := hZ
  intro ls H locs hl hK hP hD hS
  exact va_newq hx hb hown (hts _ hcl) hN.2.2 hK hP hD hS hA hn hN' hbytes hcells hslots hdg (fun q cA H hK hP hD hS => kk q cA ls H locs hl hK hP hD hS)
theorem z_swap (hZ : zI l D cl nf nm own cc nL ret Ts R mc ms post isI Z) {a b c : va_W} (kk : Z k n tys pc lv st ((a ++ c) ++ b)) : Z k n tys pc lv st ((a ++ b) ++ c) := by
  obtain ⟨p, e, s, m, args, below, meth, cd, Q, A, hx, hb, hml, hown, hts, hN, hA, hin0, hret, rfl⟩ := hZ
  intro ls H locs hl hK hP hD hS
  exact kk ls H locs hl hK hP.swap hD.swap hS
theorem z_perm (hZ : zI l D cl nf nm own cc nL ret Ts R mc ms post isI Z) {a b c : va_W} (kk : Z k n tys pc lv st ((b ++ a) ++ c)) : Z k n tys pc lv st ((a ++ b) ++ c) := by
  rw [List.append_assoc]
  refine z_swap hZ (a := []) (b := a) (c := b ++ c) ?_
  exact z_swap hZ (a := b) (b := c) (c := a) kk
theorem z_objInit (hZ : zI l D cl nf nm own cc nL ret Ts R mc ms post isI Z) {index a : Nat} (hlink : Cond.methodLink own index objectInit ∈ Ts) (hinst : Cond.instanceMethod objectInit ∈ Ts) (hcode : Cond.code objectInit ⟨#[0xb1]⟩ 1 none ∈ Ts) (hf : 1 ≤ R.frames) (hlo : (st.map fun v => v.category).sum + 12 ≤ R.locals) (hdg : decode cc pc = .ok (.invokespecial index, 3)) (kk : Z k n tys (pc + 3) lv st w) : Z k n tys pc lv (.ref a :: st) w := by
  obtain ⟨p, e, s, m, args, below, meth, c, Q, A, hx, hb, hml, hown, hts, hN, hA, hin0, hret, rfl⟩ := hZ
  intro ls H locs hl hK hP hD hS
  refine W.objInit hx hb hown (hts _ hlink) (hts _ hinst) (hts _ hcode) rfl (by rw [hml]; exact hl.1) rfl hdg hf (by show 2 * 0 + _ + 12 ≤ _; omega) ?_
  exact kk ls H locs hl hK hP hD hS
end ZL
section ZK
variable {l : Launch} {D : va_G} {cl : List vw_C} {nf : zNf} {nm : zNm} {own : String} {cc : ByteArray} {nL : Nat} {ret : Option FieldType} {Ts : List Cond} {R : Room} {mc ms : Nat} {post : zP} {isI : Bool} {Z : zZ}
variable {k n pc : Nat} {tys : zT} {lv : List (Nat × Value)} {st : List Value} {w : va_W}
variable {y : MethodName} {ws ws' : List Cond} {rm : Room} {As : List Value} {postc : zP} {bytes : ByteArray} {maxL cn index b : Nat} {rt : Option FieldType}
/-- what a callee's name says -/
def zY (y : MethodName) (ws : List Cond) (bytes : ByteArray) (maxL : Nat) (rt : Option FieldType) (cn : Nat) : Prop := (∃ ws', ws = Cond.code y bytes maxL rt :: ws') ∧ y.cls ≠ "java/lang/invoke/MethodHandle" ∧ y.cls ≠ "java/lang/invoke/VarHandle" ∧ (parseMethodDescriptor y.desc).map (fun d => d.parameters.length) = some cn
theorem z_blind {D : va_G} {cl : List vw_C} {nf : zNf} {nm : zNm} {As : List Value} {w0 : va_W} {tys : zT} {sz : Nat} : FrameBlind (zB D cl nf nm As w0 tys sz) := fun a U g mk q => by
  obtain ⟨q0, q1, q2, q3, q4, q5⟩ := q
  exact ⟨q0, q1, q2, va_K.moved (u := U) (U := U.calling g mk a) (Vm.Alike.refl U.vm) q3, q4, q5.same rfl⟩
theorem z_pre {D : va_G} {cl : List vw_C} {nf : zNf} {nm : zNm} {As : List Value} {w : va_W} {tys : zT} {s : State} {H : Heap} {A : Nat → Prop} (hK : va_K D cl tys s) (hP : va_P D cl w H) (hD : va_D A w) (hN : zN nf nm s) : ∀ U : State, U.heap = H → s.WarmedH U.vm → zB D cl nf nm As w tys H.size As.toArray U := fun U hU hW => ⟨rfl, by rw [hU], by rw [hU]; exact hP, va_K.moved hW.alike hK, hD.weaken (fun _ _ _ _ => trivial), hN.warm hW⟩
theorem z_free {A : Nat → Prop} {w : va_W} {H0 H : Heap} {locs : List Loc} (hD : va_D A w) (hS : va_S A H0 H locs) (hA : ∀ q : Nat, H0.size ≤ q → A q) : ∀ q, va_A w H.size q → A q := by
  intro q h
  rcases h with ⟨k, e, h⟩ | h
  · exact hD.2 k (q, e) h
  · exact hA q (Nat.le_trans hS.1 h)
/-- behind a call -/
theorem z_back {p : Program} {l : Launch} {e : Env} {R : Room} {s : State} {m : MethodId} {args : Array Value} {below : List Frame} {meth : Method} {c : Code} {H : Heap} {locs : List Loc} {cells slots : Nat} {Q : State → Prop} {pc : Nat} {ls : Array Slot} {rest st0 : List Value} {A : Nat → Prop} {a : Array Value} {mc ms : Nat} {D : va_G} {cl : List vw_C} {post : zP} {w : va_W}
    (hr : va_Run p l e R s m args below meth c H locs cells slots mc ms (F0 m pc ls st0) rest (zC D cl post w H.size a) (va_A w H.size)) (hD : va_D A w) (hS : va_S A s.heap H locs) (hA : ∀ q : Nat, s.heap.size ≤ q → A q)
    (kk : ∀ (v : Option Value) (w1 : va_W) (tys1 : zT) (H1 : Heap) (locs1 : List Loc), post v w1 tys1 → va_K D cl tys1 s → va_P D cl w1 H1 → va_D A w1 → va_S A s.heap H1 locs1 → W p l e R s m args below meth c H1 locs1 (cells + mc) (slots + ms) Q (F0 m (pc + 3) ls (v.toList ++ rest))) : W p l e R s m args below meth c H locs cells slots Q (F0 m pc ls st0) := by
  intro T hT X
  obtain ⟨v, st₀, t, T', L, h0, X', hL, e1, e2, ⟨⟨v', w1, tys1, hv, hp, hP1, hK1, hD1⟩, hz, hk⟩, st⟩ := hr T hT X
  cases hv
  rw [h0] at hz hk
  have hF := z_free hD hS hA
  obtain ⟨t2, a1, b1⟩ := kk v w1 tys1 T'.heap (locs ++ L) hp (va_K.moved (show t.vm.Alike s.vm from by rw [← e2]; exact X'.warmed.alike.symm) hK1) (by rw [e1]; exact hP1) (hD1.weaken (fun _ q _ h => hF q.1 h))
    ⟨Nat.le_trans hS.1 (by rw [e1]; exact hz), fun q h1 h2 => by rw [e1, hk q (Nat.lt_of_lt_of_le h1 hS.1) (fun z => h2 (hF q z))]; exact hS.2.1 q h1 h2, fun q hq => by
      rcases List.mem_append.mp hq with h | h
      · exact hS.2.2 q h
      · exact hF _ (hL q h)⟩ T' rfl X'
  exact ⟨t2, st t2 a1, b1⟩
theorem z_callS (hZ : zI l D cl nf nm own cc nL ret Ts R mc ms post isI Z) {rest : List Value} (hM : zM l D cl nf nm y ws rm As w tys postc) (hy : zY y ws bytes maxL rt cn) (hT : GoodIn Ts (va_wsS own index y ws))  (h0 : rm.cells = 0) (h1 : rm.slots = 0) (hR : rm.frames + 1 ≤ R.frames ∧ 8 + (maxL + 11) + rm.locals ≤ R.locals) (hn : As.length = cn) (hst : st = As.reverse ++ rest) (hroom : (rest.map fun v => v.category).sum ≤ 8) (hf : k ≤ R.cells ∧ n ≤ R.slots) (hdg : decode cc pc = .ok (.invokestatic index, 3)) (kk : ∀ (v : Option Value) (w1 : va_W) (tys1 : zT), postc v w1 tys1 → Z k n tys1 (pc + 3) lv (v.toList ++ rest) w1) : Z k n tys pc lv st w := by
  obtain ⟨p, e, s, m, args, below, meth, c, Q, A, hx, hb, hml, hown, hts, hN, hA, hin0, hret, rfl⟩ := hZ
  obtain ⟨⟨ws', hw⟩, hd⟩ := hy
  intro ls H locs hl hK hP hD hS
  subst hst
  have hf : k + rm.cells ≤ R.cells ∧ n + rm.slots ≤ R.slots := by rw [h0, h1]; exact hf
  have hr : va_Run p l e R s m args below meth c H locs k n rm.cells rm.slots (F0 m pc ls (As.reverse ++ rest)) rest (zC D cl postc w H.size As.toArray) (va_A w H.size) := va_runS (As := As) (rest := rest) ⟨hx, hb, hml, hown, hts⟩ (hM H.size) (va_cwS cn hts hT hw rfl rfl hd hR) ⟨z_blind, z_pre hK hP hD hN⟩ rfl hn hl.1 rfl (lv_room hroom) hdg hf
  rw [h0, h1] at hr
  exact z_back hr hD hS hA (fun v w1 tys1 H locs hp hK hP hD hS => kk v w1 tys1 hp ls H locs hl hK hP hD hS)
theorem z_callS0 (hZ : zI l D cl nf nm own cc nL ret Ts R mc ms post isI Z) {rest : List Value} (hM : zM l D cl nf nm y ws rm As w tys postc) (hy : zY y ws bytes maxL rt cn) (hT : GoodIn Ts (wsS own index y ws)) (ho : y.cls = own)  (h0 : rm.cells = 0) (h1 : rm.slots = 0) (hR : rm.frames + 1 ≤ R.frames ∧ 8 + (maxL + 11) + rm.locals ≤ R.locals) (hn : As.length = cn) (hst : st = As.reverse ++ rest) (hroom : (rest.map fun v => v.category).sum ≤ 8) (hf : k ≤ R.cells ∧ n ≤ R.slots) (hdg : decode cc pc = .ok (.invokestatic index, 3)) (kk : ∀ (v : Option Value) (w1 : va_W) (tys1 : zT), postc v w1 tys1 → Z k n tys1 (pc + 3) lv (v.toList ++ rest) w1) : Z k n tys pc lv st w := by
  obtain ⟨p, e, s, m, args, below, meth, c, Q, A, hx, hb, hml, hown, hts, hN, hA, hin0, hret, rfl⟩ := hZ
  obtain ⟨⟨ws', hw⟩, hd⟩ := hy
  intro ls H locs hl hK hP hD hS
  subst hst
  have hf : k + rm.cells ≤ R.cells ∧ n + rm.slots ≤ R.slots := by rw [h0, h1]; exact hf
  have hr : va_Run p l e R s m args below meth c H locs k n rm.cells rm.slots (F0 m pc ls (As.reverse ++ rest)) rest (zC D cl postc w H.size As.toArray) (va_A w H.size) := va_runS (As := As) (rest := rest) ⟨hx, hb, hml, hown, hts⟩ (hM H.size) (cwS cn hts hT hw rfl rfl ⟨ho, hd⟩ hR) ⟨z_blind, z_pre hK hP hD hN⟩ rfl hn hl.1 rfl (lv_room hroom) hdg hf
  rw [h0, h1] at hr
  exact z_back hr hD hS hA (fun v w1 tys1 H locs hp hK hP hD hS => kk v w1 tys1 hp ls H locs hl hK hP hD hS)
theorem z_callV (hZ : zI l D cl nf nm own cc nL ret Ts R mc ms post isI Z) {rest : List Value} (hM : zM l D cl nf nm y ws rm (.ref b :: As) w tys postc) (hy : zY y ws bytes maxL rt cn) (hT : GoodIn Ts (wsV own index y.cls y ws)) {T : u_T} {N ci : Nat} {fs : List Value} (q0 : Nat) (he : w[q0]? = some (b, .inr (ci, fs))) (hc : cl[ci]? = some (y.cls, T, N)) (h0 : rm.cells = 0) (h1 : rm.slots = 0) (hR : rm.frames + 1 ≤ R.frames ∧ 8 + (maxL + 11) + rm.locals ≤ R.locals) (hn : As.length = cn) (hst : st = As.reverse ++ .ref b :: rest) (hroom : (rest.map fun v => v.category).sum ≤ 8) (hf : k ≤ R.cells ∧ n ≤ R.slots) (hdg : decode cc pc = .ok (.invokevirtual index, 3)) (kk : ∀ (v : Option Value) (w1 : va_W) (tys1 : zT), postc v w1 tys1 → Z k n tys1 (pc + 3) lv (v.toList ++ rest) w1) : Z k n tys pc lv st w := by
  obtain ⟨p, e, s, m, args, below, meth, c, Q, A, hx, hb, hml, hown, hts, hN, hA, hin0, hret, rfl⟩ := hZ
  obtain ⟨⟨ws', hw⟩, hd⟩ := hy
  intro ls H locs hl hK hP hD hS
  subst hst
  have hf : k + rm.cells ≤ R.cells ∧ n + rm.slots ≤ R.slots := by rw [h0, h1]; exact hf
  have hr : va_Run p l e R s m args below meth c H locs k n rm.cells rm.slots (F0 m pc ls (As.reverse ++ .ref b :: rest)) rest (zC D cl postc w H.size (.ref b :: As).toArray) (va_A w H.size) := va_runV (As := As) (rest := rest) ⟨hx, hb, hml, hown, hts⟩ (hM H.size) (cwV cn hts hT hw rfl rfl ⟨rfl, hd⟩ hR) ⟨z_blind, (va_recv hK hP (ci := ci) (q0 := q0) hc he), z_pre hK hP hD hN⟩ rfl hn hl.1 rfl (lv_room hroom) hdg hf
  rw [h0, h1] at hr
  exact z_back hr hD hS hA (fun v w1 tys1 H locs hp hK hP hD hS => kk v w1 tys1 hp ls H locs hl hK hP hD hS)
theorem z_callSN (hZ : zI l D cl nf nm own cc nL ret Ts R mc ms post isI Z) {rest : List Value} (hM : zM l D cl nf nm y ws rm As w tys postc) (hy : zY y ws bytes maxL rt cn) (hG : GoodIn Ts ws) {host : String} (hl9 : (own, index, y, host) ∈ nm) (hini : Cond.initialized y.cls ∈ Ts) (hs9 : Cond.static y ∈ Ts)  (h0 : rm.cells = 0) (h1 : rm.slots = 0) (hR : rm.frames + 1 ≤ R.frames ∧ 8 + (maxL + 11) + rm.locals ≤ R.locals) (hn : As.length = cn) (hst : st = As.reverse ++ rest) (hroom : (rest.map fun v => v.category).sum ≤ 8) (hf : k ≤ R.cells ∧ n ≤ R.slots) (hdg : decode cc pc = .ok (.invokestatic index, 3)) (kk : ∀ (v : Option Value) (w1 : va_W) (tys1 : zT), postc v w1 tys1 → Z k n tys1 (pc + 3) lv (v.toList ++ rest) w1) : Z k n tys pc lv st w := by
  obtain ⟨p, e, s, m, args, below, meth, c, Q, A, hx, hb, hml, hown, hts, hN, hA, hin0, hret, rfl⟩ := hZ
  obtain ⟨⟨ws', hw⟩, hd⟩ := hy
  intro ls H locs hl hK hP hD hS
  subst hst
  have hf : k + rm.cells ≤ R.cells ∧ n + rm.slots ≤ R.slots := by rw [h0, h1]; exact hf
  have hr : va_Run p l e R s m args below meth c H locs k n rm.cells rm.slots (F0 m pc ls (As.reverse ++ rest)) rest (zC D cl postc w H.size As.toArray) (va_A w H.size) := va_runSN (As := As) (rest := rest) ⟨hx, hb, hml, hown, hts⟩ (hM H.size) ⟨va_cnB cn hts hG hw rfl rfl (hN.2.1 _ hl9) (hts _ hini) hd hR, hts _ hs9, trivial⟩ ⟨z_blind, z_pre hK hP hD hN⟩ rfl hn hl.1 rfl (lv_room hroom) hdg hf
  rw [h0, h1] at hr
  exact z_back hr hD hS hA (fun v w1 tys1 H locs hp hK hP hD hS => kk v w1 tys1 hp ls H locs hl hK hP hD hS)
theorem z_callVN (hZ : zI l D cl nf nm own cc nL ret Ts R mc ms post isI Z) {rest : List Value} (hM : zM l D cl nf nm y ws rm (.ref b :: As) w tys postc) (hy : zY y ws bytes maxL rt cn) (hG : GoodIn Ts ws) {host : String} (hl9 : (own, index, y, host) ∈ nm) (hini : Cond.initialized y.cls ∈ Ts) (hi9 : Cond.instanceMethod y ∈ Ts) (hs9 : Cond.selects y.cls y y ∈ Ts) {T : u_T} {N ci : Nat} {fs : List Value} (q0 : Nat) (he : w[q0]? = some (b, .inr (ci, fs))) (hc : cl[ci]? = some (y.cls, T, N)) (h0 : rm.cells = 0) (h1 : rm.slots = 0) (hR : rm.frames + 1 ≤ R.frames ∧ 8 + (maxL + 11) + rm.locals ≤ R.locals) (hn : As.length = cn) (hst : st = As.reverse ++ .ref b :: rest) (hroom : (rest.map fun v => v.category).sum ≤ 8) (hf : k ≤ R.cells ∧ n ≤ R.slots) (hdg : decode cc pc = .ok (.invokevirtual index, 3)) (kk : ∀ (v : Option Value) (w1 : va_W) (tys1 : zT), postc v w1 tys1 → Z k n tys1 (pc + 3) lv (v.toList ++ rest) w1) : Z k n tys pc lv st w := by
  obtain ⟨p, e, s, m, args, below, meth, c, Q, A, hx, hb, hml, hown, hts, hN, hA, hin0, hret, rfl⟩ := hZ
  obtain ⟨⟨ws', hw⟩, hd⟩ := hy
  intro ls H locs hl hK hP hD hS
  subst hst
  have hf : k + rm.cells ≤ R.cells ∧ n + rm.slots ≤ R.slots := by rw [h0, h1]; exact hf
  have hr : va_Run p l e R s m args below meth c H locs k n rm.cells rm.slots (F0 m pc ls (As.reverse ++ .ref b :: rest)) rest (zC D cl postc w H.size (.ref b :: As).toArray) (va_A w H.size) := va_runVN (As := As) (rest := rest) ⟨hx, hb, hml, hown, hts⟩ (hM H.size) ⟨va_cnB cn hts hG hw rfl rfl (hN.2.1 _ hl9) (hts _ hini) hd hR, hts _ hi9, hts _ hs9⟩ ⟨z_blind, (va_recv hK hP (ci := ci) (q0 := q0) hc he), z_pre hK hP hD hN⟩ rfl hn hl.1 rfl (lv_room hroom) hdg hf
  rw [h0, h1] at hr
  exact z_back hr hD hS hA (fun v w1 tys1 H locs hp hK hP hD hS => kk v w1 tys1 hp ls H locs hl hK hP hD hS)
theorem z_callI (hZ : zI l D cl nf nm own cc nL ret Ts R mc ms post isI Z) {rest : List Value} (hM : zM l D cl nf nm y ws rm (.ref b :: As) w tys postc) (hy : zY y ws bytes maxL none cn) (hG : GoodIn Ts ws) (hini : Cond.initialized y.cls ∈ Ts) (hl9 : Cond.methodLink own index y ∈ Ts) (hi9 : Cond.instanceMethod y ∈ Ts) (hy1 : y.name = "<init>") (hR : rm.frames + 1 ≤ R.frames ∧ 8 + (maxL + 11) + rm.locals ≤ R.locals) (hn : As.length = cn) (hst : st = As.reverse ++ .ref b :: rest) (hroom : (rest.map fun v => v.category).sum ≤ 8) (hf : k + rm.cells ≤ R.cells ∧ n + rm.slots ≤ R.slots) (hdg : decode cc pc = .ok (.invokespecial index, 3)) (kk : ∀ (v : Option Value) (w1 : va_W) (tys1 : zT), postc v w1 tys1 → Z (k + rm.cells) (n + rm.slots) tys1 (pc + 3) lv (v.toList ++ rest) w1) : Z k n tys pc lv st w := by
  obtain ⟨p, e, s, m, args, below, meth, c, Q, A, hx, hb, hml, hown, hts, hN, hA, hin0, hret, rfl⟩ := hZ
  obtain ⟨⟨ws', hw⟩, hd⟩ := hy
  intro ls H locs hl hK hP hD hS
  subst hst
  have hr : va_Run p l e R s m args below meth c H locs k n rm.cells rm.slots (F0 m pc ls (As.reverse ++ .ref b :: rest)) rest (zC D cl postc w H.size (.ref b :: As).toArray) (va_A w H.size) := va_runI (As := As) (rest := rest) ⟨hx, hb, hml, hown, hts⟩ (hM H.size) (cwI cn hts hG hw rfl rfl (hts _ hini) (hts _ hl9) (hts _ hi9) hy1 hd hR) ⟨z_blind, z_pre hK hP hD hN⟩ rfl hn hl.1 rfl (lv_room hroom) hdg hf
  exact z_back hr hD hS hA (fun v w1 tys1 H locs hp hK hP hD hS => kk v w1 tys1 hp ls H locs hl hK hP hD hS)
theorem z_callIN (hZ : zI l D cl nf nm own cc nL ret Ts R mc ms post isI Z) {rest : List Value} (hM : zM l D cl nf nm y ws rm (.ref b :: As) w tys postc) (hy : zY y ws bytes maxL none cn) (hG : GoodIn Ts ws) {host : String} (hl9 : (own, index, y, host) ∈ nm) (hini : Cond.initialized y.cls ∈ Ts) (hi9 : Cond.instanceMethod y ∈ Ts) (hy1 : y.name = "<init>") (hR : rm.frames + 1 ≤ R.frames ∧ 8 + (maxL + 11) + rm.locals ≤ R.locals) (hn : As.length = cn) (hst : st = As.reverse ++ .ref b :: rest) (hroom : (rest.map fun v => v.category).sum ≤ 8) (hf : k + rm.cells ≤ R.cells ∧ n + rm.slots ≤ R.slots) (hdg : decode cc pc = .ok (.invokespecial index, 3)) (kk : ∀ (v : Option Value) (w1 : va_W) (tys1 : zT), postc v w1 tys1 → Z (k + rm.cells) (n + rm.slots) tys1 (pc + 3) lv (v.toList ++ rest) w1) : Z k n tys pc lv st w := by
  obtain ⟨p, e, s, m, args, below, meth, c, Q, A, hx, hb, hml, hown, hts, hN, hA, hin0, hret, rfl⟩ := hZ
  obtain ⟨⟨ws', hw⟩, hd⟩ := hy
  intro ls H locs hl hK hP hD hS
  subst hst
  have hr : va_Run p l e R s m args below meth c H locs k n rm.cells rm.slots (F0 m pc ls (As.reverse ++ .ref b :: rest)) rest (zC D cl postc w H.size (.ref b :: As).toArray) (va_A w H.size) := va_runIN (As := As) (rest := rest) ⟨hx, hb, hml, hown, hts⟩ (hM H.size) ⟨va_cnB cn hts hG hw rfl rfl (hN.2.1 _ hl9) (hts _ hini) hd hR, hy1, hts _ hi9⟩ ⟨z_blind, z_pre hK hP hD hN⟩ rfl hn hl.1 rfl (lv_room hroom) hdg hf
  exact z_back hr hD hS hA (fun v w1 tys1 H locs hp hK hP hD hS => kk v w1 tys1 hp ls H locs hl hK hP hD hS)
theorem z_good {c : Cond} {y : MethodName} {b : ByteArray} {mL : Nat} {rt : Option FieldType} (hc : Cond.code y b mL rt ∈ zBig) : GoodIn (c :: zBig) (Cond.code y b mL rt :: zBig) := fun w h => by
  have h1 : w ∈ zBig := by
    rcases List.mem_cons.mp h with rfl | h
    · exact hc
    · exact h
  exact ⟨List.mem_cons_of_mem _ h1, good_of_word (List.mem_filter.mp h1).2⟩
theorem z_goodL {c : Cond} {ws : List Cond} (h : ∀ w ∈ ws, w ∈ zBig) : GoodIn (c :: zBig) ws := fun w hw => ⟨List.mem_cons_of_mem _ (h w hw), good_of_word (List.mem_filter.mp (h w hw)).2⟩
theorem z_goodS {c : Cond} {own : String} {index : Nat} {y : MethodName} {b : ByteArray} {mL : Nat} {rt : Option FieldType} (h1 : Cond.methodLink own index y ∈ zBig) (h2 : Cond.static y ∈ zBig) (h3 : Cond.initialized y.cls ∈ zBig) (hc : Cond.code y b mL rt ∈ zBig) : GoodIn (c :: zBig) (va_wsS own index y (Cond.code y b mL rt :: zBig)) := z_goodL (fun w hw => by
  rcases List.mem_append.mp hw with h | h
  · rcases List.mem_cons.mp h with rfl | h
    · exact h1
    · rcases List.mem_cons.mp h with rfl | h
      · exact h2
      · rw [List.mem_singleton.mp h]; exact h3
  · rcases List.mem_cons.mp h with rfl | h
    · exact hc
    · exact h)
theorem z_goodV {c : Cond} {own : String} {index : Nat} {y : MethodName} {b : ByteArray} {mL : Nat} {rt : Option FieldType} (h1 : Cond.methodLink own index y ∈ zBig) (h2 : Cond.instanceMethod y ∈ zBig) (h3 : Cond.selects y.cls y y ∈ zBig) (h4 : Cond.initialized y.cls ∈ zBig) (hc : Cond.code y b mL rt ∈ zBig) : GoodIn (c :: zBig) (wsV own index y.cls y (Cond.code y b mL rt :: zBig)) := z_goodL (fun w hw => by
  rcases List.mem_append.mp hw with h | h
  · rcases List.mem_cons.mp h with rfl | h
    · exact h1
    · rcases List.mem_cons.mp h with rfl | h
      · exact h2
      · rcases List.mem_cons.mp h with rfl | h
        · exact h3
        · rw [List.mem_singleton.mp h]; exact h4
  · rcases List.mem_cons.mp h with rfl | h
    · exact hc
    · exact h)
def qV (B : va_W → zT → Prop) : zP := fun v w tys => v = none ∧ B w tys
def qI (B : Int32 → va_W → zT → Prop) : zP := fun v w tys => ∃ r : Int32, v = some (.int r) ∧ B r w tys
def qL (B : Int64 → va_W → zT → Prop) : zP := fun v w tys => ∃ r : Int64, v = some (.long r) ∧ B r w tys
theorem z_kv {Z : zZ} {k n pc : Nat} {lv : List (Nat × Value)} {rest : List Value} {B : va_W → zT → Prop} (h : ∀ (w1 : va_W) (tys1 : zT), B w1 tys1 → Z k n tys1 pc lv rest w1) : ∀ (v : Option Value) (w1 : va_W) (tys1 : zT), qV B v w1 tys1 → Z k n tys1 pc lv (v.toList ++ rest) w1 := fun v w1 tys1 hq => by
  obtain ⟨rfl, hB⟩ := hq
  exact h w1 tys1 hB
theorem z_ki {Z : zZ} {k n pc : Nat} {lv : List (Nat × Value)} {rest : List Value} {B : Int32 → va_W → zT → Prop} (h : ∀ (r : Int32) (w1 : va_W) (tys1 : zT), B r w1 tys1 → Z k n tys1 pc lv (.int r :: rest) w1) : ∀ (v : Option Value) (w1 : va_W) (tys1 : zT), qI B v w1 tys1 → Z k n tys1 pc lv (v.toList ++ rest) w1 := fun v w1 tys1 hq => by
  obtain ⟨r, rfl, hB⟩ := hq
  exact h r w1 tys1 hB
theorem z_kl {Z : zZ} {k n pc : Nat} {lv : List (Nat × Value)} {rest : List Value} {B : Int64 → va_W → zT → Prop} (h : ∀ (r : Int64) (w1 : va_W) (tys1 : zT), B r w1 tys1 → Z k n tys1 pc lv (.long r :: rest) w1) : ∀ (v : Option Value) (w1 : va_W) (tys1 : zT), qL B v w1 tys1 → Z k n tys1 pc lv (v.toList ++ rest) w1 := fun v w1 tys1 hq => by
  obtain ⟨r, rfl, hB⟩ := hq
  exact h r w1 tys1 hB
end ZK
