theorem lp_x {i : Nat} {x : Int32} (hi : i ≤ 32) (ex : x = nI i) (c : 32 ≤ x) : i = 32 := by
  rw [Int32.le_iff_toInt_le, I32, ex, nI_toInt (by omega)] at c
  omega
theorem lp_l {i : Nat} {x : Int32} (hi : i ≤ 32) (ex : x = nI i) (c : ¬ 32 ≤ x) : i < 32 ∧ vp_in x 32 ∧ x.toNatClampNeg = i := by
  rw [Int32.le_iff_toInt_le, I32, ex, nI_toInt (by omega)] at c
  have h : i < 32 := by omega
  exact ⟨h, by rw [ex]; exact vp_in_nI h (by omega), by rw [ex]; exact nI_clamp (by omega)⟩
theorem lp_n {i : Nat} {x y : Int32} (ex : x = nI i) (e : y = x + Int32.ofInt 1) : y = nI (i + 1) := by rw [e, ex]; exact nI_1 i
theorem pf_new {LP : List Nat} {f f2 f3 : Nat → V3} {q : Nat} (hf : ∀ a ∈ LP, f a = (1, 0, 0)) (e2 : f2 = va_up f q (0, 0, 0)) (e3 : f3 = va_up f2 q (1, 0, 0)) : ∀ a ∈ LP ++ [q], f3 a = (1, 0, 0) := by
  intro a ha
  subst e2; subst e3
  by_cases h : a = q
  · subst h; exact va_up_self _ _ _
  · rw [va_up_ne _ _ h, va_up_ne _ _ h]
    rcases List.mem_append.mp ha with z | z
    · exact hf a z
    · exact absurd (List.mem_singleton.mp z) h
theorem pf_g {LP : List Nat} {g g2 : Nat → Option Nat} {i q k : Nat} (hg : ∀ j, j < i → ∃ y, y ∈ LP ∧ g j = some y) (hk : k = i) (e : g2 = va_up g k (some q)) : ∀ j, j < i + 1 → ∃ y, y ∈ LP ++ [q] ∧ g2 j = some y := by
  intro j hj
  rw [e, hk]
  by_cases h : j = i
  · subst h; exact ⟨q, List.mem_append_right _ (List.mem_singleton.mpr rfl), va_up_self _ _ _⟩
  · obtain ⟨y, h1, h2⟩ := hg j (by omega)
    exact ⟨y, List.mem_append_left _ h1, by rw [va_up_ne _ _ h]; exact h2⟩
theorem pf_i {LP : List Nat} {g g2 : Nat → Option Nat} {i q k : Nat} (hg : ∀ j, j < i → ∃ y, y ∈ LP ∧ g j = some y) (hi : ∀ a b, a < i → b < i → g a = g b → a = b) (hq : q ∉ LP) (hk : k = i) (e : g2 = va_up g k (some q)) : ∀ a b, a < i + 1 → b < i + 1 → g2 a = g2 b → a = b := by
  intro a b ha hb h
  rw [e, hk] at h
  by_cases h1 : a = i <;> by_cases h2 : b = i
  · rw [h1, h2]
  · exfalso
    obtain ⟨y, y1, y2⟩ := hg b (by omega)
    rw [h1, va_up_self, va_up_ne _ _ h2, y2] at h
    exact hq (by rw [Option.some.inj h]; exact y1)
  · exfalso
    obtain ⟨y, y1, y2⟩ := hg a (by omega)
    rw [h2, va_up_self, va_up_ne _ _ h1, y2] at h
    exact hq (by rw [← Option.some.inj h]; exact y1)
  · rw [va_up_ne _ _ h1, va_up_ne _ _ h2] at h
    exact hi a b (by omega) (by omega) h
theorem pf_J {LP : List Nat} {g : Nat → Option Nat} {q1 q2 q3 : Nat} (hg : ∀ j, j < 32 → ∃ y, y ∈ LP ∧ g j = some y) (hi : ∀ a b, a < 32 → b < 32 → g a = g b → a = b) (h1 : q1 ∉ LP) (h2 : q2 ∉ LP ++ [q1]) (h3 : q3 ∉ LP ++ [q1] ++ [q2]) : zJ q1 q2 q3 g := by
  simp only [List.mem_append, List.mem_singleton, not_or] at h2 h3
  refine ⟨⟨fun h => h2.2 h.symm, fun h => h3.1.2 h.symm, fun h => h3.2 h.symm⟩, fun j y hj e => ?_, hi⟩
  obtain ⟨z, z1, z2⟩ := hg j hj
  rw [z2] at e
  obtain rfl := Option.some.inj e
  exact ⟨fun h => h1 (h ▸ z1), fun h => h2.1 (h ▸ z1), fun h => h3.1.1 (h ▸ z1)⟩
theorem mem_l {LP : List Nat} (q : Nat) : q ∈ LP ++ [q] := List.mem_append_right _ (List.mem_singleton.mpr rfl)
set_option maxHeartbeats 4000000 in
set_option maxRecDepth 100000 in
theorem cN_init (l : Launch) (D : va_G) (h0 : Nat) : zM l D vwCl zNF zNM yN_init wsN_init { frames := 2, cells := 36, slots := 137, locals := 60 } [.ref h0] [(h0, .inr (1, [.null, .null, .null, .null]))] [] (qV (fun w' tys' => ∃ (ra v1 v2 v3 : Nat) (cR : ClassId) (g : Nat → Option Nat) (LP : List Nat) (f : Nat → V3), CX h0 ra v1 v2 v3 cR g [] ++ PL LP f = w' ∧ [(cR, .object "MixedNumbers$Value")] = tys' ∧ zH LP v1 v2 v3 g ∧ (∀ a ∈ LP, f a = (1, 0, 0)) ∧ zJ v1 v2 v3 g)) := by
  refine z_met (cc := bN_init) (maxL := 2) (ret := none) (isI := true) (own := RN) (by decide +kernel) rfl rfl (fun _ => rfl) (Nat.le_of_ble_eq_true rfl) (fun Z hZ => ?_)
  show Z 0 0 [] 0 [(0, .ref h0)] [] [(h0, .inr (1, [.null, .null, .null, .null]))]
  refine z_aload_n (pc := 0) hZ 0 dN_init_0 rfl rfl ?_
  refine z_objInit (pc := 1) hZ (zb ml_N_1) (zb im_obj) (zb co_obj) (by decide) (Nat.le_of_ble_eq_true rfl) dN_init_1 ?_
  refine z_aload_n (pc := 4) hZ 0 dN_init_4 rfl rfl ?_
  refine z_bipush (pc := 5) hZ 32 dN_init_5 (by decide) ?_
  refine z_newq (pc := 7) (N' := 32) hZ (zb cl_N_9) (by decide) (by decide) (by decide) (by decide) (by decide) dN_init_7 (fun ra cR => ?_)
  show Z 1 32 [(cR, .object "MixedNumbers$Value")] (7 + 3) [(0, .ref h0)] [.ref ra, .ref h0] [(h0, .inr (1, [.null, .null, .null, .null])), (ra, .inl (cR, 32, .inr (.inr (.inr (.inr (fun _ => none))))))]
  refine z_putF (pc := 10) (ci := 1) hZ 0 rfl rfl uc_N 0 (by decide) (zb fl_N_11) tyN tyN_ok nmN rfl rfl rfl rfl rfl (Nat.le_of_ble_eq_true rfl) dN_init_10 ?_
  show Z 1 32 [(cR, .object "MixedNumbers$Value")] (10 + 3) [(0, .ref h0)] [] ([(h0, .inr (1, [.ref ra, .null, .null, .null])), (ra, .inl (cR, 32, .inr (.inr (.inr (.inr (fun _ => none))))))] ++ PL [] (fun _ => (1, 0, 0)))
  refine z_iconst (pc := 13) hZ 0 dN_init_13 (by decide) ?_
  refine z_istore_n (pc := 14) hZ [(1, .int 0), (0, .ref h0)] dN_init_14 rfl (by decide) rfl ?_
  have L15 : ∀ (N : Nat) (i : Nat) (x : Int32) (LP : List Nat) (f : Nat → V3) (g : Nat → Option Nat), 32 - i < N → i ≤ 32 → x = nI i → (∀ j, j < i → ∃ y, y ∈ LP ∧ g j = some y) → (∀ a ∈ LP, f a = (1, 0, 0)) → (∀ a b, a < i → b < i → g a = g b → a = b) → Z (1 + i) (32 + 3 * i) [(cR, .object "MixedNumbers$Value")] 15 [(1, .int x), (0, .ref h0)] [] ([(h0, .inr (1, [.ref ra, .null, .null, .null])), (ra, .inl (cR, 32, .inr (.inr (.inr (.inr g)))))] ++ PL LP f) := by
    intro N
    induction N with
    | zero => intro i x LP f g h; exact absurd h (Nat.not_lt_zero _)
    | succ N ih =>
      intro i x LP f g hm hi ex hg hf hin
      refine z_iload_n (pc := 15) hZ 0 dN_init_15 rfl rfl ?_
      refine z_bipush (pc := 16) hZ 32 dN_init_16 (by decide) ?_
      refine z_icmp_ge (pc := 18) hZ 40 dN_init_18 (by decide) (fun c => ?_) (fun c => ?_)
      · have hi32 := lp_x hi ex c
        subst hi32
        refine z_widen (pc := 40) (k' := 33) (n' := 128) hZ (by decide) (by decide) ?_
        refine z_aload_n (pc := 40) hZ 1 dN_init_40 rfl rfl ?_
        refine z_newP (pc := 41) hZ (zb cl_N_9) (zb ins_V) (zb in_V) uc_V (by decide) (by decide) dN_init_41 (fun q1 f1 hq1 ef1 => ?_)
        refine z_dup (pc := 44) hZ dN_init_44 rfl ?_
        refine z_callIN (pc := 45) (As := []) (rest := [.ref q1, .ref h0]) hZ (cV_init l D _ _ (LP ++ [q1]) f1 q1 (mem_l q1)) zyV_init (z_good co_V_init) nl_N_15 (zb in_V) (zb im_V_init) rfl (by decide) rfl rfl (Nat.le_of_ble_eq_true rfl) (by decide) dN_init_45 (z_kv (fun w1 tys1 hp => ?_))
        obtain ⟨f2, rfl, rfl, ef2⟩ := hp
        refine z_putF (pc := 48) (ci := 1) hZ 0 rfl rfl uc_N 1 (by decide) (zb fl_N_16) tyN tyN_ok nmN rfl rfl rfl rfl rfl (Nat.le_of_ble_eq_true rfl) dN_init_48 ?_
        refine z_widen (pc := 51) (k' := 34) (n' := 131) hZ (by decide) (by decide) ?_
        show Z 34 131 [(cR, .object "MixedNumbers$Value")] 51 [(1, .int x), (0, .ref h0)] [] ([(h0, .inr (1, [.ref ra, .ref q1, .null, .null])), (ra, .inl (cR, 32, .inr (.inr (.inr (.inr g)))))] ++ PL (LP ++ [q1]) f2)
        refine z_aload_n (pc := 51) hZ 1 dN_init_51 rfl rfl ?_
        refine z_newP (pc := 52) hZ (zb cl_N_9) (zb ins_V) (zb in_V) uc_V (by decide) (by decide) dN_init_52 (fun q2 f3 hq2 ef3 => ?_)
        refine z_dup (pc := 55) hZ dN_init_55 rfl ?_
        refine z_callIN (pc := 56) (As := []) (rest := [.ref q2, .ref h0]) hZ (cV_init l D _ _ (LP ++ [q1] ++ [q2]) f3 q2 (mem_l q2)) zyV_init (z_good co_V_init) nl_N_15 (zb in_V) (zb im_V_init) rfl (by decide) rfl rfl (Nat.le_of_ble_eq_true rfl) (by decide) dN_init_56 (z_kv (fun w1 tys1 hp => ?_))
        obtain ⟨f4, rfl, rfl, ef4⟩ := hp
        refine z_putF (pc := 59) (ci := 1) hZ 0 rfl rfl uc_N 2 (by decide) (zb fl_N_20) tyN tyN_ok nmN rfl rfl rfl rfl rfl (Nat.le_of_ble_eq_true rfl) dN_init_59 ?_
        refine z_widen (pc := 62) (k' := 35) (n' := 134) hZ (by decide) (by decide) ?_
        show Z 35 134 [(cR, .object "MixedNumbers$Value")] 62 [(1, .int x), (0, .ref h0)] [] ([(h0, .inr (1, [.ref ra, .ref q1, .ref q2, .null])), (ra, .inl (cR, 32, .inr (.inr (.inr (.inr g)))))] ++ PL (LP ++ [q1] ++ [q2]) f4)
        refine z_aload_n (pc := 62) hZ 1 dN_init_62 rfl rfl ?_
        refine z_newP (pc := 63) hZ (zb cl_N_9) (zb ins_V) (zb in_V) uc_V (by decide) (by decide) dN_init_63 (fun q3 f5 hq3 ef5 => ?_)
        refine z_dup (pc := 66) hZ dN_init_66 rfl ?_
        refine z_callIN (pc := 67) (As := []) (rest := [.ref q3, .ref h0]) hZ (cV_init l D _ _ (LP ++ [q1] ++ [q2] ++ [q3]) f5 q3 (mem_l q3)) zyV_init (z_good co_V_init) nl_N_15 (zb in_V) (zb im_V_init) rfl (by decide) rfl rfl (Nat.le_of_ble_eq_true rfl) (by decide) dN_init_67 (z_kv (fun w1 tys1 hp => ?_))
        obtain ⟨f6, rfl, rfl, ef6⟩ := hp
        refine z_putF (pc := 70) (ci := 1) hZ 0 rfl rfl uc_N 3 (by decide) (zb fl_N_23) tyN tyN_ok nmN rfl rfl rfl rfl rfl (Nat.le_of_ble_eq_true rfl) dN_init_70 ?_
        refine z_widen (pc := 73) (k' := 36) (n' := 137) hZ (by decide) (by decide) ?_
        show Z 36 137 [(cR, .object "MixedNumbers$Value")] 73 [(1, .int x), (0, .ref h0)] [] (CX h0 ra q1 q2 q3 cR g [] ++ PL (LP ++ [q1] ++ [q2] ++ [q3]) f6)
        refine z_retv (pc := 73) hZ dN_init_73 rfl ⟨rfl, ra, q1, q2, q3, cR, g, _, f6, rfl, rfl, ?_, pf_new (pf_new (pf_new hf ef1 ef2) ef3 ef4) ef5 ef6, pf_J hg hin hq1 hq2 hq3⟩
        refine ⟨by simp, by simp, by simp, fun j hj => ?_⟩
        obtain ⟨y, h1, h2⟩ := hg j hj
        exact ⟨y, by simp [h1], h2⟩
      · obtain ⟨hlt, hvp, hcl⟩ := lp_l hi ex c
        refine z_aload_n (pc := 21) hZ 1 dN_init_21 rfl rfl ?_
        refine z_get (pc := 22) (ci := 1) hZ 0 rfl rfl uc_N 0 (by decide) (zb fl_N_11) rfl dN_init_22 ?_
        refine z_iload_n (pc := 25) hZ 0 dN_init_25 rfl rfl ?_
        refine z_newP (pc := 26) hZ (zb cl_N_9) (zb ins_V) (zb in_V) uc_V (show 1 + i + 1 ≤ 36 by omega) (show 32 + 3 * i + 3 ≤ 137 by omega) dN_init_26 (fun q f1 hq ef1 => ?_)
        refine z_dup (pc := 29) hZ dN_init_29 rfl ?_
        refine z_callIN (pc := 30) (As := []) (rest := [.ref q, .int x, .ref ra]) hZ (cV_init l D _ _ (LP ++ [q]) f1 q (mem_l q)) zyV_init (z_good co_V_init) nl_N_15 (zb in_V) (zb im_V_init) rfl (by decide) rfl rfl (Nat.le_of_ble_eq_true rfl) ⟨show 1 + i + 1 + 0 ≤ 36 by omega, show 32 + 3 * i + 3 + 0 ≤ 137 by omega⟩ dN_init_30 (z_kv (fun w1 tys1 hp => ?_))
        obtain ⟨f2, rfl, rfl, ef2⟩ := hp
        obtain ⟨qq, hqq⟩ := zp_at (X := [(h0, .inr (1, [.ref ra, .null, .null, .null])), (ra, .inl (cR, 32, .inr (.inr (.inr (.inr g)))))]) (f := f2) (mem_l (LP := LP) q)
        refine z_aast (pc := 33) hZ 1 0 qq rfl rfl hqq rfl hvp dN_init_33 (fun g2 eg2 => ?_)
        refine z_widen (pc := 34) (k' := 1 + (i + 1)) (n' := 32 + 3 * (i + 1)) hZ (show 1 + i + 1 + 0 ≤ 1 + (i + 1) by omega) (show 32 + 3 * i + 3 + 0 ≤ 32 + 3 * (i + 1) by omega) ?_
        show Z (1 + (i + 1)) (32 + 3 * (i + 1)) [(cR, .object "MixedNumbers$Value")] 34 [(1, .int x), (0, .ref h0)] [] ([(h0, .inr (1, [.ref ra, .null, .null, .null])), (ra, .inl (cR, 32, .inr (.inr (.inr (.inr g2)))))] ++ PL (LP ++ [q]) f2)
        refine z_iinc (pc := 34) hZ 0 (fun v9 => [(1, .int v9), (0, .ref h0)]) dN_init_34 rfl (by decide) (fun _ => rfl) (fun y ey => ?_)
        refine z_goto (pc := 37) hZ 15 dN_init_37 (by decide) ?_
        exact ih (i + 1) y (LP ++ [q]) f2 g2 (by omega) (by omega) (lp_n ex ey) (pf_g hg hcl eg2) (pf_new hf ef1 ef2) (pf_i hg hin hq hcl eg2)
  exact L15 33 0 0 [] _ _ (by omega) (by omega) nI_0.symm (fun j hj => absurd hj (Nat.not_lt_zero _)) (fun a ha => absurd ha List.not_mem_nil) (fun a b ha => absurd ha (Nat.not_lt_zero _))
def M0 : List Value := [.null, .null, .null, .int 0, .long 0, .int 0, .int 0, .long 0, .int 0, .int 0, .long 0, .int 0, .long 0, .int 0]
set_option maxHeartbeats 4000000 in
set_option maxRecDepth 100000 in
theorem cM_init (l : Launch) (D : va_G) (cR : ClassId) (h0 : Nat) (Y : va_W) : zM l D vwCl zNF zNM yM_init wsM_init { frames := 1, cells := 3, slots := 96, locals := 20 } [.ref h0] ((h0, .inr (2, M0)) :: Y) [(cR, .object "MixedNumbers$Value")] (qV (fun w' tys' => ∃ (a1 a2 a3 : Nat) (c1 c2 c3 : ClassId) (K : Nat → Int32), MW h0 a1 a2 a3 c1 c2 c3 (0, 0, 0, 0, 0, 0, 0, 0, 0, 0, 0, K, fun _ => 0, fun _ => 0) ++ Y = w' ∧ TY cR c1 c2 c3 = tys' ∧ ∀ j, j < 32 → K j = 1)) := by
  refine z_met (cc := bM_init) (maxL := 2) (ret := none) (isI := true) (own := RM) (by decide +kernel) rfl rfl (fun _ => rfl) (Nat.le_of_ble_eq_true rfl) (fun Z hZ => ?_)
  show Z 0 0 [(cR, .object "MixedNumbers$Value")] 0 [(0, .ref h0)] [] ((h0, .inr (2, M0)) :: Y)
  refine z_aload_n (pc := 0) hZ 0 dM_init_0 rfl rfl ?_
  refine z_objInit (pc := 1) hZ (zb ml_M_1) (zb im_obj) (zb co_obj) (by decide) (Nat.le_of_ble_eq_true rfl) dM_init_1 ?_
  refine z_aload_n (pc := 4) hZ 0 dM_init_4 rfl rfl ?_
  refine z_bipush (pc := 5) hZ 32 dM_init_5 (by decide) ?_
  refine z_newa (atype := .int) (ty := .int) (pc := 7) (a0 := (32, .inl (fun _ => 0))) hZ (zb ac_int) rfl (fun _ => rfl) (by decide) (by decide) (by decide) (by decide) (by decide) dM_init_7 (fun a1 c1 => ?_)
  refine z_swap hZ (a := [(h0, .inr (2, M0))]) (b := Y) (c := [(a1, .inl (c1, 32, .inl (fun _ => 0)))]) ?_
  refine z_putF (pc := 9) (ci := 2) hZ 0 rfl rfl uc_M 0 (by decide) (zb fl_M_7) tyM tyM_ok nmM rfl rfl rfl rfl rfl (Nat.le_of_ble_eq_true rfl) dM_init_9 ?_
  refine z_widen (pc := 12) (k' := 1) (n' := 32) hZ (by decide) (by decide) ?_
  show Z 1 32 [(cR, .object "MixedNumbers$Value"), (c1, .int)] 12 [(0, .ref h0)] [] ([(h0, .inr (2, [.ref a1, .null, .null, .int 0, .long 0, .int 0, .int 0, .long 0, .int 0, .int 0, .long 0, .int 0, .long 0, .int 0])), (a1, .inl (c1, 32, .inl (fun _ => 0)))] ++ Y)
  refine z_aload_n (pc := 12) hZ 0 dM_init_12 rfl rfl ?_
  refine z_bipush (pc := 13) hZ 32 dM_init_13 (by decide) ?_
  refine z_newa (atype := .long) (ty := .long) (pc := 15) (a0 := (32, .inr (.inl (fun _ => 0)))) hZ (zb ac_long) rfl (fun _ => rfl) (by decide) (by decide) (by decide) (by decide) (by decide) dM_init_15 (fun a2 c2 => ?_)
  refine z_swap hZ (a := [(h0, .inr (2, [.ref a1, .null, .null, .int 0, .long 0, .int 0, .int 0, .long 0, .int 0, .int 0, .long 0, .int 0, .long 0, .int 0])), (a1, .inl (c1, 32, .inl (fun _ => 0)))]) (b := Y) (c := [(a2, .inl (c2, 32, .inr (.inl (fun _ => 0))))]) ?_
  refine z_putF (pc := 17) (ci := 2) hZ 0 rfl rfl uc_M 1 (by decide) (zb fl_M_13) tyM tyM_ok nmM rfl rfl rfl rfl rfl (Nat.le_of_ble_eq_true rfl) dM_init_17 ?_
  refine z_widen (pc := 20) (k' := 2) (n' := 64) hZ (by decide) (by decide) ?_
  show Z 2 64 [(cR, .object "MixedNumbers$Value"), (c1, .int), (c2, .long)] 20 [(0, .ref h0)] [] ([(h0, .inr (2, [.ref a1, .ref a2, .null, .int 0, .long 0, .int 0, .int 0, .long 0, .int 0, .int 0, .long 0, .int 0, .long 0, .int 0])), (a1, .inl (c1, 32, .inl (fun _ => 0))), (a2, .inl (c2, 32, .inr (.inl (fun _ => 0))))] ++ Y)
  refine z_aload_n (pc := 20) hZ 0 dM_init_20 rfl rfl ?_
  refine z_bipush (pc := 21) hZ 32 dM_init_21 (by decide) ?_
  refine z_newa (atype := .int) (ty := .int) (pc := 23) (a0 := (32, .inl (fun _ => 0))) hZ (zb ac_int) rfl (fun _ => rfl) (by decide) (by decide) (by decide) (by decide) (by decide) dM_init_23 (fun a3 c3 => ?_)
  refine z_swap hZ (a := [(h0, .inr (2, [.ref a1, .ref a2, .null, .int 0, .long 0, .int 0, .int 0, .long 0, .int 0, .int 0, .long 0, .int 0, .long 0, .int 0])), (a1, .inl (c1, 32, .inl (fun _ => 0))), (a2, .inl (c2, 32, .inr (.inl (fun _ => 0))))]) (b := Y) (c := [(a3, .inl (c3, 32, .inl (fun _ => 0)))]) ?_
  refine z_putF (pc := 25) (ci := 2) hZ 0 rfl rfl uc_M 2 (by decide) (zb fl_M_17) tyM tyM_ok nmM rfl rfl rfl rfl rfl (Nat.le_of_ble_eq_true rfl) dM_init_25 ?_
  refine z_widen (pc := 28) (k' := 3) (n' := 96) hZ (by decide) (by decide) ?_
  show Z 3 96 (TY cR c1 c2 c3) 28 [(0, .ref h0)] [] (MW h0 a1 a2 a3 c1 c2 c3 (0, 0, 0, 0, 0, 0, 0, 0, 0, 0, 0, fun _ => 0, fun _ => 0, fun _ => 0) ++ Y)
  refine z_iconst (pc := 28) hZ 0 dM_init_28 (by decide) ?_
  refine z_istore_n (pc := 29) hZ [(1, .int 0), (0, .ref h0)] dM_init_29 rfl (by decide) rfl ?_
  have L30 : ∀ (N : Nat) (i : Nat) (x : Int32) (K : Nat → Int32), 32 - i < N → i ≤ 32 → x = nI i → (∀ j, j < i → K j = 1) → Z 3 96 (TY cR c1 c2 c3) 30 [(1, .int x), (0, .ref h0)] [] (MW h0 a1 a2 a3 c1 c2 c3 (0, 0, 0, 0, 0, 0, 0, 0, 0, 0, 0, K, fun _ => 0, fun _ => 0) ++ Y) := by
    intro N
    induction N with
    | zero => intro i x K h; exact absurd h (Nat.not_lt_zero _)
    | succ N ih =>
      intro i x K hm hi ex hk
      refine z_iload_n (pc := 30) hZ 0 dM_init_30 rfl rfl ?_
      refine z_bipush (pc := 31) hZ 32 dM_init_31 (by decide) ?_
      refine z_icmp_ge (pc := 33) hZ 49 dM_init_33 (by decide) (fun c => ?_) (fun c => ?_)
      · have hi32 := lp_x hi ex c
        subst hi32
        exact z_retv (pc := 49) hZ dM_init_49 rfl ⟨rfl, a1, a2, a3, c1, c2, c3, K, rfl, rfl, hk⟩
      · obtain ⟨hlt, hvp, hcl⟩ := lp_l hi ex c
        refine z_aload_n (pc := 36) hZ 1 dM_init_36 rfl rfl ?_
        refine z_get (pc := 37) (ci := 2) hZ 0 rfl rfl uc_M 0 (by decide) (zb fl_M_7) rfl dM_init_37 ?_
        refine z_iload_n (pc := 40) hZ 0 dM_init_40 rfl rfl ?_
        refine z_iconst (pc := 41) hZ 1 dM_init_41 (by decide) ?_
        refine z_iast (pc := 42) hZ 1 1 rfl rfl hvp dM_init_42 (fun K2 eK => ?_)
        show Z 3 96 (TY cR c1 c2 c3) (42 + 1) [(1, .int x), (0, .ref h0)] [] (MW h0 a1 a2 a3 c1 c2 c3 (0, 0, 0, 0, 0, 0, 0, 0, 0, 0, 0, K2, fun _ => 0, fun _ => 0) ++ Y)
        refine z_iinc (pc := 43) hZ 0 (fun v9 => [(1, .int v9), (0, .ref h0)]) dM_init_43 rfl (by decide) (fun _ => rfl) (fun y ey => ?_)
        refine z_goto (pc := 46) hZ 30 dM_init_46 (by decide) ?_
        refine ih (i + 1) y K2 (by omega) (by omega) (lp_n ex ey) (fun j hj => ?_)
        rw [eK, hcl]
        by_cases h : j = i
        · subst h; exact pk_us
        · rw [pk_un h]; exact hk j (by omega)
  exact L30 33 0 0 _ (by omega) (by omega) nI_0.symm (fun j hj => absurd hj (Nat.not_lt_zero _))
