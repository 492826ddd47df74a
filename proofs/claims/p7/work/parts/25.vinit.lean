set_option maxHeartbeats 4000000 in
set_option maxRecDepth 100000 in
theorem cV_init (l : Launch) (D : va_G) (tys : zT) (X : va_W) (LP : List Nat) (f : Nat → V3) (a0 : Nat) (h_a0 : a0 ∈ LP) : zM l D vwCl zNF zNM yV_init wsV_init { frames := 1, cells := 0, slots := 0, locals := 20 } [.ref a0] (X ++ PL LP f) tys (qV (fun w' tys' => ∃ f' : Nat → V3, X ++ PL LP f' = w' ∧ tys = tys' ∧ (f' = va_up f a0 (1, 0, 0)))) := by
  refine z_met (cc := bV_init) (maxL := 1) (ret := none) (isI := true) (own := RV) (by decide +kernel) rfl rfl (fun _ => rfl) (Nat.le_of_ble_eq_true rfl) (fun Z hZ => ?_)
  show Z 0 0 tys 0 [(0, .ref a0)] [] (X ++ PL LP f)
  refine z_aload_n (pc := 0) hZ 0 dV_init_0 rfl rfl ?_
  refine z_objInit (pc := 1) hZ (zb ml_V_3) (zb im_obj) (zb co_obj) (by decide) (Nat.le_of_ble_eq_true rfl) dV_init_1 ?_
  refine z_aload_n (pc := 4) hZ 0 dV_init_4 rfl rfl ?_
  refine z_iconst (pc := 5) hZ 1 dV_init_5 (by decide) ?_
  refine z_pp0 (pc := 6) hZ h_a0 uc_V (zb fl_V_9) dV_init_6 (fun f6_0 ef6_0 => ?_)
  refine z_aload_n (pc := 9) hZ 0 dV_init_9 rfl rfl ?_
  refine z_lconst (pc := 10) hZ 0 dV_init_10 (by decide) ?_
  refine z_pp1 (pc := 11) hZ h_a0 uc_V (zb fl_V_15) dV_init_11 (fun f11_1 ef11_1 => ?_)
  refine z_aload_n (pc := 14) hZ 0 dV_init_14 rfl rfl ?_
  refine z_iconst (pc := 15) hZ 0 dV_init_15 (by decide) ?_
  refine z_pp2 (pc := 16) hZ h_a0 uc_V (zb fl_V_19) dV_init_16 (fun f16_2 ef16_2 => ?_)
  exact z_retv (pc := 19) hZ dV_init_19 rfl ⟨rfl, _, rfl, rfl, (by exact vi_3 ef6_0 ef11_1 ef16_2)⟩
