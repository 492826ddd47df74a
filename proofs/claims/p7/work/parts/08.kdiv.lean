set_option maxHeartbeats 4000000 in
set_option maxRecDepth 100000 in
theorem cJM_floorDiv (l : Launch) (D : va_G) (tys : zT) (w : va_W) (p0 : Int64) (p1 : Int64) (hne : ¬ p1 = 0) : zM l D vwCl zNF zNM yJM_floorDiv wsJM_floorDiv { frames := 0, cells := 0, slots := 0, locals := 0 } [.long p0, .long p1] (w) tys (qL (fun r w' tys' => w = w' ∧ tys = tys' ∧ (r = fdS p0 p1))) := by
  refine z_met (cc := bJM_floorDiv) (maxL := 6) (ret := (some .long)) (isI := false) (own := RJM) (by decide +kernel) rfl rfl (fun h => by cases h) (Nat.le_of_ble_eq_true rfl) (fun Z hZ => ?_)
  show Z 0 0 tys 0 [(0, .long p0), (2, .long p1)] [] (w)
  refine z_lload_n (pc := 0) hZ 0 dJM_floorDiv_0 rfl rfl ?_
  refine z_lload_n (pc := 1) hZ 1 dJM_floorDiv_1 rfl rfl ?_
  refine z_ldiv (pc := 2) hZ dJM_floorDiv_2 (by assumption) (fun v2_1 ev2_1 => ?_)
  refine z_lstore (pc := 3) hZ [(4, .long v2_1), (0, .long p0), (2, .long p1)] dJM_floorDiv_3 (by decide) rfl ?_
  refine z_lload_n (pc := 5) hZ 1 dJM_floorDiv_5 rfl rfl ?_
  refine z_lload_n (pc := 6) hZ 2 dJM_floorDiv_6 rfl rfl ?_
  refine z_lxor (pc := 7) hZ dJM_floorDiv_7 (fun v7_2 ev7_2 => ?_)
  refine z_lconst (pc := 8) hZ 0 dJM_floorDiv_8 (by decide) ?_
  refine z_lif_ge (pc := 9) hZ 27 dJM_floorDiv_9 dJM_floorDiv_10 (by decide) (fun c10_3 => ?_) (fun c10_3 => ?_)
  · refine z_lload (pc := 27) hZ 0 dJM_floorDiv_27 rfl ?_
    exact z_retl (pc := 29) hZ dJM_floorDiv_29 rfl ⟨_, rfl, rfl, rfl, (by first | exact fd_1 ev2_1 ev7_2 c10_3 nokey_ nokey_ nokey_ | exact fd_2 (v := 0) ev2_1 nokey_ nokey_ | exact fd_3 ev2_1 ev7_2 c10_3)⟩
  · refine z_lload (pc := 13) hZ 0 dJM_floorDiv_13 rfl ?_
    refine z_lload_n (pc := 15) hZ 2 dJM_floorDiv_15 rfl rfl ?_
    refine z_lmul (pc := 16) hZ dJM_floorDiv_16 (fun v16_4 ev16_4 => ?_)
    refine z_lload_n (pc := 17) hZ 1 dJM_floorDiv_17 rfl rfl ?_
    refine z_lif_eq (pc := 18) hZ 27 dJM_floorDiv_18 dJM_floorDiv_19 (by decide) (fun c19_5 => ?_) (fun c19_5 => ?_)
    · refine z_lload (pc := 27) hZ 0 dJM_floorDiv_27 rfl ?_
      exact z_retl (pc := 29) hZ dJM_floorDiv_29 rfl ⟨_, rfl, rfl, rfl, (by first | exact fd_1 ev2_1 ev7_2 c10_3 ev16_4 c19_5 nokey_ | exact fd_2 (v := 0) ev2_1 ev16_4 c19_5 | exact fd_3 ev2_1 ev7_2 c10_3)⟩
    · refine z_lload (pc := 22) hZ 0 dJM_floorDiv_22 rfl ?_
      refine z_lconst (pc := 24) hZ 1 dJM_floorDiv_24 (by decide) ?_
      refine z_lsub (pc := 25) hZ dJM_floorDiv_25 (fun v25_6 ev25_6 => ?_)
      exact z_retl (pc := 26) hZ dJM_floorDiv_26 rfl ⟨_, rfl, rfl, rfl, (by first | exact fd_1 ev2_1 ev7_2 c10_3 ev16_4 c19_5 ev25_6 | exact fd_2 (v := 0) ev2_1 ev16_4 c19_5 | exact fd_3 ev2_1 ev7_2 c10_3)⟩
set_option maxHeartbeats 4000000 in
set_option maxRecDepth 100000 in
theorem cJM_floorMod (l : Launch) (D : va_G) (tys : zT) (w : va_W) (p0 : Int64) (p1 : Int64) (hne : ¬ p1 = 0) : zM l D vwCl zNF zNM yJM_floorMod wsJM_floorMod { frames := 0, cells := 0, slots := 0, locals := 0 } [.long p0, .long p1] (w) tys (qL (fun r w' tys' => w = w' ∧ tys = tys' ∧ (r = fmS p0 p1))) := by
  refine z_met (cc := bJM_floorMod) (maxL := 6) (ret := (some .long)) (isI := false) (own := RJM) (by decide +kernel) rfl rfl (fun h => by cases h) (Nat.le_of_ble_eq_true rfl) (fun Z hZ => ?_)
  show Z 0 0 tys 0 [(0, .long p0), (2, .long p1)] [] (w)
  refine z_lload_n (pc := 0) hZ 0 dJM_floorMod_0 rfl rfl ?_
  refine z_lload_n (pc := 1) hZ 1 dJM_floorMod_1 rfl rfl ?_
  refine z_lrem (pc := 2) hZ dJM_floorMod_2 (by assumption) (fun v2_1 ev2_1 => ?_)
  refine z_lstore (pc := 3) hZ [(4, .long v2_1), (0, .long p0), (2, .long p1)] dJM_floorMod_3 (by decide) rfl ?_
  refine z_lload_n (pc := 5) hZ 1 dJM_floorMod_5 rfl rfl ?_
  refine z_lload_n (pc := 6) hZ 2 dJM_floorMod_6 rfl rfl ?_
  refine z_lxor (pc := 7) hZ dJM_floorMod_7 (fun v7_2 ev7_2 => ?_)
  refine z_lconst (pc := 8) hZ 0 dJM_floorMod_8 (by decide) ?_
  refine z_lif_ge (pc := 9) hZ 25 dJM_floorMod_9 dJM_floorMod_10 (by decide) (fun c10_3 => ?_) (fun c10_3 => ?_)
  · refine z_lload (pc := 25) hZ 0 dJM_floorMod_25 rfl ?_
    exact z_retl (pc := 27) hZ dJM_floorMod_27 rfl ⟨_, rfl, rfl, rfl, (by first | exact fm_1 ev2_1 ev7_2 c10_3 nokey_ nokey_ | exact fm_2 ev2_1 nokey_ | exact fm_3 ev2_1 ev7_2 c10_3)⟩
  · refine z_lload (pc := 13) hZ 0 dJM_floorMod_13 rfl ?_
    refine z_lconst (pc := 15) hZ 0 dJM_floorMod_15 (by decide) ?_
    refine z_lif_eq (pc := 16) hZ 25 dJM_floorMod_16 dJM_floorMod_17 (by decide) (fun c17_4 => ?_) (fun c17_4 => ?_)
    · refine z_lload (pc := 25) hZ 0 dJM_floorMod_25 rfl ?_
      exact z_retl (pc := 27) hZ dJM_floorMod_27 rfl ⟨_, rfl, rfl, rfl, (by first | exact fm_1 ev2_1 ev7_2 c10_3 c17_4 nokey_ | exact fm_2 ev2_1 c17_4 | exact fm_3 ev2_1 ev7_2 c10_3)⟩
    · refine z_lload (pc := 20) hZ 0 dJM_floorMod_20 rfl ?_
      refine z_lload_n (pc := 22) hZ 2 dJM_floorMod_22 rfl rfl ?_
      refine z_ladd (pc := 23) hZ dJM_floorMod_23 (fun v23_5 ev23_5 => ?_)
      exact z_retl (pc := 24) hZ dJM_floorMod_24 rfl ⟨_, rfl, rfl, rfl, (by first | exact fm_1 ev2_1 ev7_2 c10_3 c17_4 ev23_5 | exact fm_2 ev2_1 c17_4 | exact fm_3 ev2_1 ev7_2 c10_3)⟩
