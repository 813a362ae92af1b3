set_option maxHeartbeats 4000000 in
set_option maxRecDepth 100000 in
theorem k226_X2_upTo (l : Launch) (D : va_G) (cI cJ cB cZ : ClassId) (ad bd : Nat → Nat) (p1 : Int32) : MetL l yX2_upTo wsX2_upTo 2 46 0 0 D (TYS cI cJ cB cZ) (WX cI cJ cB cZ ad) [.ref (ad 6), .int p1] (fun (r : Int64) (_ : Unit) => r = 0) (fun _ => (WX cI cJ cB cZ ad (Heights_height := fun _ => (-1)) (Heights_measuredAt := 0))) := by
  refine x_startL (ty := .long) (cc := cX2_upTo) (by decide) rfl (Nat.le_of_ble_eq_true rfl) ?_
  intro p e s m args below meth c A ls B hr hnm h hl
  have hx := B.1.1
  have hb := B.1.2.1
  have hml := B.1.2.2.1
  have hts := B.1.2.2.2.2
  have hown : s.vm.findClass RX2 = some m.cls := B.1.2.2.2.1
  have hin2 : ∀ w ∈ u_ws RX2 TX2 6, w ∈ wsX2_upTo := by decide +kernel
  have hl : lv_has ls 5 [(0, .ref (ad 6)), (1, .int p1)] := hl
  refine lv_aload_n hx hb dX2_upTo_0 rfl (lv_at hl 0 rfl) ?_
  refine x_cVVF (n := 0) (As := []) (rest := []) B h (k225_X2_measure l D cI cJ cB cZ ad bd) ⟨⟨_, rfl⟩, by decide +kernel, Nat.le_of_ble_eq_true rfl, Nat.le_of_ble_eq_true rfl⟩ gX2_upTo_X2_measure (show ((WX cI cJ cB cZ ad) : va_W)[6]? = some (_, .inr (2, _)) from rfl) rfl rfl hl.1 rfl (Nat.le_of_ble_eq_true rfl) dX2_upTo_1 ⟨Nat.le_of_ble_eq_true rfl, Nat.le_of_ble_eq_true rfl⟩ (fun u_1 H locs hp_1 h => ?_)
  have h : Hp D A s.heap (WX cI cJ cB cZ ad (Heights_height := fun _ => (-1)) (Heights_measuredAt := 0)) H locs := h
  refine lv_lconst (v := 0) hx hb dX2_upTo_4 (by decide) ?_
  refine lv_lstore_n (lv' := [(2, .long 0), (0, .ref (ad 6)), (1, .int p1)]) hx hb dX2_upTo_5 rfl hl (by decide) rfl (fun ls hl => ?_)
  refine lv_iconst (v := 0) hx hb dX2_upTo_6 (by decide) ?_
  refine lv_istore (lv' := [(4, .int 0), (2, .long 0), (0, .ref (ad 6)), (1, .int p1)]) hx hb dX2_upTo_7 hl (by decide) rfl (fun ls hl => ?_)
  refine lv_iload hx hb dX2_upTo_9 (lv_at hl 0 rfl) ?_
  refine lv_aload_n hx hb dX2_upTo_11 rfl (lv_at hl 2 rfl) ?_
  refine x_get (ci := 2) (C := RX2) (T := TX2) (N := 6) (v := .int 0) B h hin2 6 4 rfl rfl (by decide) (by decide +kernel) rfl dX2_upTo_12 ?_
  refine lv_icmp_ge (tgt := 53) hx hb dX2_upTo_15 (by decide) (fun c_2 => ?_) (fun c_2 => absurd c_2 (by decide))
  refine lv_lload_n hx hb dX2_upTo_53 rfl (lv_at hl 1 rfl) ?_
  exact x_lret (w1 := (fun _ => (WX cI cJ cB cZ ad (Heights_height := fun _ => (-1)) (Heights_measuredAt := 0)))) () B h hr rfl dX2_upTo_54
set_option maxHeartbeats 4000000 in
set_option maxRecDepth 100000 in
theorem k227_X9_eulerOf (l : Launch) (D : va_G) (cI cJ cB cZ : ClassId) (ad bd : Nat → Nat) : MetI l yX9_eulerOf wsX9_eulerOf 1 21 0 0 D (TYS cI cJ cB cZ) (WX cI cJ cB cZ ad (Heights_height := fun _ => (-1)) (Heights_measuredAt := 0)) [.ref (ad 3), .long 0] (fun (r : Int32) (_ : Unit) => r = 0) (fun _ => (WX cI cJ cB cZ ad (Heights_height := fun _ => (-1)) (Heights_measuredAt := 0))) := by
  refine x_startI (ty := .int) (cc := cX9_eulerOf) (by decide) rfl (Nat.le_of_ble_eq_true rfl) ?_
  intro p e s m args below meth c A ls B hr hnm h hl
  have hx := B.1.1
  have hb := B.1.2.1
  have hml := B.1.2.2.1
  have hts := B.1.2.2.2.2
  have hown : s.vm.findClass RX9 = some m.cls := B.1.2.2.2.1
  have hin9 : ∀ w ∈ u_ws RX9 TX9 7, w ∈ wsX9_eulerOf := by decide +kernel
  have hl : lv_has ls 6 [(0, .ref (ad 3)), (1, .long 0)] := hl
  refine lv_iconst (v := 0) hx hb dX9_eulerOf_0 (by decide) ?_
  refine lv_istore_n (lv' := [(3, .int 0), (0, .ref (ad 3)), (1, .long 0)]) hx hb dX9_eulerOf_1 rfl hl (by decide) rfl (fun ls hl => ?_)
  refine lv_iconst (v := 0) hx hb dX9_eulerOf_2 (by decide) ?_
  refine lv_istore (lv' := [(4, .int 0), (3, .int 0), (0, .ref (ad 3)), (1, .long 0)]) hx hb dX9_eulerOf_3 hl (by decide) rfl (fun ls hl => ?_)
  refine lv_iload hx hb dX9_eulerOf_5 (lv_at hl 0 rfl) ?_
  refine lv_iconst (v := 5) hx hb dX9_eulerOf_7 (by decide) ?_
  refine lv_icmp_ge (tgt := 49) hx hb dX9_eulerOf_8 (by decide) (fun c_1 => absurd c_1 (by decide)) (fun c_1 => ?_)
  refine lv_lload_n hx hb dX9_eulerOf_11 rfl (lv_at hl 3 rfl) ?_
  refine lv_aload_n hx hb dX9_eulerOf_12 rfl (lv_at hl 2 rfl) ?_
  refine x_get (ci := 9) (C := RX9) (T := TX9) (N := 7) (v := .ref (ad 19)) B h hin9 3 6 rfl rfl (by decide) (by decide +kernel) rfl dX9_eulerOf_13 ?_
  refine lv_iload hx hb dX9_eulerOf_16 (lv_at hl 0 rfl) ?_
  refine va_lald hx hb B.2.1 h.1 19 1 rfl rfl (vp_in_iff.mpr (by decide)) dX9_eulerOf_18 ?_
  refine lv_topl (fun v_2 ev_2 => ?_)
  obtain rfl : v_2 = 0 := ev_2
  refine lv_land hx hb dX9_eulerOf_19 ?_
  refine lv_topl (fun v_3 ev_3 => ?_)
  obtain rfl : v_3 = 0 := ev_3.trans (by decide)
  refine x_cSIE (n := 1) (As := [.long 0]) (rest := []) B h (k65_J13_bitCount_95d88 l D cI cJ cB cZ ad bd) ⟨⟨_, rfl⟩, by decide +kernel, Nat.le_of_ble_eq_true rfl, Nat.le_of_ble_eq_true rfl⟩ gX9_eulerOf_J13_bitCount_95d88 rfl hl.1 rfl (Nat.le_of_ble_eq_true rfl) dX9_eulerOf_20 ⟨Nat.le_of_ble_eq_true rfl, Nat.le_of_ble_eq_true rfl⟩ (fun r_4 u_4 H locs hp_4 h => ?_)
  obtain rfl := hp_4
  have h : Hp D A s.heap (WX cI cJ cB cZ ad (Heights_height := fun _ => (-1)) (Heights_measuredAt := 0)) H locs := h
  refine lv_istore (lv' := [(5, .int 0), (4, .int 0), (3, .int 0), (0, .ref (ad 3)), (1, .long 0)]) hx hb dX9_eulerOf_23 hl (by decide) rfl (fun ls hl => ?_)
  refine lv_iload_n hx hb dX9_eulerOf_25 rfl (lv_at hl 2 rfl) ?_
  refine lv_iload hx hb dX9_eulerOf_26 (lv_at hl 1 rfl) ?_
  refine lv_iconst (v := 1) hx hb dX9_eulerOf_28 (by decide) ?_
  refine lv_iand hx hb dX9_eulerOf_29 ?_
  refine lv_topi (fun v_5 ev_5 => ?_)
  obtain rfl : v_5 = 0 := ev_5.trans (by decide)
  refine lv_if_ne (tgt := 38) hx hb dX9_eulerOf_30 (by decide) (fun c_6 => absurd c_6 (by decide)) (fun c_6 => ?_)
  refine lv_iload hx hb dX9_eulerOf_33 (lv_at hl 0 rfl) ?_
  refine lv_goto (tgt := 41) hx hb dX9_eulerOf_35 (by decide) ?_
  refine lv_iadd hx hb dX9_eulerOf_41 ?_
  refine lv_topi (fun v_7 ev_7 => ?_)
  obtain rfl : v_7 = 0 := ev_7.trans (by decide)
  refine lv_istore_n (lv' := [(3, .int 0), (5, .int 0), (4, .int 0), (0, .ref (ad 3)), (1, .long 0)]) hx hb dX9_eulerOf_42 rfl hl (by decide) rfl (fun ls hl => ?_)
  refine lv_iinc (v := 1) (lv' := [(4, .int 1), (3, .int 0), (5, .int 0), (0, .ref (ad 3)), (1, .long 0)]) hx hb dX9_eulerOf_43 hl (k := 2) rfl (by decide) (by decide) rfl (fun ls hl => ?_)
  refine lv_goto (tgt := 5) hx hb dX9_eulerOf_46 (by decide) ?_
  refine lv_iload hx hb dX9_eulerOf_5 (lv_at hl 0 rfl) ?_
  refine lv_iconst (v := 5) hx hb dX9_eulerOf_7 (by decide) ?_
  refine lv_icmp_ge (tgt := 49) hx hb dX9_eulerOf_8 (by decide) (fun c_8 => absurd c_8 (by decide)) (fun c_8 => ?_)
  refine lv_lload_n hx hb dX9_eulerOf_11 rfl (lv_at hl 4 rfl) ?_
  refine lv_aload_n hx hb dX9_eulerOf_12 rfl (lv_at hl 3 rfl) ?_
  refine x_get (ci := 9) (C := RX9) (T := TX9) (N := 7) (v := .ref (ad 19)) B h hin9 3 6 rfl rfl (by decide) (by decide +kernel) rfl dX9_eulerOf_13 ?_
  refine lv_iload hx hb dX9_eulerOf_16 (lv_at hl 0 rfl) ?_
  refine va_lald hx hb B.2.1 h.1 19 1 rfl rfl (vp_in_iff.mpr (by decide)) dX9_eulerOf_18 ?_
  refine lv_topl (fun v_9 ev_9 => ?_)
  obtain rfl : v_9 = 0 := ev_9
  refine lv_land hx hb dX9_eulerOf_19 ?_
  refine lv_topl (fun v_10 ev_10 => ?_)
  obtain rfl : v_10 = 0 := ev_10.trans (by decide)
  refine x_cSIE (n := 1) (As := [.long 0]) (rest := []) B h (k65_J13_bitCount_95d88 l D cI cJ cB cZ ad bd) ⟨⟨_, rfl⟩, by decide +kernel, Nat.le_of_ble_eq_true rfl, Nat.le_of_ble_eq_true rfl⟩ gX9_eulerOf_J13_bitCount_95d88 rfl hl.1 rfl (Nat.le_of_ble_eq_true rfl) dX9_eulerOf_20 ⟨Nat.le_of_ble_eq_true rfl, Nat.le_of_ble_eq_true rfl⟩ (fun r_11 u_11 H locs hp_11 h => ?_)
  obtain rfl := hp_11
  have h : Hp D A s.heap (WX cI cJ cB cZ ad (Heights_height := fun _ => (-1)) (Heights_measuredAt := 0)) H locs := h
  refine lv_istore (lv' := [(5, .int 0), (4, .int 1), (3, .int 0), (0, .ref (ad 3)), (1, .long 0)]) hx hb dX9_eulerOf_23 hl (by decide) rfl (fun ls hl => ?_)
  refine lv_iload_n hx hb dX9_eulerOf_25 rfl (lv_at hl 2 rfl) ?_
  refine lv_iload hx hb dX9_eulerOf_26 (lv_at hl 1 rfl) ?_
  refine lv_iconst (v := 1) hx hb dX9_eulerOf_28 (by decide) ?_
  refine lv_iand hx hb dX9_eulerOf_29 ?_
  refine lv_topi (fun v_12 ev_12 => ?_)
  obtain rfl : v_12 = 1 := ev_12.trans (by decide)
  refine lv_if_ne (tgt := 38) hx hb dX9_eulerOf_30 (by decide) (fun c_13 => ?_) (fun c_13 => absurd c_13 (by decide))
  refine lv_iload hx hb dX9_eulerOf_38 (lv_at hl 0 rfl) ?_
  refine lv_ineg hx hb dX9_eulerOf_40 ?_
  refine lv_topi (fun v_14 ev_14 => ?_)
  obtain rfl : v_14 = 0 := ev_14.trans (by decide)
  refine lv_iadd hx hb dX9_eulerOf_41 ?_
  refine lv_topi (fun v_15 ev_15 => ?_)
  obtain rfl : v_15 = 0 := ev_15.trans (by decide)
  refine lv_istore_n (lv' := [(3, .int 0), (5, .int 0), (4, .int 1), (0, .ref (ad 3)), (1, .long 0)]) hx hb dX9_eulerOf_42 rfl hl (by decide) rfl (fun ls hl => ?_)
  refine lv_iinc (v := 2) (lv' := [(4, .int 2), (3, .int 0), (5, .int 0), (0, .ref (ad 3)), (1, .long 0)]) hx hb dX9_eulerOf_43 hl (k := 2) rfl (by decide) (by decide) rfl (fun ls hl => ?_)
  refine lv_goto (tgt := 5) hx hb dX9_eulerOf_46 (by decide) ?_
  refine lv_iload hx hb dX9_eulerOf_5 (lv_at hl 0 rfl) ?_
  refine lv_iconst (v := 5) hx hb dX9_eulerOf_7 (by decide) ?_
  refine lv_icmp_ge (tgt := 49) hx hb dX9_eulerOf_8 (by decide) (fun c_16 => absurd c_16 (by decide)) (fun c_16 => ?_)
  refine lv_lload_n hx hb dX9_eulerOf_11 rfl (lv_at hl 4 rfl) ?_
  refine lv_aload_n hx hb dX9_eulerOf_12 rfl (lv_at hl 3 rfl) ?_
  refine x_get (ci := 9) (C := RX9) (T := TX9) (N := 7) (v := .ref (ad 19)) B h hin9 3 6 rfl rfl (by decide) (by decide +kernel) rfl dX9_eulerOf_13 ?_
  refine lv_iload hx hb dX9_eulerOf_16 (lv_at hl 0 rfl) ?_
  refine va_lald hx hb B.2.1 h.1 19 1 rfl rfl (vp_in_iff.mpr (by decide)) dX9_eulerOf_18 ?_
  refine lv_topl (fun v_17 ev_17 => ?_)
  obtain rfl : v_17 = 0 := ev_17
  refine lv_land hx hb dX9_eulerOf_19 ?_
  refine lv_topl (fun v_18 ev_18 => ?_)
  obtain rfl : v_18 = 0 := ev_18.trans (by decide)
  refine x_cSIE (n := 1) (As := [.long 0]) (rest := []) B h (k65_J13_bitCount_95d88 l D cI cJ cB cZ ad bd) ⟨⟨_, rfl⟩, by decide +kernel, Nat.le_of_ble_eq_true rfl, Nat.le_of_ble_eq_true rfl⟩ gX9_eulerOf_J13_bitCount_95d88 rfl hl.1 rfl (Nat.le_of_ble_eq_true rfl) dX9_eulerOf_20 ⟨Nat.le_of_ble_eq_true rfl, Nat.le_of_ble_eq_true rfl⟩ (fun r_19 u_19 H locs hp_19 h => ?_)
  obtain rfl := hp_19
  have h : Hp D A s.heap (WX cI cJ cB cZ ad (Heights_height := fun _ => (-1)) (Heights_measuredAt := 0)) H locs := h
  refine lv_istore (lv' := [(5, .int 0), (4, .int 2), (3, .int 0), (0, .ref (ad 3)), (1, .long 0)]) hx hb dX9_eulerOf_23 hl (by decide) rfl (fun ls hl => ?_)
  refine lv_iload_n hx hb dX9_eulerOf_25 rfl (lv_at hl 2 rfl) ?_
  refine lv_iload hx hb dX9_eulerOf_26 (lv_at hl 1 rfl) ?_
  refine lv_iconst (v := 1) hx hb dX9_eulerOf_28 (by decide) ?_
  refine lv_iand hx hb dX9_eulerOf_29 ?_
  refine lv_topi (fun v_20 ev_20 => ?_)
  obtain rfl : v_20 = 0 := ev_20.trans (by decide)
  refine lv_if_ne (tgt := 38) hx hb dX9_eulerOf_30 (by decide) (fun c_21 => absurd c_21 (by decide)) (fun c_21 => ?_)
  refine lv_iload hx hb dX9_eulerOf_33 (lv_at hl 0 rfl) ?_
  refine lv_goto (tgt := 41) hx hb dX9_eulerOf_35 (by decide) ?_
  refine lv_iadd hx hb dX9_eulerOf_41 ?_
  refine lv_topi (fun v_22 ev_22 => ?_)
  obtain rfl : v_22 = 0 := ev_22.trans (by decide)
  refine lv_istore_n (lv' := [(3, .int 0), (5, .int 0), (4, .int 2), (0, .ref (ad 3)), (1, .long 0)]) hx hb dX9_eulerOf_42 rfl hl (by decide) rfl (fun ls hl => ?_)
  refine lv_iinc (v := 3) (lv' := [(4, .int 3), (3, .int 0), (5, .int 0), (0, .ref (ad 3)), (1, .long 0)]) hx hb dX9_eulerOf_43 hl (k := 2) rfl (by decide) (by decide) rfl (fun ls hl => ?_)
  refine lv_goto (tgt := 5) hx hb dX9_eulerOf_46 (by decide) ?_
  refine lv_iload hx hb dX9_eulerOf_5 (lv_at hl 0 rfl) ?_
  refine lv_iconst (v := 5) hx hb dX9_eulerOf_7 (by decide) ?_
  refine lv_icmp_ge (tgt := 49) hx hb dX9_eulerOf_8 (by decide) (fun c_23 => absurd c_23 (by decide)) (fun c_23 => ?_)
  refine lv_lload_n hx hb dX9_eulerOf_11 rfl (lv_at hl 4 rfl) ?_
  refine lv_aload_n hx hb dX9_eulerOf_12 rfl (lv_at hl 3 rfl) ?_
  refine x_get (ci := 9) (C := RX9) (T := TX9) (N := 7) (v := .ref (ad 19)) B h hin9 3 6 rfl rfl (by decide) (by decide +kernel) rfl dX9_eulerOf_13 ?_
  refine lv_iload hx hb dX9_eulerOf_16 (lv_at hl 0 rfl) ?_
  refine va_lald hx hb B.2.1 h.1 19 1 rfl rfl (vp_in_iff.mpr (by decide)) dX9_eulerOf_18 ?_
  refine lv_topl (fun v_24 ev_24 => ?_)
  obtain rfl : v_24 = 0 := ev_24
  refine lv_land hx hb dX9_eulerOf_19 ?_
  refine lv_topl (fun v_25 ev_25 => ?_)
  obtain rfl : v_25 = 0 := ev_25.trans (by decide)
  refine x_cSIE (n := 1) (As := [.long 0]) (rest := []) B h (k65_J13_bitCount_95d88 l D cI cJ cB cZ ad bd) ⟨⟨_, rfl⟩, by decide +kernel, Nat.le_of_ble_eq_true rfl, Nat.le_of_ble_eq_true rfl⟩ gX9_eulerOf_J13_bitCount_95d88 rfl hl.1 rfl (Nat.le_of_ble_eq_true rfl) dX9_eulerOf_20 ⟨Nat.le_of_ble_eq_true rfl, Nat.le_of_ble_eq_true rfl⟩ (fun r_26 u_26 H locs hp_26 h => ?_)
  obtain rfl := hp_26
  have h : Hp D A s.heap (WX cI cJ cB cZ ad (Heights_height := fun _ => (-1)) (Heights_measuredAt := 0)) H locs := h
  refine lv_istore (lv' := [(5, .int 0), (4, .int 3), (3, .int 0), (0, .ref (ad 3)), (1, .long 0)]) hx hb dX9_eulerOf_23 hl (by decide) rfl (fun ls hl => ?_)
  refine lv_iload_n hx hb dX9_eulerOf_25 rfl (lv_at hl 2 rfl) ?_
  refine lv_iload hx hb dX9_eulerOf_26 (lv_at hl 1 rfl) ?_
  refine lv_iconst (v := 1) hx hb dX9_eulerOf_28 (by decide) ?_
  refine lv_iand hx hb dX9_eulerOf_29 ?_
  refine lv_topi (fun v_27 ev_27 => ?_)
  obtain rfl : v_27 = 1 := ev_27.trans (by decide)
  refine lv_if_ne (tgt := 38) hx hb dX9_eulerOf_30 (by decide) (fun c_28 => ?_) (fun c_28 => absurd c_28 (by decide))
  refine lv_iload hx hb dX9_eulerOf_38 (lv_at hl 0 rfl) ?_
  refine lv_ineg hx hb dX9_eulerOf_40 ?_
  refine lv_topi (fun v_29 ev_29 => ?_)
  obtain rfl : v_29 = 0 := ev_29.trans (by decide)
  refine lv_iadd hx hb dX9_eulerOf_41 ?_
  refine lv_topi (fun v_30 ev_30 => ?_)
  obtain rfl : v_30 = 0 := ev_30.trans (by decide)
  refine lv_istore_n (lv' := [(3, .int 0), (5, .int 0), (4, .int 3), (0, .ref (ad 3)), (1, .long 0)]) hx hb dX9_eulerOf_42 rfl hl (by decide) rfl (fun ls hl => ?_)
  refine lv_iinc (v := 4) (lv' := [(4, .int 4), (3, .int 0), (5, .int 0), (0, .ref (ad 3)), (1, .long 0)]) hx hb dX9_eulerOf_43 hl (k := 2) rfl (by decide) (by decide) rfl (fun ls hl => ?_)
  refine lv_goto (tgt := 5) hx hb dX9_eulerOf_46 (by decide) ?_
  refine lv_iload hx hb dX9_eulerOf_5 (lv_at hl 0 rfl) ?_
  refine lv_iconst (v := 5) hx hb dX9_eulerOf_7 (by decide) ?_
  refine lv_icmp_ge (tgt := 49) hx hb dX9_eulerOf_8 (by decide) (fun c_31 => absurd c_31 (by decide)) (fun c_31 => ?_)
  refine lv_lload_n hx hb dX9_eulerOf_11 rfl (lv_at hl 4 rfl) ?_
  refine lv_aload_n hx hb dX9_eulerOf_12 rfl (lv_at hl 3 rfl) ?_
  refine x_get (ci := 9) (C := RX9) (T := TX9) (N := 7) (v := .ref (ad 19)) B h hin9 3 6 rfl rfl (by decide) (by decide +kernel) rfl dX9_eulerOf_13 ?_
  refine lv_iload hx hb dX9_eulerOf_16 (lv_at hl 0 rfl) ?_
  refine va_lald hx hb B.2.1 h.1 19 1 rfl rfl (vp_in_iff.mpr (by decide)) dX9_eulerOf_18 ?_
  refine lv_topl (fun v_32 ev_32 => ?_)
  obtain rfl : v_32 = 0 := ev_32
  refine lv_land hx hb dX9_eulerOf_19 ?_
  refine lv_topl (fun v_33 ev_33 => ?_)
  obtain rfl : v_33 = 0 := ev_33.trans (by decide)
  refine x_cSIE (n := 1) (As := [.long 0]) (rest := []) B h (k65_J13_bitCount_95d88 l D cI cJ cB cZ ad bd) ⟨⟨_, rfl⟩, by decide +kernel, Nat.le_of_ble_eq_true rfl, Nat.le_of_ble_eq_true rfl⟩ gX9_eulerOf_J13_bitCount_95d88 rfl hl.1 rfl (Nat.le_of_ble_eq_true rfl) dX9_eulerOf_20 ⟨Nat.le_of_ble_eq_true rfl, Nat.le_of_ble_eq_true rfl⟩ (fun r_34 u_34 H locs hp_34 h => ?_)
  obtain rfl := hp_34
  have h : Hp D A s.heap (WX cI cJ cB cZ ad (Heights_height := fun _ => (-1)) (Heights_measuredAt := 0)) H locs := h
  refine lv_istore (lv' := [(5, .int 0), (4, .int 4), (3, .int 0), (0, .ref (ad 3)), (1, .long 0)]) hx hb dX9_eulerOf_23 hl (by decide) rfl (fun ls hl => ?_)
  refine lv_iload_n hx hb dX9_eulerOf_25 rfl (lv_at hl 2 rfl) ?_
  refine lv_iload hx hb dX9_eulerOf_26 (lv_at hl 1 rfl) ?_
  refine lv_iconst (v := 1) hx hb dX9_eulerOf_28 (by decide) ?_
  refine lv_iand hx hb dX9_eulerOf_29 ?_
  refine lv_topi (fun v_35 ev_35 => ?_)
  obtain rfl : v_35 = 0 := ev_35.trans (by decide)
  refine lv_if_ne (tgt := 38) hx hb dX9_eulerOf_30 (by decide) (fun c_36 => absurd c_36 (by decide)) (fun c_36 => ?_)
  refine lv_iload hx hb dX9_eulerOf_33 (lv_at hl 0 rfl) ?_
  refine lv_goto (tgt := 41) hx hb dX9_eulerOf_35 (by decide) ?_
  refine lv_iadd hx hb dX9_eulerOf_41 ?_
  refine lv_topi (fun v_37 ev_37 => ?_)
  obtain rfl : v_37 = 0 := ev_37.trans (by decide)
  refine lv_istore_n (lv' := [(3, .int 0), (5, .int 0), (4, .int 4), (0, .ref (ad 3)), (1, .long 0)]) hx hb dX9_eulerOf_42 rfl hl (by decide) rfl (fun ls hl => ?_)
  refine lv_iinc (v := 5) (lv' := [(4, .int 5), (3, .int 0), (5, .int 0), (0, .ref (ad 3)), (1, .long 0)]) hx hb dX9_eulerOf_43 hl (k := 2) rfl (by decide) (by decide) rfl (fun ls hl => ?_)
  refine lv_goto (tgt := 5) hx hb dX9_eulerOf_46 (by decide) ?_
  refine lv_iload hx hb dX9_eulerOf_5 (lv_at hl 0 rfl) ?_
  refine lv_iconst (v := 5) hx hb dX9_eulerOf_7 (by decide) ?_
  refine lv_icmp_ge (tgt := 49) hx hb dX9_eulerOf_8 (by decide) (fun c_38 => ?_) (fun c_38 => absurd c_38 (by decide))
  refine lv_iload_n hx hb dX9_eulerOf_49 rfl (lv_at hl 1 rfl) ?_
  exact x_iret (w1 := (fun _ => (WX cI cJ cB cZ ad (Heights_height := fun _ => (-1)) (Heights_measuredAt := 0)))) () B h hr rfl rfl dX9_eulerOf_50
set_option maxHeartbeats 4000000 in
set_option maxRecDepth 100000 in
theorem k228_X11_level (l : Launch) (D : va_G) (cI cJ cB cZ : ClassId) (ad bd : Nat → Nat) (p1 : Int32) (p2 : Int32) : MetI l yX11_level wsX11_level 3 70 0 0 D (TYS cI cJ cB cZ) (WX cI cJ cB cZ ad) [.ref (ad 0), .int p1, .int p2] (fun (r : Int32) (u : Nat) => (u = 0 ∧ (p1 < 0) ∧ r = (-1)) ∨ (u = 1 ∧ (¬ p1 < 0) ∧ (p2 < 0) ∧ r = (-1)) ∨ (u = 2 ∧ (¬ p1 < 0) ∧ (¬ p2 < 0) ∧ (p2 ≤ 1) ∧ (¬ p2 = 0) ∧ r = 0) ∨ (u = 3 ∧ (¬ p1 < 0) ∧ (¬ p2 < 0) ∧ (p2 ≤ 1) ∧ (p2 = 0) ∧ r = 0) ∨ (u = 4 ∧ (¬ p1 < 0) ∧ (¬ p2 < 0) ∧ (¬ p2 ≤ 1) ∧ r = (-1))) (fun u : Nat => match u with | 0 => (WX cI cJ cB cZ ad) | 1 => (WX cI cJ cB cZ ad) | 2 => (WX cI cJ cB cZ ad (Heights_height := fun _ => (-1)) (Heights_measuredAt := 0)) | 3 => (WX cI cJ cB cZ ad (Heights_height := fun _ => (-1)) (Heights_measuredAt := 0)) | _ => (WX cI cJ cB cZ ad)) := by
  refine x_startI (ty := .int) (cc := cX11_level) (by decide) rfl (Nat.le_of_ble_eq_true rfl) ?_
  intro p e s m args below meth c A ls B hr hnm h hl
  have hx := B.1.1
  have hb := B.1.2.1
  have hml := B.1.2.2.1
  have hts := B.1.2.2.2.2
  have hown : s.vm.findClass RX11 = some m.cls := B.1.2.2.2.1
  have hin11 : ∀ w ∈ u_ws RX11 TX11 11, w ∈ wsX11_level := by decide +kernel
  have hl : lv_has ls 5 [(0, .ref (ad 0)), (1, .int p1), (2, .int p2)] := hl
  refine lv_iload_n hx hb dX11_level_0 rfl (lv_at hl 1 rfl) ?_
  refine lv_if_lt (tgt := 13) hx hb dX11_level_1 (by decide) (fun c_1 => ?_) (fun c_1 => ?_)
  · skip
    refine lv_iconst (v := (-1)) hx hb dX11_level_13 (by decide) ?_
    exact x_iret (w1 := (fun u : Nat => match u with | 0 => (WX cI cJ cB cZ ad) | 1 => (WX cI cJ cB cZ ad) | 2 => (WX cI cJ cB cZ ad (Heights_height := fun _ => (-1)) (Heights_measuredAt := 0)) | 3 => (WX cI cJ cB cZ ad (Heights_height := fun _ => (-1)) (Heights_measuredAt := 0)) | _ => (WX cI cJ cB cZ ad))) 0 B h hr rfl (Or.inl ⟨rfl, c_1, rfl⟩) dX11_level_14
  · skip
    refine lv_iload_n hx hb dX11_level_4 rfl (lv_at hl 2 rfl) ?_
    refine lv_if_lt (tgt := 13) hx hb dX11_level_5 (by decide) (fun c_2 => ?_) (fun c_2 => ?_)
    · skip
      refine lv_iconst (v := (-1)) hx hb dX11_level_13 (by decide) ?_
      exact x_iret (w1 := (fun u : Nat => match u with | 0 => (WX cI cJ cB cZ ad) | 1 => (WX cI cJ cB cZ ad) | 2 => (WX cI cJ cB cZ ad (Heights_height := fun _ => (-1)) (Heights_measuredAt := 0)) | 3 => (WX cI cJ cB cZ ad (Heights_height := fun _ => (-1)) (Heights_measuredAt := 0)) | _ => (WX cI cJ cB cZ ad))) 1 B h hr rfl (Or.inr (Or.inl ⟨rfl, c_1, c_2, rfl⟩)) dX11_level_14
    · skip
      refine lv_iload_n hx hb dX11_level_8 rfl (lv_at hl 2 rfl) ?_
      refine lv_iconst (v := 1) hx hb dX11_level_9 (by decide) ?_
      refine lv_icmp_le (tgt := 15) hx hb dX11_level_10 (by decide) (fun c_3 => ?_) (fun c_3 => ?_)
      · skip
        refine lv_aload_n hx hb dX11_level_15 rfl (lv_at hl 0 rfl) ?_
        refine x_get (ci := 11) (C := RX11) (T := TX11) (N := 11) (v := .ref (ad 6)) B h hin11 0 5 rfl rfl (by decide) (by decide +kernel) rfl dX11_level_16 ?_
        refine lv_iload_n hx hb dX11_level_19 rfl (lv_at hl 1 rfl) ?_
        refine x_cVLF (n := 1) (As := [.int p1]) (rest := []) B h (k226_X2_upTo l D cI cJ cB cZ ad bd p1) ⟨⟨_, rfl⟩, by decide +kernel, Nat.le_of_ble_eq_true rfl, Nat.le_of_ble_eq_true rfl⟩ gX11_level_X2_upTo (show ((WX cI cJ cB cZ ad) : va_W)[6]? = some (_, .inr (2, _)) from rfl) rfl rfl hl.1 rfl (Nat.le_of_ble_eq_true rfl) dX11_level_20 ⟨Nat.le_of_ble_eq_true rfl, Nat.le_of_ble_eq_true rfl⟩ (fun r_4 u_4 H locs hp_4 h => ?_)
        obtain rfl := hp_4
        have h : Hp D A s.heap (WX cI cJ cB cZ ad (Heights_height := fun _ => (-1)) (Heights_measuredAt := 0)) H locs := h
        refine lv_lstore_n (lv' := [(3, .long 0), (0, .ref (ad 0)), (1, .int p1), (2, .int p2)]) hx hb dX11_level_23 rfl hl (by decide) rfl (fun ls hl => ?_)
        refine lv_iload_n hx hb dX11_level_24 rfl (lv_at hl 3 rfl) ?_
        refine lv_if_ne (tgt := 35) hx hb dX11_level_25 (by decide) (fun c_5 => ?_) (fun c_5 => ?_)
        · skip
          refine lv_aload_n hx hb dX11_level_35 rfl (lv_at hl 1 rfl) ?_
          refine x_get (ci := 11) (C := RX11) (T := TX11) (N := 11) (v := .ref (ad 3)) B h hin11 0 2 rfl rfl (by decide) (by decide +kernel) rfl dX11_level_36 ?_
          refine lv_lload_n hx hb dX11_level_39 rfl (lv_at hl 0 rfl) ?_
          refine x_cVIF (n := 1) (As := [.long 0]) (rest := []) B h (k227_X9_eulerOf l D cI cJ cB cZ ad bd) ⟨⟨_, rfl⟩, by decide +kernel, Nat.le_of_ble_eq_true rfl, Nat.le_of_ble_eq_true rfl⟩ gX11_level_X9_eulerOf (show ((WX cI cJ cB cZ ad (Heights_height := fun _ => (-1)) (Heights_measuredAt := 0)) : va_W)[3]? = some (_, .inr (9, _)) from rfl) rfl rfl hl.1 rfl (Nat.le_of_ble_eq_true rfl) dX11_level_40 ⟨Nat.le_of_ble_eq_true rfl, Nat.le_of_ble_eq_true rfl⟩ (fun r_6 u_6 H locs hp_6 h => ?_)
          obtain rfl := hp_6
          have h : Hp D A s.heap (WX cI cJ cB cZ ad (Heights_height := fun _ => (-1)) (Heights_measuredAt := 0)) H locs := h
          exact x_iret (w1 := (fun u : Nat => match u with | 0 => (WX cI cJ cB cZ ad) | 1 => (WX cI cJ cB cZ ad) | 2 => (WX cI cJ cB cZ ad (Heights_height := fun _ => (-1)) (Heights_measuredAt := 0)) | 3 => (WX cI cJ cB cZ ad (Heights_height := fun _ => (-1)) (Heights_measuredAt := 0)) | _ => (WX cI cJ cB cZ ad))) 2 B h hr rfl (Or.inr (Or.inr (Or.inl ⟨rfl, c_1, c_2, c_3, c_5, rfl⟩))) dX11_level_43
        · skip
          refine lv_lload_n hx hb dX11_level_28 rfl (lv_at hl 0 rfl) ?_
          refine x_cSIE (n := 1) (As := [.long 0]) (rest := []) B h (k65_J13_bitCount_95d88 l D cI cJ cB cZ ad bd) ⟨⟨_, rfl⟩, by decide +kernel, Nat.le_of_ble_eq_true rfl, Nat.le_of_ble_eq_true rfl⟩ gX11_level_J13_bitCount_95d88 rfl hl.1 rfl (Nat.le_of_ble_eq_true rfl) dX11_level_29 ⟨Nat.le_of_ble_eq_true rfl, Nat.le_of_ble_eq_true rfl⟩ (fun r_7 u_7 H locs hp_7 h => ?_)
          obtain rfl := hp_7
          have h : Hp D A s.heap (WX cI cJ cB cZ ad (Heights_height := fun _ => (-1)) (Heights_measuredAt := 0)) H locs := h
          refine lv_goto (tgt := 43) hx hb dX11_level_32 (by decide) ?_
          exact x_iret (w1 := (fun u : Nat => match u with | 0 => (WX cI cJ cB cZ ad) | 1 => (WX cI cJ cB cZ ad) | 2 => (WX cI cJ cB cZ ad (Heights_height := fun _ => (-1)) (Heights_measuredAt := 0)) | 3 => (WX cI cJ cB cZ ad (Heights_height := fun _ => (-1)) (Heights_measuredAt := 0)) | _ => (WX cI cJ cB cZ ad))) 3 B h hr rfl (Or.inr (Or.inr (Or.inr (Or.inl ⟨rfl, c_1, c_2, c_3, c_5, rfl⟩)))) dX11_level_43
      · skip
        refine lv_iconst (v := (-1)) hx hb dX11_level_13 (by decide) ?_
        exact x_iret (w1 := (fun u : Nat => match u with | 0 => (WX cI cJ cB cZ ad) | 1 => (WX cI cJ cB cZ ad) | 2 => (WX cI cJ cB cZ ad (Heights_height := fun _ => (-1)) (Heights_measuredAt := 0)) | 3 => (WX cI cJ cB cZ ad (Heights_height := fun _ => (-1)) (Heights_measuredAt := 0)) | _ => (WX cI cJ cB cZ ad))) 4 B h hr rfl (Or.inr (Or.inr (Or.inr (Or.inr (⟨rfl, c_1, c_2, c_3, rfl⟩))))) dX11_level_14
set_option maxHeartbeats 4000000 in
set_option maxRecDepth 100000 in
theorem k229_X12_laysHeights (l : Launch) (D : va_G) (cI cJ cB cZ : ClassId) (ad bd : Nat → Nat) : MetV l yX12_laysHeights wsX12_laysHeights 0 0 0 0 D (TYS cI cJ cB cZ) (WM cI cJ cB cZ bd) [.ref (bd 0)] (fun _ : Unit => True) (fun _ => (WM cI cJ cB cZ bd)) := by
  refine x_startV (ty := .int) (cc := cX12_laysHeights) (by decide) rfl (Nat.le_of_ble_eq_true rfl) ?_
  intro p e s m args below meth c A ls B hr hnm h hl
  have hx := B.1.1
  have hb := B.1.2.1
  have hml := B.1.2.2.1
  have hts := B.1.2.2.2.2
  have hown : s.vm.findClass RX12 = some m.cls := B.1.2.2.2.1
  have hin12 : ∀ w ∈ u_ws RX12 TX12 31, w ∈ wsX12_laysHeights := by decide +kernel
  have hl : lv_has ls 6 [(0, .ref (bd 0))] := hl
  refine lv_iconst (v := 0) hx hb dX12_laysHeights_0 (by decide) ?_
  refine lv_istore_n (lv' := [(1, .int 0), (0, .ref (bd 0))]) hx hb dX12_laysHeights_1 rfl hl (by decide) rfl (fun ls hl => ?_)
  refine lv_iload_n hx hb dX12_laysHeights_2 rfl (lv_at hl 0 rfl) ?_
  refine lv_aload_n hx hb dX12_laysHeights_3 rfl (lv_at hl 1 rfl) ?_
  refine x_get (ci := 12) (C := RX12) (T := TX12) (N := 31) (v := .int 0) B h hin12 0 5 rfl rfl (by decide) (by decide +kernel) rfl dX12_laysHeights_4 ?_
  refine lv_icmp_ge (tgt := 23) hx hb dX12_laysHeights_7 (by decide) (fun c_1 => ?_) (fun c_1 => absurd c_1 (by decide))
  refine lv_iconst (v := 1) hx hb dX12_laysHeights_23 (by decide) ?_
  refine lv_istore_n (lv' := [(1, .int 1), (0, .ref (bd 0))]) hx hb dX12_laysHeights_24 rfl hl (by decide) rfl (fun ls hl => ?_)
  refine lv_iload_n hx hb dX12_laysHeights_25 rfl (lv_at hl 0 rfl) ?_
  refine lv_if_eq (tgt := 161) hx hb dX12_laysHeights_26 (by decide) (fun c_2 => absurd c_2 (by decide)) (fun c_2 => ?_)
  refine lv_iconst (v := 0) hx hb dX12_laysHeights_29 (by decide) ?_
  refine lv_istore_n (lv' := [(1, .int 0), (0, .ref (bd 0))]) hx hb dX12_laysHeights_30 rfl hl (by decide) rfl (fun ls hl => ?_)
  refine lv_iconst (v := 0) hx hb dX12_laysHeights_31 (by decide) ?_
  refine lv_istore_n (lv' := [(2, .int 0), (1, .int 0), (0, .ref (bd 0))]) hx hb dX12_laysHeights_32 rfl hl (by decide) rfl (fun ls hl => ?_)
  refine lv_iload_n hx hb dX12_laysHeights_33 rfl (lv_at hl 0 rfl) ?_
  refine lv_aload_n hx hb dX12_laysHeights_34 rfl (lv_at hl 2 rfl) ?_
  refine x_get (ci := 12) (C := RX12) (T := TX12) (N := 31) (v := .int 0) B h hin12 0 5 rfl rfl (by decide) (by decide +kernel) rfl dX12_laysHeights_35 ?_
  refine lv_icmp_ge (tgt := 158) hx hb dX12_laysHeights_38 (by decide) (fun c_3 => ?_) (fun c_3 => absurd c_3 (by decide))
  refine lv_goto (tgt := 25) hx hb dX12_laysHeights_158 (by decide) ?_
  refine lv_iload_n hx hb dX12_laysHeights_25 rfl (lv_at hl 1 rfl) ?_
  refine lv_if_eq (tgt := 161) hx hb dX12_laysHeights_26 (by decide) (fun c_4 => ?_) (fun c_4 => absurd c_4 (by decide))
  exact x_vret (w1 := (fun _ => (WM cI cJ cB cZ bd))) () B h hr trivial dX12_laysHeights_161
set_option maxHeartbeats 4000000 in
set_option maxRecDepth 100000 in
theorem k230_X12_level (l : Launch) (D : va_G) (cI cJ cB cZ : ClassId) (ad bd : Nat → Nat) (p1 : Int32) (p2 : Int32) : MetI l yX12_level wsX12_level 1 25 0 0 D (TYS cI cJ cB cZ) (WM cI cJ cB cZ bd) [.ref (bd 0), .int p1, .int p2] (fun (r : Int32) (u : Nat) => (u = 0 ∧ (p1 < 0) ∧ r = (-1)) ∨ (u = 1 ∧ (¬ p1 < 0) ∧ (p2 < 0) ∧ r = (-1)) ∨ (u = 2 ∧ (¬ p1 < 0) ∧ (¬ p2 < 0) ∧ (1 < p2) ∧ r = (-1)) ∨ (u = 3 ∧ (¬ p1 < 0) ∧ (¬ p2 < 0) ∧ (¬ 1 < p2) ∧ r = 0)) (fun _ => (WM cI cJ cB cZ bd)) := by
  refine x_startI (ty := .int) (cc := cX12_level) (by decide) rfl (Nat.le_of_ble_eq_true rfl) ?_
  intro p e s m args below meth c A ls B hr hnm h hl
  have hx := B.1.1
  have hb := B.1.2.1
  have hml := B.1.2.2.1
  have hts := B.1.2.2.2.2
  have hown : s.vm.findClass RX12 = some m.cls := B.1.2.2.2.1
  have hin12 : ∀ w ∈ u_ws RX12 TX12 31, w ∈ wsX12_level := by decide +kernel
  have hl : lv_has ls 5 [(0, .ref (bd 0)), (1, .int p1), (2, .int p2)] := hl
  refine lv_iload_n hx hb dX12_level_0 rfl (lv_at hl 1 rfl) ?_
  refine lv_if_lt (tgt := 13) hx hb dX12_level_1 (by decide) (fun c_1 => ?_) (fun c_1 => ?_)
  · skip
    refine lv_iconst (v := (-1)) hx hb dX12_level_13 (by decide) ?_
    exact x_iret (w1 := (fun _ => (WM cI cJ cB cZ bd))) 0 B h hr rfl (Or.inl ⟨rfl, c_1, rfl⟩) dX12_level_14
  · skip
    refine lv_iload_n hx hb dX12_level_4 rfl (lv_at hl 2 rfl) ?_
    refine lv_iconst (v := 0) hx hb dX12_level_5 (by decide) ?_
    refine lv_iconst (v := 1) hx hb dX12_level_6 (by decide) ?_
    refine x_cSIE (n := 3) (As := [.int p2, .int 0, .int 1]) (rest := []) B h (k126_X12_in l D cI cJ cB cZ ad bd p2) ⟨⟨_, rfl⟩, by decide +kernel, Nat.le_of_ble_eq_true rfl, Nat.le_of_ble_eq_true rfl⟩ gX12_level_X12_in rfl hl.1 rfl (Nat.le_of_ble_eq_true rfl) dX12_level_7 ⟨Nat.le_of_ble_eq_true rfl, Nat.le_of_ble_eq_true rfl⟩ (fun r_2 u_2 H locs hp_2 h => ?_)
    rcases hp_2 with ⟨rfl, k_2_0, rfl⟩ | ⟨rfl, k_2_0, k_2_1, rfl⟩ | ⟨rfl, k_2_0, k_2_1, rfl⟩
    · skip
      have h : Hp D A s.heap (WM cI cJ cB cZ bd) H locs := h
      refine lv_if_ne (tgt := 15) hx hb dX12_level_10 (by decide) (fun c_3 => absurd c_3 (by decide)) (fun c_3 => ?_)
      refine lv_iconst (v := (-1)) hx hb dX12_level_13 (by decide) ?_
      exact x_iret (w1 := (fun _ => (WM cI cJ cB cZ bd))) 1 B h hr rfl (Or.inr (Or.inl ⟨rfl, c_1, k_2_0, rfl⟩)) dX12_level_14
    · skip
      have h : Hp D A s.heap (WM cI cJ cB cZ bd) H locs := h
      refine lv_if_ne (tgt := 15) hx hb dX12_level_10 (by decide) (fun c_4 => absurd c_4 (by decide)) (fun c_4 => ?_)
      refine lv_iconst (v := (-1)) hx hb dX12_level_13 (by decide) ?_
      exact x_iret (w1 := (fun _ => (WM cI cJ cB cZ bd))) 2 B h hr rfl (Or.inr (Or.inr (Or.inl ⟨rfl, c_1, k_2_0, k_2_1, rfl⟩))) dX12_level_14
    · skip
      have h : Hp D A s.heap (WM cI cJ cB cZ bd) H locs := h
      refine lv_if_ne (tgt := 15) hx hb dX12_level_10 (by decide) (fun c_5 => ?_) (fun c_5 => absurd c_5 (by decide))
      refine lv_aload_n hx hb dX12_level_15 rfl (lv_at hl 0 rfl) ?_
      refine x_cVVF (n := 0) (As := []) (rest := []) B h (k229_X12_laysHeights l D cI cJ cB cZ ad bd) ⟨⟨_, rfl⟩, by decide +kernel, Nat.le_of_ble_eq_true rfl, Nat.le_of_ble_eq_true rfl⟩ gX12_level_X12_laysHeights (show ((WM cI cJ cB cZ bd) : va_W)[0]? = some (_, .inr (12, _)) from rfl) rfl rfl hl.1 rfl (Nat.le_of_ble_eq_true rfl) dX12_level_16 ⟨Nat.le_of_ble_eq_true rfl, Nat.le_of_ble_eq_true rfl⟩ (fun u_6 H locs hp_6 h => ?_)
      have h : Hp D A s.heap (WM cI cJ cB cZ bd) H locs := h
      refine lv_iconst (v := 0) hx hb dX12_level_19 (by decide) ?_
      refine lv_istore_n (lv' := [(3, .int 0), (0, .ref (bd 0)), (1, .int p1), (2, .int p2)]) hx hb dX12_level_20 rfl hl (by decide) rfl (fun ls hl => ?_)
      refine lv_iconst (v := 0) hx hb dX12_level_21 (by decide) ?_
      refine lv_istore (lv' := [(4, .int 0), (3, .int 0), (0, .ref (bd 0)), (1, .int p1), (2, .int p2)]) hx hb dX12_level_22 hl (by decide) rfl (fun ls hl => ?_)
      refine lv_iload hx hb dX12_level_24 (lv_at hl 0 rfl) ?_
      refine lv_aload_n hx hb dX12_level_26 rfl (lv_at hl 2 rfl) ?_
      refine x_get (ci := 12) (C := RX12) (T := TX12) (N := 31) (v := .int 0) B h hin12 0 5 rfl rfl (by decide) (by decide +kernel) rfl dX12_level_27 ?_
      refine lv_icmp_ge (tgt := 76) hx hb dX12_level_30 (by decide) (fun c_7 => ?_) (fun c_7 => absurd c_7 (by decide))
      refine lv_iload_n hx hb dX12_level_76 rfl (lv_at hl 1 rfl) ?_
      exact x_iret (w1 := (fun _ => (WM cI cJ cB cZ bd))) 3 B h hr rfl (Or.inr (Or.inr (Or.inr (⟨rfl, c_1, k_2_0, k_2_1, rfl⟩)))) dX12_level_77
set_option maxHeartbeats 4000000 in
set_option maxRecDepth 100000 in
theorem k231_X9_withFaces (l : Launch) (D : va_G) (cI cJ cB cZ : ClassId) (ad bd : Nat → Nat) : MetL l yX9_withFaces wsX9_withFaces 0 0 0 0 D (TYS cI cJ cB cZ) (WX cI cJ cB cZ ad (Heights_height := fun _ => (-1)) (Heights_measuredAt := 0)) [.ref (ad 3), .long 0] (fun (r : Int64) (_ : Unit) => r = 0) (fun _ => (WX cI cJ cB cZ ad (Heights_height := fun _ => (-1)) (Heights_measuredAt := 0))) := by
  refine x_startL (ty := .long) (cc := cX9_withFaces) (by decide) rfl (Nat.le_of_ble_eq_true rfl) ?_
  intro p e s m args below meth c A ls B hr hnm h hl
  have hx := B.1.1
  have hb := B.1.2.1
  have hml := B.1.2.2.1
  have hts := B.1.2.2.2.2
  have hown : s.vm.findClass RX9 = some m.cls := B.1.2.2.2.1
  have hin9 : ∀ w ∈ u_ws RX9 TX9 7, w ∈ wsX9_withFaces := by decide +kernel
  have hl : lv_has ls 6 [(0, .ref (ad 3)), (1, .long 0)] := hl
  refine lv_lload_n hx hb dX9_withFaces_0 rfl (lv_at hl 1 rfl) ?_
  refine lv_lstore_n (lv' := [(3, .long 0), (0, .ref (ad 3)), (1, .long 0)]) hx hb dX9_withFaces_1 rfl hl (by decide) rfl (fun ls hl => ?_)
  refine lv_aload_n hx hb dX9_withFaces_2 rfl (lv_at hl 1 rfl) ?_
  refine x_get (ci := 9) (C := RX9) (T := TX9) (N := 7) (v := .int 0) B h hin9 3 0 rfl rfl (by decide) (by decide +kernel) rfl dX9_withFaces_3 ?_
  refine lv_iconst (v := 1) hx hb dX9_withFaces_6 (by decide) ?_
  refine lv_isub hx hb dX9_withFaces_7 ?_
  refine lv_topi (fun v_1 ev_1 => ?_)
  obtain rfl : v_1 = (-1) := ev_1.trans (by decide)
  refine lv_istore (lv' := [(5, .int (-1)), (3, .long 0), (0, .ref (ad 3)), (1, .long 0)]) hx hb dX9_withFaces_8 hl (by decide) rfl (fun ls hl => ?_)
  refine lv_iload hx hb dX9_withFaces_10 (lv_at hl 0 rfl) ?_
  refine lv_if_lt (tgt := 40) hx hb dX9_withFaces_12 (by decide) (fun c_2 => ?_) (fun c_2 => absurd c_2 (by decide))
  refine lv_lload_n hx hb dX9_withFaces_40 rfl (lv_at hl 1 rfl) ?_
  exact x_lret (w1 := (fun _ => (WX cI cJ cB cZ ad (Heights_height := fun _ => (-1)) (Heights_measuredAt := 0)))) () B h hr rfl dX9_withFaces_41
set_option maxHeartbeats 4000000 in
set_option maxRecDepth 100000 in
theorem k232_X0_rankOf (l : Launch) (D : va_G) (cI cJ cB cZ : ClassId) (ad bd : Nat → Nat) : MetI l yX0_rankOf wsX0_rankOf 0 0 0 0 D (TYS cI cJ cB cZ) (WX cI cJ cB cZ ad (Heights_height := fun _ => (-1)) (Heights_measuredAt := 0)) [.ref (ad 8), .long 0, .int 0, .int 0] (fun (r : Int32) (_ : Unit) => r = 0) (fun _ => (WX cI cJ cB cZ ad (Heights_height := fun _ => (-1)) (Heights_measuredAt := 0))) := by
  refine x_startI (ty := .int) (cc := cX0_rankOf) (by decide) rfl (Nat.le_of_ble_eq_true rfl) ?_
  intro p e s m args below meth c A ls B hr hnm h hl
  have hx := B.1.1
  have hb := B.1.2.1
  have hml := B.1.2.2.1
  have hts := B.1.2.2.2.2
  have hown : s.vm.findClass RX0 = some m.cls := B.1.2.2.2.1
  have hl : lv_has ls 5 [(0, .ref (ad 8)), (1, .long 0), (3, .int 0), (4, .int 0)] := hl
  refine lv_iload_n hx hb dX0_rankOf_0 rfl (lv_at hl 2 rfl) ?_
  refine lv_iconst (v := 1) hx hb dX0_rankOf_1 (by decide) ?_
  refine lv_icmp_lt (tgt := 10) hx hb dX0_rankOf_2 (by decide) (fun c_1 => ?_) (fun c_1 => absurd c_1 (by decide))
  refine lv_iconst (v := 0) hx hb dX0_rankOf_10 (by decide) ?_
  exact x_iret (w1 := (fun _ => (WX cI cJ cB cZ ad (Heights_height := fun _ => (-1)) (Heights_measuredAt := 0)))) () B h hr rfl rfl dX0_rankOf_11
set_option maxHeartbeats 4000000 in
set_option maxRecDepth 100000 in
theorem k233_X5_resize (l : Launch) (D : va_G) (cI cJ cB cZ : ClassId) (ad bd : Nat → Nat) : MetV l yX5_resize wsX5_resize 0 0 0 0 D (TYS cI cJ cB cZ) (WX cI cJ cB cZ ad (Heights_height := fun _ => (-1)) (Heights_measuredAt := 0)) [.ref (ad 11), .int 0, .int 0] (fun _ : Unit => True) (fun _ => (WX cI cJ cB cZ ad (Heights_height := fun _ => (-1)) (Heights_measuredAt := 0))) := by
  refine x_startV (ty := .int) (cc := cX5_resize) (by decide) rfl (Nat.le_of_ble_eq_true rfl) ?_
  intro p e s m args below meth c A ls B hr hnm h hl
  have hx := B.1.1
  have hb := B.1.2.1
  have hml := B.1.2.2.1
  have hts := B.1.2.2.2.2
  have hown : s.vm.findClass RX5 = some m.cls := B.1.2.2.2.1
  have hin5 : ∀ w ∈ u_ws RX5 TX5 6, w ∈ wsX5_resize := by decide +kernel
  have hl : lv_has ls 4 [(0, .ref (ad 11)), (1, .int 0), (2, .int 0)] := hl
  refine lv_iload_n hx hb dX5_resize_0 rfl (lv_at hl 1 rfl) ?_
  refine lv_if_lt (tgt := 33) hx hb dX5_resize_1 (by decide) (fun c_1 => absurd c_1 (by decide)) (fun c_1 => ?_)
  refine lv_iload_n hx hb dX5_resize_4 rfl (lv_at hl 2 rfl) ?_
  refine lv_if_lt (tgt := 33) hx hb dX5_resize_5 (by decide) (fun c_2 => absurd c_2 (by decide)) (fun c_2 => ?_)
  refine lv_iload_n hx hb dX5_resize_8 rfl (lv_at hl 1 rfl) ?_
  refine lv_bipush (v := 64) hx hb dX5_resize_9 (by decide) ?_
  refine lv_icmp_ge (tgt := 33) hx hb dX5_resize_11 (by decide) (fun c_3 => absurd c_3 (by decide)) (fun c_3 => ?_)
  refine lv_iload_n hx hb dX5_resize_14 rfl (lv_at hl 2 rfl) ?_
  refine lv_bipush (v := 64) hx hb dX5_resize_15 (by decide) ?_
  refine lv_icmp_ge (tgt := 33) hx hb dX5_resize_17 (by decide) (fun c_4 => absurd c_4 (by decide)) (fun c_4 => ?_)
  refine lv_iload_n hx hb dX5_resize_20 rfl (lv_at hl 1 rfl) ?_
  refine lv_iload_n hx hb dX5_resize_21 rfl (lv_at hl 2 rfl) ?_
  refine lv_imul hx hb dX5_resize_22 ?_
  refine lv_topi (fun v_5 ev_5 => ?_)
  obtain rfl : v_5 = 0 := ev_5.trans (by decide)
  refine lv_sipush (v := 900) hx hb dX5_resize_23 (by decide) ?_
  refine lv_icmp_gt (tgt := 33) hx hb dX5_resize_26 (by decide) (fun c_6 => absurd c_6 (by decide)) (fun c_6 => ?_)
  refine lv_iconst (v := 1) hx hb dX5_resize_29 (by decide) ?_
  refine lv_goto (tgt := 34) hx hb dX5_resize_30 (by decide) ?_
  refine lv_istore_n (lv' := [(3, .int 1), (0, .ref (ad 11)), (1, .int 0), (2, .int 0)]) hx hb dX5_resize_34 rfl hl (by decide) rfl (fun ls hl => ?_)
  refine lv_aload_n hx hb dX5_resize_35 rfl (lv_at hl 1 rfl) ?_
  refine lv_iload_n hx hb dX5_resize_36 rfl (lv_at hl 0 rfl) ?_
  refine lv_if_eq (tgt := 44) hx hb dX5_resize_37 (by decide) (fun c_7 => absurd c_7 (by decide)) (fun c_7 => ?_)
  refine lv_iload_n hx hb dX5_resize_40 rfl (lv_at hl 2 rfl) ?_
  refine lv_goto (tgt := 45) hx hb dX5_resize_41 (by decide) ?_
  refine x_put (ci := 5) (C := RX5) (T := TX5) (N := 6) (v := .int 0) (ty := .int) B h hin5 tyX5 tyX5_ok nmX5 11 3 rfl rfl (by decide) (by decide +kernel) rfl rfl rfl rfl (Nat.le_of_ble_eq_true rfl) dX5_resize_45 (fun H locs h => ?_)
  have h : Hp D A s.heap (WX cI cJ cB cZ ad (Heights_height := fun _ => (-1)) (Heights_measuredAt := 0)) H locs := h
  refine lv_aload_n hx hb dX5_resize_48 rfl (lv_at hl 1 rfl) ?_
  refine lv_iload_n hx hb dX5_resize_49 rfl (lv_at hl 0 rfl) ?_
  refine lv_if_eq (tgt := 57) hx hb dX5_resize_50 (by decide) (fun c_8 => absurd c_8 (by decide)) (fun c_8 => ?_)
  refine lv_iload_n hx hb dX5_resize_53 rfl (lv_at hl 3 rfl) ?_
  refine lv_goto (tgt := 58) hx hb dX5_resize_54 (by decide) ?_
  refine x_put (ci := 5) (C := RX5) (T := TX5) (N := 6) (v := .int 0) (ty := .int) B h hin5 tyX5 tyX5_ok nmX5 11 4 rfl rfl (by decide) (by decide +kernel) rfl rfl rfl rfl (Nat.le_of_ble_eq_true rfl) dX5_resize_58 (fun H locs h => ?_)
  have h : Hp D A s.heap (WX cI cJ cB cZ ad (Heights_height := fun _ => (-1)) (Heights_measuredAt := 0)) H locs := h
  exact x_vret (w1 := (fun _ => (WX cI cJ cB cZ ad (Heights_height := fun _ => (-1)) (Heights_measuredAt := 0)))) () B h hr trivial dX5_resize_61
set_option maxHeartbeats 4000000 in
set_option maxRecDepth 100000 in
theorem k234_X0_fill (l : Launch) (D : va_G) (cI cJ cB cZ : ClassId) (ad bd : Nat → Nat) : MetV l yX0_fill wsX0_fill 1 23 0 0 D (TYS cI cJ cB cZ) (WX cI cJ cB cZ ad (Heights_height := fun _ => (-1)) (Heights_measuredAt := 0)) [.ref (ad 8), .long 0, .long 0, .int 0] (fun _ : Unit => True) (fun _ => (WX cI cJ cB cZ ad (Heights_height := fun _ => (-1)) (Heights_measuredAt := 0))) := by
  refine x_startV (ty := .int) (cc := cX0_fill) (by decide) rfl (Nat.le_of_ble_eq_true rfl) ?_
  intro p e s m args below meth c A ls B hr hnm h hl
  have hx := B.1.1
  have hb := B.1.2.1
  have hml := B.1.2.2.1
  have hts := B.1.2.2.2.2
  have hown : s.vm.findClass RX0 = some m.cls := B.1.2.2.2.1
  have hin0 : ∀ w ∈ u_ws RX0 TX0 4, w ∈ wsX0_fill := by decide +kernel
  have hin9 : ∀ w ∈ u_ws RX9 TX9 7, w ∈ wsX0_fill := by decide +kernel
  have hl : lv_has ls 8 [(0, .ref (ad 8)), (1, .long 0), (3, .long 0), (5, .int 0)] := hl
  refine lv_aload_n hx hb dX0_fill_0 rfl (lv_at hl 0 rfl) ?_
  refine x_get (ci := 0) (C := RX0) (T := TX0) (N := 4) (v := .ref (ad 11)) B h hin0 8 2 rfl rfl (by decide) (by decide +kernel) rfl dX0_fill_1 ?_
  refine lv_lload_n hx hb dX0_fill_4 rfl (lv_at hl 1 rfl) ?_
  refine x_cSIE (n := 1) (As := [.long 0]) (rest := [.ref (ad 11)]) B h (k65_J13_bitCount_95d88 l D cI cJ cB cZ ad bd) ⟨⟨_, rfl⟩, by decide +kernel, Nat.le_of_ble_eq_true rfl, Nat.le_of_ble_eq_true rfl⟩ gX0_fill_J13_bitCount_95d88 rfl hl.1 rfl (Nat.le_of_ble_eq_true rfl) dX0_fill_5 ⟨Nat.le_of_ble_eq_true rfl, Nat.le_of_ble_eq_true rfl⟩ (fun r_1 u_1 H locs hp_1 h => ?_)
  obtain rfl := hp_1
  have h : Hp D A s.heap (WX cI cJ cB cZ ad (Heights_height := fun _ => (-1)) (Heights_measuredAt := 0)) H locs := h
  refine lv_lload_n hx hb dX0_fill_8 rfl (lv_at hl 2 rfl) ?_
  refine x_cSIE (n := 1) (As := [.long 0]) (rest := [.int 0, .ref (ad 11)]) B h (k65_J13_bitCount_95d88 l D cI cJ cB cZ ad bd) ⟨⟨_, rfl⟩, by decide +kernel, Nat.le_of_ble_eq_true rfl, Nat.le_of_ble_eq_true rfl⟩ gX0_fill_J13_bitCount_95d88 rfl hl.1 rfl (Nat.le_of_ble_eq_true rfl) dX0_fill_9 ⟨Nat.le_of_ble_eq_true rfl, Nat.le_of_ble_eq_true rfl⟩ (fun r_2 u_2 H locs hp_2 h => ?_)
  obtain rfl := hp_2
  have h : Hp D A s.heap (WX cI cJ cB cZ ad (Heights_height := fun _ => (-1)) (Heights_measuredAt := 0)) H locs := h
  refine x_cVVF (n := 2) (As := [.int 0, .int 0]) (rest := []) B h (k233_X5_resize l D cI cJ cB cZ ad bd) ⟨⟨_, rfl⟩, by decide +kernel, Nat.le_of_ble_eq_true rfl, Nat.le_of_ble_eq_true rfl⟩ gX0_fill_X5_resize (show ((WX cI cJ cB cZ ad (Heights_height := fun _ => (-1)) (Heights_measuredAt := 0)) : va_W)[11]? = some (_, .inr (5, _)) from rfl) rfl rfl hl.1 rfl (Nat.le_of_ble_eq_true rfl) dX0_fill_12 ⟨Nat.le_of_ble_eq_true rfl, Nat.le_of_ble_eq_true rfl⟩ (fun u_3 H locs hp_3 h => ?_)
  have h : Hp D A s.heap (WX cI cJ cB cZ ad (Heights_height := fun _ => (-1)) (Heights_measuredAt := 0)) H locs := h
  refine lv_iconst (v := 0) hx hb dX0_fill_15 (by decide) ?_
  refine lv_istore (lv' := [(6, .int 0), (0, .ref (ad 8)), (1, .long 0), (3, .long 0), (5, .int 0)]) hx hb dX0_fill_16 hl (by decide) rfl (fun ls hl => ?_)
  refine lv_iconst (v := 0) hx hb dX0_fill_18 (by decide) ?_
  refine lv_istore (lv' := [(7, .int 0), (6, .int 0), (0, .ref (ad 8)), (1, .long 0), (3, .long 0), (5, .int 0)]) hx hb dX0_fill_19 hl (by decide) rfl (fun ls hl => ?_)
  refine lv_iload hx hb dX0_fill_21 (lv_at hl 0 rfl) ?_
  refine lv_aload_n hx hb dX0_fill_23 rfl (lv_at hl 2 rfl) ?_
  refine x_get (ci := 0) (C := RX0) (T := TX0) (N := 4) (v := .ref (ad 3)) B h hin0 8 0 rfl rfl (by decide) (by decide +kernel) rfl dX0_fill_24 ?_
  refine x_get (ci := 9) (C := RX9) (T := TX9) (N := 7) (v := .int 0) B h hin9 3 0 rfl rfl (by decide) (by decide +kernel) rfl dX0_fill_27 ?_
  refine lv_icmp_ge (tgt := 94) hx hb dX0_fill_30 (by decide) (fun c_4 => ?_) (fun c_4 => absurd c_4 (by decide))
  exact x_vret (w1 := (fun _ => (WX cI cJ cB cZ ad (Heights_height := fun _ => (-1)) (Heights_measuredAt := 0)))) () B h hr trivial dX0_fill_94
set_option maxHeartbeats 4000000 in
set_option maxRecDepth 100000 in
theorem k235_X5_eliminate (l : Launch) (D : va_G) (cI cJ cB cZ : ClassId) (ad bd : Nat → Nat) : MetI l yX5_eliminate wsX5_eliminate 1 64 0 0 D (TYS cI cJ cB cZ) (WX cI cJ cB cZ ad (Heights_height := fun _ => (-1)) (Heights_measuredAt := 0)) [.ref (ad 11)] (fun (r : Int32) (_ : Unit) => r = 0) (fun _ => (WX cI cJ cB cZ ad (Heights_height := fun _ => (-1)) (Heights_measuredAt := 0) (Matrix_minor := 1))) := by
  refine x_startI (ty := .int) (cc := cX5_eliminate) (by decide) rfl (Nat.le_of_ble_eq_true rfl) ?_
  intro p e s m args below meth c A ls B hr hnm h hl
  have hx := B.1.1
  have hb := B.1.2.1
  have hml := B.1.2.2.1
  have hts := B.1.2.2.2.2
  have hown : s.vm.findClass RX5 = some m.cls := B.1.2.2.2.1
  have hin5 : ∀ w ∈ u_ws RX5 TX5 6, w ∈ wsX5_eliminate := by decide +kernel
  have hl : lv_has ls 6 [(0, .ref (ad 11))] := hl
  refine lv_aload_n hx hb dX5_eliminate_0 rfl (lv_at hl 0 rfl) ?_
  refine x_get (ci := 5) (C := RX5) (T := TX5) (N := 6) (v := .ref (ad 30)) B h hin5 11 0 rfl rfl (by decide) (by decide +kernel) rfl dX5_eliminate_1 ?_
  refine lv_iconst (v := 0) hx hb dX5_eliminate_4 (by decide) ?_
  refine lv_aload_n hx hb dX5_eliminate_5 rfl (lv_at hl 0 rfl) ?_
  refine x_get (ci := 5) (C := RX5) (T := TX5) (N := 6) (v := .ref (ad 31)) B h hin5 11 1 rfl rfl (by decide) (by decide +kernel) rfl dX5_eliminate_6 ?_
  refine lv_iconst (v := 0) hx hb dX5_eliminate_9 (by decide) ?_
  refine lv_aload_n hx hb dX5_eliminate_10 rfl (lv_at hl 0 rfl) ?_
  refine x_get (ci := 5) (C := RX5) (T := TX5) (N := 6) (v := .int 0) B h hin5 11 3 rfl rfl (by decide) (by decide +kernel) rfl dX5_eliminate_11 ?_
  refine lv_aload_n hx hb dX5_eliminate_14 rfl (lv_at hl 0 rfl) ?_
  refine x_get (ci := 5) (C := RX5) (T := TX5) (N := 6) (v := .int 0) B h hin5 11 4 rfl rfl (by decide) (by decide +kernel) rfl dX5_eliminate_15 ?_
  refine lv_imul hx hb dX5_eliminate_18 ?_
  refine lv_topi (fun v_1 ev_1 => ?_)
  obtain rfl : v_1 = 0 := ev_1.trans (by decide)
  refine va_copyl hx hb (hml.trans hl.1.symm) hown (hts (.methodLink RX5 28 arraycopyName) (by decide +kernel)) (hts (.native arraycopyName) (by decide +kernel)) (hts (.static arraycopyName) (by decide +kernel)) (hts (.initialized "java/lang/System") (by decide +kernel)) B.2.1 h.1 h.2.1 h.2.2.1 30 31 1 1 rfl rfl rfl rfl rfl (by decide) (by decide) (by decide) (by decide) (by decide) (fun i hi => absurd hi (Nat.not_lt_zero _)) (Nat.le_of_ble_eq_true rfl) (by decide) dX5_eliminate_19 (fun H locs hP hD hS => ?_)
  rw [cpy_zero] at hP hD
  have h : Hp D A s.heap (WX cI cJ cB cZ ad (Heights_height := fun _ => (-1)) (Heights_measuredAt := 0)) H locs := ⟨hP, hD, hS, h.2.2.2⟩
  refine lv_iconst (v := 0) hx hb dX5_eliminate_22 (by decide) ?_
  refine lv_istore_n (lv' := [(1, .int 0), (0, .ref (ad 11))]) hx hb dX5_eliminate_23 rfl hl (by decide) rfl (fun ls hl => ?_)
  refine lv_lconst (v := 1) hx hb dX5_eliminate_24 (by decide) ?_
  refine lv_lstore_n (lv' := [(2, .long 1), (1, .int 0), (0, .ref (ad 11))]) hx hb dX5_eliminate_25 rfl hl (by decide) rfl (fun ls hl => ?_)
  refine lv_iconst (v := 0) hx hb dX5_eliminate_26 (by decide) ?_
  refine lv_istore (lv' := [(4, .int 0), (2, .long 1), (1, .int 0), (0, .ref (ad 11))]) hx hb dX5_eliminate_27 hl (by decide) rfl (fun ls hl => ?_)
  refine lv_iload hx hb dX5_eliminate_29 (lv_at hl 0 rfl) ?_
  refine lv_aload_n hx hb dX5_eliminate_31 rfl (lv_at hl 3 rfl) ?_
  refine x_get (ci := 5) (C := RX5) (T := TX5) (N := 6) (v := .int 0) B h hin5 11 4 rfl rfl (by decide) (by decide +kernel) rfl dX5_eliminate_32 ?_
  refine lv_icmp_ge (tgt := 111) hx hb dX5_eliminate_35 (by decide) (fun c_3 => ?_) (fun c_3 => absurd c_3 (by decide))
  refine lv_aload_n hx hb dX5_eliminate_111 rfl (lv_at hl 3 rfl) ?_
  refine lv_lload_n hx hb dX5_eliminate_112 rfl (lv_at hl 1 rfl) ?_
  refine x_put (ci := 5) (C := RX5) (T := TX5) (N := 6) (v := .long 1) (ty := .long) B h hin5 tyX5 tyX5_ok nmX5 11 5 rfl rfl (by decide) (by decide +kernel) rfl rfl rfl rfl (Nat.le_of_ble_eq_true rfl) dX5_eliminate_113 (fun H locs h => ?_)
  have h : Hp D A s.heap (WX cI cJ cB cZ ad (Heights_height := fun _ => (-1)) (Heights_measuredAt := 0) (Matrix_minor := 1)) H locs := h
  refine lv_iload_n hx hb dX5_eliminate_116 rfl (lv_at hl 2 rfl) ?_
  exact x_iret (w1 := (fun _ => (WX cI cJ cB cZ ad (Heights_height := fun _ => (-1)) (Heights_measuredAt := 0) (Matrix_minor := 1)))) () B h hr rfl rfl dX5_eliminate_117
set_option maxHeartbeats 4000000 in
set_option maxRecDepth 100000 in
theorem k236_X0_rankOf (l : Launch) (D : va_G) (cI cJ cB cZ : ClassId) (ad bd : Nat → Nat) : MetI l yX0_rankOf wsX0_rankOf 2 89 0 0 D (TYS cI cJ cB cZ) (WX cI cJ cB cZ ad (Heights_height := fun _ => (-1)) (Heights_measuredAt := 0)) [.ref (ad 8), .long 0, .int 1, .int 0] (fun (r : Int32) (_ : Unit) => r = 0) (fun _ => (WX cI cJ cB cZ ad (Heights_height := fun _ => (-1)) (Heights_measuredAt := 0) (Matrix_minor := 1))) := by
  refine x_startI (ty := .int) (cc := cX0_rankOf) (by decide) rfl (Nat.le_of_ble_eq_true rfl) ?_
  intro p e s m args below meth c A ls B hr hnm h hl
  have hx := B.1.1
  have hb := B.1.2.1
  have hml := B.1.2.2.1
  have hts := B.1.2.2.2.2
  have hown : s.vm.findClass RX0 = some m.cls := B.1.2.2.2.1
  have hin0 : ∀ w ∈ u_ws RX0 TX0 4, w ∈ wsX0_rankOf := by decide +kernel
  have hin9 : ∀ w ∈ u_ws RX9 TX9 7, w ∈ wsX0_rankOf := by decide +kernel
  have hl : lv_has ls 5 [(0, .ref (ad 8)), (1, .long 0), (3, .int 1), (4, .int 0)] := hl
  refine lv_iload_n hx hb dX0_rankOf_0 rfl (lv_at hl 2 rfl) ?_
  refine lv_iconst (v := 1) hx hb dX0_rankOf_1 (by decide) ?_
  refine lv_icmp_lt (tgt := 10) hx hb dX0_rankOf_2 (by decide) (fun c_1 => absurd c_1 (by decide)) (fun c_1 => ?_)
  refine lv_iload_n hx hb dX0_rankOf_5 rfl (lv_at hl 2 rfl) ?_
  refine lv_iconst (v := 5) hx hb dX0_rankOf_6 (by decide) ?_
  refine lv_icmp_lt (tgt := 12) hx hb dX0_rankOf_7 (by decide) (fun c_2 => ?_) (fun c_2 => absurd c_2 (by decide))
  refine lv_aload_n hx hb dX0_rankOf_12 rfl (lv_at hl 0 rfl) ?_
  refine lv_lload_n hx hb dX0_rankOf_13 rfl (lv_at hl 1 rfl) ?_
  refine lv_aload_n hx hb dX0_rankOf_14 rfl (lv_at hl 0 rfl) ?_
  refine x_get (ci := 0) (C := RX0) (T := TX0) (N := 4) (v := .ref (ad 3)) B h hin0 8 0 rfl rfl (by decide) (by decide +kernel) rfl dX0_rankOf_15 ?_
  refine x_get (ci := 9) (C := RX9) (T := TX9) (N := 7) (v := .ref (ad 19)) B h hin9 3 6 rfl rfl (by decide) (by decide +kernel) rfl dX0_rankOf_18 ?_
  refine lv_iload_n hx hb dX0_rankOf_21 rfl (lv_at hl 2 rfl) ?_
  refine va_lald hx hb B.2.1 h.1 19 1 rfl rfl (vp_in_iff.mpr (by decide)) dX0_rankOf_22 ?_
  refine lv_topl (fun v_3 ev_3 => ?_)
  obtain rfl : v_3 = 0 := ev_3
  refine lv_land hx hb dX0_rankOf_23 ?_
  refine lv_topl (fun v_4 ev_4 => ?_)
  obtain rfl : v_4 = 0 := ev_4.trans (by decide)
  refine lv_lload_n hx hb dX0_rankOf_24 rfl (lv_at hl 1 rfl) ?_
  refine lv_aload_n hx hb dX0_rankOf_25 rfl (lv_at hl 0 rfl) ?_
  refine x_get (ci := 0) (C := RX0) (T := TX0) (N := 4) (v := .ref (ad 3)) B h hin0 8 0 rfl rfl (by decide) (by decide +kernel) rfl dX0_rankOf_26 ?_
  refine x_get (ci := 9) (C := RX9) (T := TX9) (N := 7) (v := .ref (ad 19)) B h hin9 3 6 rfl rfl (by decide) (by decide +kernel) rfl dX0_rankOf_29 ?_
  refine lv_iload_n hx hb dX0_rankOf_32 rfl (lv_at hl 2 rfl) ?_
  refine lv_iconst (v := 1) hx hb dX0_rankOf_33 (by decide) ?_
  refine lv_isub hx hb dX0_rankOf_34 ?_
  refine lv_topi (fun v_5 ev_5 => ?_)
  obtain rfl : v_5 = 0 := ev_5.trans (by decide)
  refine va_lald hx hb B.2.1 h.1 19 1 rfl rfl (vp_in_iff.mpr (by decide)) dX0_rankOf_35 ?_
  refine lv_topl (fun v_6 ev_6 => ?_)
  obtain rfl : v_6 = 0 := ev_6
  refine lv_land hx hb dX0_rankOf_36 ?_
  refine lv_topl (fun v_7 ev_7 => ?_)
  obtain rfl : v_7 = 0 := ev_7.trans (by decide)
  refine lv_iload hx hb dX0_rankOf_37 (lv_at hl 3 rfl) ?_
  refine x_cVVF (n := 3) (As := [.long 0, .long 0, .int 0]) (rest := []) B h (k234_X0_fill l D cI cJ cB cZ ad bd) ⟨⟨_, rfl⟩, by decide +kernel, Nat.le_of_ble_eq_true rfl, Nat.le_of_ble_eq_true rfl⟩ gX0_rankOf_X0_fill (show ((WX cI cJ cB cZ ad (Heights_height := fun _ => (-1)) (Heights_measuredAt := 0)) : va_W)[8]? = some (_, .inr (0, _)) from rfl) rfl rfl hl.1 rfl (Nat.le_of_ble_eq_true rfl) dX0_rankOf_39 ⟨Nat.le_of_ble_eq_true rfl, Nat.le_of_ble_eq_true rfl⟩ (fun u_8 H locs hp_8 h => ?_)
  have h : Hp D A s.heap (WX cI cJ cB cZ ad (Heights_height := fun _ => (-1)) (Heights_measuredAt := 0)) H locs := h
  refine lv_aload_n hx hb dX0_rankOf_42 rfl (lv_at hl 0 rfl) ?_
  refine x_get (ci := 0) (C := RX0) (T := TX0) (N := 4) (v := .ref (ad 11)) B h hin0 8 2 rfl rfl (by decide) (by decide +kernel) rfl dX0_rankOf_43 ?_
  refine x_cVIF (n := 0) (As := []) (rest := []) B h (k235_X5_eliminate l D cI cJ cB cZ ad bd) ⟨⟨_, rfl⟩, by decide +kernel, Nat.le_of_ble_eq_true rfl, Nat.le_of_ble_eq_true rfl⟩ gX0_rankOf_X5_eliminate (show ((WX cI cJ cB cZ ad (Heights_height := fun _ => (-1)) (Heights_measuredAt := 0)) : va_W)[11]? = some (_, .inr (5, _)) from rfl) rfl rfl hl.1 rfl (Nat.le_of_ble_eq_true rfl) dX0_rankOf_46 ⟨Nat.le_of_ble_eq_true rfl, Nat.le_of_ble_eq_true rfl⟩ (fun r_9 u_9 H locs hp_9 h => ?_)
  obtain rfl := hp_9
  have h : Hp D A s.heap (WX cI cJ cB cZ ad (Heights_height := fun _ => (-1)) (Heights_measuredAt := 0) (Matrix_minor := 1)) H locs := h
  exact x_iret (w1 := (fun _ => (WX cI cJ cB cZ ad (Heights_height := fun _ => (-1)) (Heights_measuredAt := 0) (Matrix_minor := 1)))) () B h hr rfl rfl dX0_rankOf_49
set_option maxHeartbeats 4000000 in
set_option maxRecDepth 100000 in
theorem k237_X0_bettiOf (l : Launch) (D : va_G) (cI cJ cB cZ : ClassId) (ad bd : Nat → Nat) : MetI l yX0_bettiOf wsX0_bettiOf 3 113 0 0 D (TYS cI cJ cB cZ) (WX cI cJ cB cZ ad (Heights_height := fun _ => (-1)) (Heights_measuredAt := 0)) [.ref (ad 8), .long 0, .int 0, .int 0] (fun (r : Int32) (_ : Unit) => r = 0) (fun _ => (WX cI cJ cB cZ ad (Heights_height := fun _ => (-1)) (Heights_measuredAt := 0) (Matrix_minor := 1))) := by
  refine x_startI (ty := .int) (cc := cX0_bettiOf) (by decide) rfl (Nat.le_of_ble_eq_true rfl) ?_
  intro p e s m args below meth c A ls B hr hnm h hl
  have hx := B.1.1
  have hb := B.1.2.1
  have hml := B.1.2.2.1
  have hts := B.1.2.2.2.2
  have hown : s.vm.findClass RX0 = some m.cls := B.1.2.2.2.1
  have hin0 : ∀ w ∈ u_ws RX0 TX0 4, w ∈ wsX0_bettiOf := by decide +kernel
  have hin9 : ∀ w ∈ u_ws RX9 TX9 7, w ∈ wsX0_bettiOf := by decide +kernel
  have hl : lv_has ls 6 [(0, .ref (ad 8)), (1, .long 0), (3, .int 0), (4, .int 0)] := hl
  refine lv_lload_n hx hb dX0_bettiOf_0 rfl (lv_at hl 1 rfl) ?_
  refine lv_aload_n hx hb dX0_bettiOf_1 rfl (lv_at hl 0 rfl) ?_
  refine x_get (ci := 0) (C := RX0) (T := TX0) (N := 4) (v := .ref (ad 3)) B h hin0 8 0 rfl rfl (by decide) (by decide +kernel) rfl dX0_bettiOf_2 ?_
  refine x_get (ci := 9) (C := RX9) (T := TX9) (N := 7) (v := .ref (ad 19)) B h hin9 3 6 rfl rfl (by decide) (by decide +kernel) rfl dX0_bettiOf_5 ?_
  refine lv_iload_n hx hb dX0_bettiOf_8 rfl (lv_at hl 2 rfl) ?_
  refine va_lald hx hb B.2.1 h.1 19 1 rfl rfl (vp_in_iff.mpr (by decide)) dX0_bettiOf_9 ?_
  refine lv_topl (fun v_1 ev_1 => ?_)
  obtain rfl : v_1 = 0 := ev_1
  refine lv_land hx hb dX0_bettiOf_10 ?_
  refine lv_topl (fun v_2 ev_2 => ?_)
  obtain rfl : v_2 = 0 := ev_2.trans (by decide)
  refine x_cSIE (n := 1) (As := [.long 0]) (rest := []) B h (k65_J13_bitCount_95d88 l D cI cJ cB cZ ad bd) ⟨⟨_, rfl⟩, by decide +kernel, Nat.le_of_ble_eq_true rfl, Nat.le_of_ble_eq_true rfl⟩ gX0_bettiOf_J13_bitCount_95d88 rfl hl.1 rfl (Nat.le_of_ble_eq_true rfl) dX0_bettiOf_11 ⟨Nat.le_of_ble_eq_true rfl, Nat.le_of_ble_eq_true rfl⟩ (fun r_3 u_3 H locs hp_3 h => ?_)
  obtain rfl := hp_3
  have h : Hp D A s.heap (WX cI cJ cB cZ ad (Heights_height := fun _ => (-1)) (Heights_measuredAt := 0)) H locs := h
  refine lv_istore (lv' := [(5, .int 0), (0, .ref (ad 8)), (1, .long 0), (3, .int 0), (4, .int 0)]) hx hb dX0_bettiOf_14 hl (by decide) rfl (fun ls hl => ?_)
  refine lv_iload hx hb dX0_bettiOf_16 (lv_at hl 0 rfl) ?_
  refine lv_aload_n hx hb dX0_bettiOf_18 rfl (lv_at hl 1 rfl) ?_
  refine lv_lload_n hx hb dX0_bettiOf_19 rfl (lv_at hl 2 rfl) ?_
  refine lv_iload_n hx hb dX0_bettiOf_20 rfl (lv_at hl 3 rfl) ?_
  refine lv_iload hx hb dX0_bettiOf_21 (lv_at hl 4 rfl) ?_
  refine x_cVIF (n := 3) (As := [.long 0, .int 0, .int 0]) (rest := [.int 0]) B h (k232_X0_rankOf l D cI cJ cB cZ ad bd) ⟨⟨_, rfl⟩, by decide +kernel, Nat.le_of_ble_eq_true rfl, Nat.le_of_ble_eq_true rfl⟩ gX0_bettiOf_X0_rankOf (show ((WX cI cJ cB cZ ad (Heights_height := fun _ => (-1)) (Heights_measuredAt := 0)) : va_W)[8]? = some (_, .inr (0, _)) from rfl) rfl rfl hl.1 rfl (Nat.le_of_ble_eq_true rfl) dX0_bettiOf_23 ⟨Nat.le_of_ble_eq_true rfl, Nat.le_of_ble_eq_true rfl⟩ (fun r_4 u_4 H locs hp_4 h => ?_)
  obtain rfl := hp_4
  have h : Hp D A s.heap (WX cI cJ cB cZ ad (Heights_height := fun _ => (-1)) (Heights_measuredAt := 0)) H locs := h
  refine lv_isub hx hb dX0_bettiOf_26 ?_
  refine lv_topi (fun v_5 ev_5 => ?_)
  obtain rfl : v_5 = 0 := ev_5.trans (by decide)
  refine lv_aload_n hx hb dX0_bettiOf_27 rfl (lv_at hl 1 rfl) ?_
  refine lv_lload_n hx hb dX0_bettiOf_28 rfl (lv_at hl 2 rfl) ?_
  refine lv_iload_n hx hb dX0_bettiOf_29 rfl (lv_at hl 3 rfl) ?_
  refine lv_iconst (v := 1) hx hb dX0_bettiOf_30 (by decide) ?_
  refine lv_iadd hx hb dX0_bettiOf_31 ?_
  refine lv_topi (fun v_6 ev_6 => ?_)
  obtain rfl : v_6 = 1 := ev_6.trans (by decide)
  refine lv_iload hx hb dX0_bettiOf_32 (lv_at hl 4 rfl) ?_
  refine x_cVIF (n := 3) (As := [.long 0, .int 1, .int 0]) (rest := [.int 0]) B h (k236_X0_rankOf l D cI cJ cB cZ ad bd) ⟨⟨_, rfl⟩, by decide +kernel, Nat.le_of_ble_eq_true rfl, Nat.le_of_ble_eq_true rfl⟩ gX0_bettiOf_X0_rankOf (show ((WX cI cJ cB cZ ad (Heights_height := fun _ => (-1)) (Heights_measuredAt := 0)) : va_W)[8]? = some (_, .inr (0, _)) from rfl) rfl rfl hl.1 rfl (Nat.le_of_ble_eq_true rfl) dX0_bettiOf_34 ⟨Nat.le_of_ble_eq_true rfl, Nat.le_of_ble_eq_true rfl⟩ (fun r_7 u_7 H locs hp_7 h => ?_)
  obtain rfl := hp_7
  have h : Hp D A s.heap (WX cI cJ cB cZ ad (Heights_height := fun _ => (-1)) (Heights_measuredAt := 0) (Matrix_minor := 1)) H locs := h
  refine lv_isub hx hb dX0_bettiOf_37 ?_
  refine lv_topi (fun v_8 ev_8 => ?_)
  obtain rfl : v_8 = 0 := ev_8.trans (by decide)
  exact x_iret (w1 := (fun _ => (WX cI cJ cB cZ ad (Heights_height := fun _ => (-1)) (Heights_measuredAt := 0) (Matrix_minor := 1)))) () B h hr rfl rfl dX0_bettiOf_38
set_option maxHeartbeats 4000000 in
set_option maxRecDepth 100000 in
theorem k238_X5_resize (l : Launch) (D : va_G) (cI cJ cB cZ : ClassId) (ad bd : Nat → Nat) : MetV l yX5_resize wsX5_resize 0 0 0 0 D (TYS cI cJ cB cZ) (WX cI cJ cB cZ ad (Heights_height := fun _ => (-1)) (Heights_measuredAt := 0) (Matrix_minor := 1)) [.ref (ad 11), .int 0, .int 0] (fun _ : Unit => True) (fun _ => (WX cI cJ cB cZ ad (Heights_height := fun _ => (-1)) (Heights_measuredAt := 0) (Matrix_minor := 1))) := by
  refine x_startV (ty := .int) (cc := cX5_resize) (by decide) rfl (Nat.le_of_ble_eq_true rfl) ?_
  intro p e s m args below meth c A ls B hr hnm h hl
  have hx := B.1.1
  have hb := B.1.2.1
  have hml := B.1.2.2.1
  have hts := B.1.2.2.2.2
  have hown : s.vm.findClass RX5 = some m.cls := B.1.2.2.2.1
  have hin5 : ∀ w ∈ u_ws RX5 TX5 6, w ∈ wsX5_resize := by decide +kernel
  have hl : lv_has ls 4 [(0, .ref (ad 11)), (1, .int 0), (2, .int 0)] := hl
  refine lv_iload_n hx hb dX5_resize_0 rfl (lv_at hl 1 rfl) ?_
  refine lv_if_lt (tgt := 33) hx hb dX5_resize_1 (by decide) (fun c_1 => absurd c_1 (by decide)) (fun c_1 => ?_)
  refine lv_iload_n hx hb dX5_resize_4 rfl (lv_at hl 2 rfl) ?_
  refine lv_if_lt (tgt := 33) hx hb dX5_resize_5 (by decide) (fun c_2 => absurd c_2 (by decide)) (fun c_2 => ?_)
  refine lv_iload_n hx hb dX5_resize_8 rfl (lv_at hl 1 rfl) ?_
  refine lv_bipush (v := 64) hx hb dX5_resize_9 (by decide) ?_
  refine lv_icmp_ge (tgt := 33) hx hb dX5_resize_11 (by decide) (fun c_3 => absurd c_3 (by decide)) (fun c_3 => ?_)
  refine lv_iload_n hx hb dX5_resize_14 rfl (lv_at hl 2 rfl) ?_
  refine lv_bipush (v := 64) hx hb dX5_resize_15 (by decide) ?_
  refine lv_icmp_ge (tgt := 33) hx hb dX5_resize_17 (by decide) (fun c_4 => absurd c_4 (by decide)) (fun c_4 => ?_)
  refine lv_iload_n hx hb dX5_resize_20 rfl (lv_at hl 1 rfl) ?_
  refine lv_iload_n hx hb dX5_resize_21 rfl (lv_at hl 2 rfl) ?_
  refine lv_imul hx hb dX5_resize_22 ?_
  refine lv_topi (fun v_5 ev_5 => ?_)
  obtain rfl : v_5 = 0 := ev_5.trans (by decide)
  refine lv_sipush (v := 900) hx hb dX5_resize_23 (by decide) ?_
  refine lv_icmp_gt (tgt := 33) hx hb dX5_resize_26 (by decide) (fun c_6 => absurd c_6 (by decide)) (fun c_6 => ?_)
  refine lv_iconst (v := 1) hx hb dX5_resize_29 (by decide) ?_
  refine lv_goto (tgt := 34) hx hb dX5_resize_30 (by decide) ?_
  refine lv_istore_n (lv' := [(3, .int 1), (0, .ref (ad 11)), (1, .int 0), (2, .int 0)]) hx hb dX5_resize_34 rfl hl (by decide) rfl (fun ls hl => ?_)
  refine lv_aload_n hx hb dX5_resize_35 rfl (lv_at hl 1 rfl) ?_
  refine lv_iload_n hx hb dX5_resize_36 rfl (lv_at hl 0 rfl) ?_
  refine lv_if_eq (tgt := 44) hx hb dX5_resize_37 (by decide) (fun c_7 => absurd c_7 (by decide)) (fun c_7 => ?_)
  refine lv_iload_n hx hb dX5_resize_40 rfl (lv_at hl 2 rfl) ?_
  refine lv_goto (tgt := 45) hx hb dX5_resize_41 (by decide) ?_
  refine x_put (ci := 5) (C := RX5) (T := TX5) (N := 6) (v := .int 0) (ty := .int) B h hin5 tyX5 tyX5_ok nmX5 11 3 rfl rfl (by decide) (by decide +kernel) rfl rfl rfl rfl (Nat.le_of_ble_eq_true rfl) dX5_resize_45 (fun H locs h => ?_)
  have h : Hp D A s.heap (WX cI cJ cB cZ ad (Heights_height := fun _ => (-1)) (Heights_measuredAt := 0) (Matrix_minor := 1)) H locs := h
  refine lv_aload_n hx hb dX5_resize_48 rfl (lv_at hl 1 rfl) ?_
  refine lv_iload_n hx hb dX5_resize_49 rfl (lv_at hl 0 rfl) ?_
  refine lv_if_eq (tgt := 57) hx hb dX5_resize_50 (by decide) (fun c_8 => absurd c_8 (by decide)) (fun c_8 => ?_)
  refine lv_iload_n hx hb dX5_resize_53 rfl (lv_at hl 3 rfl) ?_
  refine lv_goto (tgt := 58) hx hb dX5_resize_54 (by decide) ?_
  refine x_put (ci := 5) (C := RX5) (T := TX5) (N := 6) (v := .int 0) (ty := .int) B h hin5 tyX5 tyX5_ok nmX5 11 4 rfl rfl (by decide) (by decide +kernel) rfl rfl rfl rfl (Nat.le_of_ble_eq_true rfl) dX5_resize_58 (fun H locs h => ?_)
  have h : Hp D A s.heap (WX cI cJ cB cZ ad (Heights_height := fun _ => (-1)) (Heights_measuredAt := 0) (Matrix_minor := 1)) H locs := h
  exact x_vret (w1 := (fun _ => (WX cI cJ cB cZ ad (Heights_height := fun _ => (-1)) (Heights_measuredAt := 0) (Matrix_minor := 1)))) () B h hr trivial dX5_resize_61
set_option maxHeartbeats 4000000 in
set_option maxRecDepth 100000 in
theorem k239_X0_fill (l : Launch) (D : va_G) (cI cJ cB cZ : ClassId) (ad bd : Nat → Nat) : MetV l yX0_fill wsX0_fill 1 23 0 0 D (TYS cI cJ cB cZ) (WX cI cJ cB cZ ad (Heights_height := fun _ => (-1)) (Heights_measuredAt := 0) (Matrix_minor := 1)) [.ref (ad 8), .long 0, .long 0, .int 0] (fun _ : Unit => True) (fun _ => (WX cI cJ cB cZ ad (Heights_height := fun _ => (-1)) (Heights_measuredAt := 0) (Matrix_minor := 1))) := by
  refine x_startV (ty := .int) (cc := cX0_fill) (by decide) rfl (Nat.le_of_ble_eq_true rfl) ?_
  intro p e s m args below meth c A ls B hr hnm h hl
  have hx := B.1.1
  have hb := B.1.2.1
  have hml := B.1.2.2.1
  have hts := B.1.2.2.2.2
  have hown : s.vm.findClass RX0 = some m.cls := B.1.2.2.2.1
  have hin0 : ∀ w ∈ u_ws RX0 TX0 4, w ∈ wsX0_fill := by decide +kernel
  have hin9 : ∀ w ∈ u_ws RX9 TX9 7, w ∈ wsX0_fill := by decide +kernel
  have hl : lv_has ls 8 [(0, .ref (ad 8)), (1, .long 0), (3, .long 0), (5, .int 0)] := hl
  refine lv_aload_n hx hb dX0_fill_0 rfl (lv_at hl 0 rfl) ?_
  refine x_get (ci := 0) (C := RX0) (T := TX0) (N := 4) (v := .ref (ad 11)) B h hin0 8 2 rfl rfl (by decide) (by decide +kernel) rfl dX0_fill_1 ?_
  refine lv_lload_n hx hb dX0_fill_4 rfl (lv_at hl 1 rfl) ?_
  refine x_cSIE (n := 1) (As := [.long 0]) (rest := [.ref (ad 11)]) B h (k65_J13_bitCount_95d88 l D cI cJ cB cZ ad bd) ⟨⟨_, rfl⟩, by decide +kernel, Nat.le_of_ble_eq_true rfl, Nat.le_of_ble_eq_true rfl⟩ gX0_fill_J13_bitCount_95d88 rfl hl.1 rfl (Nat.le_of_ble_eq_true rfl) dX0_fill_5 ⟨Nat.le_of_ble_eq_true rfl, Nat.le_of_ble_eq_true rfl⟩ (fun r_1 u_1 H locs hp_1 h => ?_)
  obtain rfl := hp_1
  have h : Hp D A s.heap (WX cI cJ cB cZ ad (Heights_height := fun _ => (-1)) (Heights_measuredAt := 0) (Matrix_minor := 1)) H locs := h
  refine lv_lload_n hx hb dX0_fill_8 rfl (lv_at hl 2 rfl) ?_
  refine x_cSIE (n := 1) (As := [.long 0]) (rest := [.int 0, .ref (ad 11)]) B h (k65_J13_bitCount_95d88 l D cI cJ cB cZ ad bd) ⟨⟨_, rfl⟩, by decide +kernel, Nat.le_of_ble_eq_true rfl, Nat.le_of_ble_eq_true rfl⟩ gX0_fill_J13_bitCount_95d88 rfl hl.1 rfl (Nat.le_of_ble_eq_true rfl) dX0_fill_9 ⟨Nat.le_of_ble_eq_true rfl, Nat.le_of_ble_eq_true rfl⟩ (fun r_2 u_2 H locs hp_2 h => ?_)
  obtain rfl := hp_2
  have h : Hp D A s.heap (WX cI cJ cB cZ ad (Heights_height := fun _ => (-1)) (Heights_measuredAt := 0) (Matrix_minor := 1)) H locs := h
  refine x_cVVF (n := 2) (As := [.int 0, .int 0]) (rest := []) B h (k238_X5_resize l D cI cJ cB cZ ad bd) ⟨⟨_, rfl⟩, by decide +kernel, Nat.le_of_ble_eq_true rfl, Nat.le_of_ble_eq_true rfl⟩ gX0_fill_X5_resize (show ((WX cI cJ cB cZ ad (Heights_height := fun _ => (-1)) (Heights_measuredAt := 0) (Matrix_minor := 1)) : va_W)[11]? = some (_, .inr (5, _)) from rfl) rfl rfl hl.1 rfl (Nat.le_of_ble_eq_true rfl) dX0_fill_12 ⟨Nat.le_of_ble_eq_true rfl, Nat.le_of_ble_eq_true rfl⟩ (fun u_3 H locs hp_3 h => ?_)
  have h : Hp D A s.heap (WX cI cJ cB cZ ad (Heights_height := fun _ => (-1)) (Heights_measuredAt := 0) (Matrix_minor := 1)) H locs := h
  refine lv_iconst (v := 0) hx hb dX0_fill_15 (by decide) ?_
  refine lv_istore (lv' := [(6, .int 0), (0, .ref (ad 8)), (1, .long 0), (3, .long 0), (5, .int 0)]) hx hb dX0_fill_16 hl (by decide) rfl (fun ls hl => ?_)
  refine lv_iconst (v := 0) hx hb dX0_fill_18 (by decide) ?_
  refine lv_istore (lv' := [(7, .int 0), (6, .int 0), (0, .ref (ad 8)), (1, .long 0), (3, .long 0), (5, .int 0)]) hx hb dX0_fill_19 hl (by decide) rfl (fun ls hl => ?_)
  refine lv_iload hx hb dX0_fill_21 (lv_at hl 0 rfl) ?_
  refine lv_aload_n hx hb dX0_fill_23 rfl (lv_at hl 2 rfl) ?_
  refine x_get (ci := 0) (C := RX0) (T := TX0) (N := 4) (v := .ref (ad 3)) B h hin0 8 0 rfl rfl (by decide) (by decide +kernel) rfl dX0_fill_24 ?_
  refine x_get (ci := 9) (C := RX9) (T := TX9) (N := 7) (v := .int 0) B h hin9 3 0 rfl rfl (by decide) (by decide +kernel) rfl dX0_fill_27 ?_
  refine lv_icmp_ge (tgt := 94) hx hb dX0_fill_30 (by decide) (fun c_4 => ?_) (fun c_4 => absurd c_4 (by decide))
  exact x_vret (w1 := (fun _ => (WX cI cJ cB cZ ad (Heights_height := fun _ => (-1)) (Heights_measuredAt := 0) (Matrix_minor := 1)))) () B h hr trivial dX0_fill_94
set_option maxHeartbeats 4000000 in
set_option maxRecDepth 100000 in
theorem k240_X5_eliminate (l : Launch) (D : va_G) (cI cJ cB cZ : ClassId) (ad bd : Nat → Nat) : MetI l yX5_eliminate wsX5_eliminate 1 64 0 0 D (TYS cI cJ cB cZ) (WX cI cJ cB cZ ad (Heights_height := fun _ => (-1)) (Heights_measuredAt := 0) (Matrix_minor := 1)) [.ref (ad 11)] (fun (r : Int32) (_ : Unit) => r = 0) (fun _ => (WX cI cJ cB cZ ad (Heights_height := fun _ => (-1)) (Heights_measuredAt := 0) (Matrix_minor := 1))) := by
  refine x_startI (ty := .int) (cc := cX5_eliminate) (by decide) rfl (Nat.le_of_ble_eq_true rfl) ?_
  intro p e s m args below meth c A ls B hr hnm h hl
  have hx := B.1.1
  have hb := B.1.2.1
  have hml := B.1.2.2.1
  have hts := B.1.2.2.2.2
  have hown : s.vm.findClass RX5 = some m.cls := B.1.2.2.2.1
  have hin5 : ∀ w ∈ u_ws RX5 TX5 6, w ∈ wsX5_eliminate := by decide +kernel
  have hl : lv_has ls 6 [(0, .ref (ad 11))] := hl
  refine lv_aload_n hx hb dX5_eliminate_0 rfl (lv_at hl 0 rfl) ?_
  refine x_get (ci := 5) (C := RX5) (T := TX5) (N := 6) (v := .ref (ad 30)) B h hin5 11 0 rfl rfl (by decide) (by decide +kernel) rfl dX5_eliminate_1 ?_
  refine lv_iconst (v := 0) hx hb dX5_eliminate_4 (by decide) ?_
  refine lv_aload_n hx hb dX5_eliminate_5 rfl (lv_at hl 0 rfl) ?_
  refine x_get (ci := 5) (C := RX5) (T := TX5) (N := 6) (v := .ref (ad 31)) B h hin5 11 1 rfl rfl (by decide) (by decide +kernel) rfl dX5_eliminate_6 ?_
  refine lv_iconst (v := 0) hx hb dX5_eliminate_9 (by decide) ?_
  refine lv_aload_n hx hb dX5_eliminate_10 rfl (lv_at hl 0 rfl) ?_
  refine x_get (ci := 5) (C := RX5) (T := TX5) (N := 6) (v := .int 0) B h hin5 11 3 rfl rfl (by decide) (by decide +kernel) rfl dX5_eliminate_11 ?_
  refine lv_aload_n hx hb dX5_eliminate_14 rfl (lv_at hl 0 rfl) ?_
  refine x_get (ci := 5) (C := RX5) (T := TX5) (N := 6) (v := .int 0) B h hin5 11 4 rfl rfl (by decide) (by decide +kernel) rfl dX5_eliminate_15 ?_
  refine lv_imul hx hb dX5_eliminate_18 ?_
  refine lv_topi (fun v_1 ev_1 => ?_)
  obtain rfl : v_1 = 0 := ev_1.trans (by decide)
  refine va_copyl hx hb (hml.trans hl.1.symm) hown (hts (.methodLink RX5 28 arraycopyName) (by decide +kernel)) (hts (.native arraycopyName) (by decide +kernel)) (hts (.static arraycopyName) (by decide +kernel)) (hts (.initialized "java/lang/System") (by decide +kernel)) B.2.1 h.1 h.2.1 h.2.2.1 30 31 1 1 rfl rfl rfl rfl rfl (by decide) (by decide) (by decide) (by decide) (by decide) (fun i hi => absurd hi (Nat.not_lt_zero _)) (Nat.le_of_ble_eq_true rfl) (by decide) dX5_eliminate_19 (fun H locs hP hD hS => ?_)
  rw [cpy_zero] at hP hD
  have h : Hp D A s.heap (WX cI cJ cB cZ ad (Heights_height := fun _ => (-1)) (Heights_measuredAt := 0) (Matrix_minor := 1)) H locs := ⟨hP, hD, hS, h.2.2.2⟩
  refine lv_iconst (v := 0) hx hb dX5_eliminate_22 (by decide) ?_
  refine lv_istore_n (lv' := [(1, .int 0), (0, .ref (ad 11))]) hx hb dX5_eliminate_23 rfl hl (by decide) rfl (fun ls hl => ?_)
  refine lv_lconst (v := 1) hx hb dX5_eliminate_24 (by decide) ?_
  refine lv_lstore_n (lv' := [(2, .long 1), (1, .int 0), (0, .ref (ad 11))]) hx hb dX5_eliminate_25 rfl hl (by decide) rfl (fun ls hl => ?_)
  refine lv_iconst (v := 0) hx hb dX5_eliminate_26 (by decide) ?_
  refine lv_istore (lv' := [(4, .int 0), (2, .long 1), (1, .int 0), (0, .ref (ad 11))]) hx hb dX5_eliminate_27 hl (by decide) rfl (fun ls hl => ?_)
  refine lv_iload hx hb dX5_eliminate_29 (lv_at hl 0 rfl) ?_
  refine lv_aload_n hx hb dX5_eliminate_31 rfl (lv_at hl 3 rfl) ?_
  refine x_get (ci := 5) (C := RX5) (T := TX5) (N := 6) (v := .int 0) B h hin5 11 4 rfl rfl (by decide) (by decide +kernel) rfl dX5_eliminate_32 ?_
  refine lv_icmp_ge (tgt := 111) hx hb dX5_eliminate_35 (by decide) (fun c_3 => ?_) (fun c_3 => absurd c_3 (by decide))
  refine lv_aload_n hx hb dX5_eliminate_111 rfl (lv_at hl 3 rfl) ?_
  refine lv_lload_n hx hb dX5_eliminate_112 rfl (lv_at hl 1 rfl) ?_
  refine x_put (ci := 5) (C := RX5) (T := TX5) (N := 6) (v := .long 1) (ty := .long) B h hin5 tyX5 tyX5_ok nmX5 11 5 rfl rfl (by decide) (by decide +kernel) rfl rfl rfl rfl (Nat.le_of_ble_eq_true rfl) dX5_eliminate_113 (fun H locs h => ?_)
  have h : Hp D A s.heap (WX cI cJ cB cZ ad (Heights_height := fun _ => (-1)) (Heights_measuredAt := 0) (Matrix_minor := 1)) H locs := h
  refine lv_iload_n hx hb dX5_eliminate_116 rfl (lv_at hl 2 rfl) ?_
  exact x_iret (w1 := (fun _ => (WX cI cJ cB cZ ad (Heights_height := fun _ => (-1)) (Heights_measuredAt := 0) (Matrix_minor := 1)))) () B h hr rfl rfl dX5_eliminate_117
set_option maxHeartbeats 4000000 in
set_option maxRecDepth 100000 in
theorem k241_X0_rankOf (l : Launch) (D : va_G) (cI cJ cB cZ : ClassId) (ad bd : Nat → Nat) : MetI l yX0_rankOf wsX0_rankOf 2 89 0 0 D (TYS cI cJ cB cZ) (WX cI cJ cB cZ ad (Heights_height := fun _ => (-1)) (Heights_measuredAt := 0) (Matrix_minor := 1)) [.ref (ad 8), .long 0, .int 2, .int 0] (fun (r : Int32) (_ : Unit) => r = 0) (fun _ => (WX cI cJ cB cZ ad (Heights_height := fun _ => (-1)) (Heights_measuredAt := 0) (Matrix_minor := 1))) := by
  refine x_startI (ty := .int) (cc := cX0_rankOf) (by decide) rfl (Nat.le_of_ble_eq_true rfl) ?_
  intro p e s m args below meth c A ls B hr hnm h hl
  have hx := B.1.1
  have hb := B.1.2.1
  have hml := B.1.2.2.1
  have hts := B.1.2.2.2.2
  have hown : s.vm.findClass RX0 = some m.cls := B.1.2.2.2.1
  have hin0 : ∀ w ∈ u_ws RX0 TX0 4, w ∈ wsX0_rankOf := by decide +kernel
  have hin9 : ∀ w ∈ u_ws RX9 TX9 7, w ∈ wsX0_rankOf := by decide +kernel
  have hl : lv_has ls 5 [(0, .ref (ad 8)), (1, .long 0), (3, .int 2), (4, .int 0)] := hl
  refine lv_iload_n hx hb dX0_rankOf_0 rfl (lv_at hl 2 rfl) ?_
  refine lv_iconst (v := 1) hx hb dX0_rankOf_1 (by decide) ?_
  refine lv_icmp_lt (tgt := 10) hx hb dX0_rankOf_2 (by decide) (fun c_1 => absurd c_1 (by decide)) (fun c_1 => ?_)
  refine lv_iload_n hx hb dX0_rankOf_5 rfl (lv_at hl 2 rfl) ?_
  refine lv_iconst (v := 5) hx hb dX0_rankOf_6 (by decide) ?_
  refine lv_icmp_lt (tgt := 12) hx hb dX0_rankOf_7 (by decide) (fun c_2 => ?_) (fun c_2 => absurd c_2 (by decide))
  refine lv_aload_n hx hb dX0_rankOf_12 rfl (lv_at hl 0 rfl) ?_
  refine lv_lload_n hx hb dX0_rankOf_13 rfl (lv_at hl 1 rfl) ?_
  refine lv_aload_n hx hb dX0_rankOf_14 rfl (lv_at hl 0 rfl) ?_
  refine x_get (ci := 0) (C := RX0) (T := TX0) (N := 4) (v := .ref (ad 3)) B h hin0 8 0 rfl rfl (by decide) (by decide +kernel) rfl dX0_rankOf_15 ?_
  refine x_get (ci := 9) (C := RX9) (T := TX9) (N := 7) (v := .ref (ad 19)) B h hin9 3 6 rfl rfl (by decide) (by decide +kernel) rfl dX0_rankOf_18 ?_
  refine lv_iload_n hx hb dX0_rankOf_21 rfl (lv_at hl 2 rfl) ?_
  refine va_lald hx hb B.2.1 h.1 19 1 rfl rfl (vp_in_iff.mpr (by decide)) dX0_rankOf_22 ?_
  refine lv_topl (fun v_3 ev_3 => ?_)
  obtain rfl : v_3 = 0 := ev_3
  refine lv_land hx hb dX0_rankOf_23 ?_
  refine lv_topl (fun v_4 ev_4 => ?_)
  obtain rfl : v_4 = 0 := ev_4.trans (by decide)
  refine lv_lload_n hx hb dX0_rankOf_24 rfl (lv_at hl 1 rfl) ?_
  refine lv_aload_n hx hb dX0_rankOf_25 rfl (lv_at hl 0 rfl) ?_
  refine x_get (ci := 0) (C := RX0) (T := TX0) (N := 4) (v := .ref (ad 3)) B h hin0 8 0 rfl rfl (by decide) (by decide +kernel) rfl dX0_rankOf_26 ?_
  refine x_get (ci := 9) (C := RX9) (T := TX9) (N := 7) (v := .ref (ad 19)) B h hin9 3 6 rfl rfl (by decide) (by decide +kernel) rfl dX0_rankOf_29 ?_
  refine lv_iload_n hx hb dX0_rankOf_32 rfl (lv_at hl 2 rfl) ?_
  refine lv_iconst (v := 1) hx hb dX0_rankOf_33 (by decide) ?_
  refine lv_isub hx hb dX0_rankOf_34 ?_
  refine lv_topi (fun v_5 ev_5 => ?_)
  obtain rfl : v_5 = 1 := ev_5.trans (by decide)
  refine va_lald hx hb B.2.1 h.1 19 1 rfl rfl (vp_in_iff.mpr (by decide)) dX0_rankOf_35 ?_
  refine lv_topl (fun v_6 ev_6 => ?_)
  obtain rfl : v_6 = 0 := ev_6
  refine lv_land hx hb dX0_rankOf_36 ?_
  refine lv_topl (fun v_7 ev_7 => ?_)
  obtain rfl : v_7 = 0 := ev_7.trans (by decide)
  refine lv_iload hx hb dX0_rankOf_37 (lv_at hl 3 rfl) ?_
  refine x_cVVF (n := 3) (As := [.long 0, .long 0, .int 0]) (rest := []) B h (k239_X0_fill l D cI cJ cB cZ ad bd) ⟨⟨_, rfl⟩, by decide +kernel, Nat.le_of_ble_eq_true rfl, Nat.le_of_ble_eq_true rfl⟩ gX0_rankOf_X0_fill (show ((WX cI cJ cB cZ ad (Heights_height := fun _ => (-1)) (Heights_measuredAt := 0) (Matrix_minor := 1)) : va_W)[8]? = some (_, .inr (0, _)) from rfl) rfl rfl hl.1 rfl (Nat.le_of_ble_eq_true rfl) dX0_rankOf_39 ⟨Nat.le_of_ble_eq_true rfl, Nat.le_of_ble_eq_true rfl⟩ (fun u_8 H locs hp_8 h => ?_)
  have h : Hp D A s.heap (WX cI cJ cB cZ ad (Heights_height := fun _ => (-1)) (Heights_measuredAt := 0) (Matrix_minor := 1)) H locs := h
  refine lv_aload_n hx hb dX0_rankOf_42 rfl (lv_at hl 0 rfl) ?_
  refine x_get (ci := 0) (C := RX0) (T := TX0) (N := 4) (v := .ref (ad 11)) B h hin0 8 2 rfl rfl (by decide) (by decide +kernel) rfl dX0_rankOf_43 ?_
  refine x_cVIF (n := 0) (As := []) (rest := []) B h (k240_X5_eliminate l D cI cJ cB cZ ad bd) ⟨⟨_, rfl⟩, by decide +kernel, Nat.le_of_ble_eq_true rfl, Nat.le_of_ble_eq_true rfl⟩ gX0_rankOf_X5_eliminate (show ((WX cI cJ cB cZ ad (Heights_height := fun _ => (-1)) (Heights_measuredAt := 0) (Matrix_minor := 1)) : va_W)[11]? = some (_, .inr (5, _)) from rfl) rfl rfl hl.1 rfl (Nat.le_of_ble_eq_true rfl) dX0_rankOf_46 ⟨Nat.le_of_ble_eq_true rfl, Nat.le_of_ble_eq_true rfl⟩ (fun r_9 u_9 H locs hp_9 h => ?_)
  obtain rfl := hp_9
  have h : Hp D A s.heap (WX cI cJ cB cZ ad (Heights_height := fun _ => (-1)) (Heights_measuredAt := 0) (Matrix_minor := 1)) H locs := h
  exact x_iret (w1 := (fun _ => (WX cI cJ cB cZ ad (Heights_height := fun _ => (-1)) (Heights_measuredAt := 0) (Matrix_minor := 1)))) () B h hr rfl rfl dX0_rankOf_49
set_option maxHeartbeats 4000000 in
set_option maxRecDepth 100000 in
theorem k242_X0_bettiOf (l : Launch) (D : va_G) (cI cJ cB cZ : ClassId) (ad bd : Nat → Nat) : MetI l yX0_bettiOf wsX0_bettiOf 3 113 0 0 D (TYS cI cJ cB cZ) (WX cI cJ cB cZ ad (Heights_height := fun _ => (-1)) (Heights_measuredAt := 0)) [.ref (ad 8), .long 0, .int 1, .int 0] (fun (r : Int32) (_ : Unit) => r = 0) (fun _ => (WX cI cJ cB cZ ad (Heights_height := fun _ => (-1)) (Heights_measuredAt := 0) (Matrix_minor := 1))) := by
  refine x_startI (ty := .int) (cc := cX0_bettiOf) (by decide) rfl (Nat.le_of_ble_eq_true rfl) ?_
  intro p e s m args below meth c A ls B hr hnm h hl
  have hx := B.1.1
  have hb := B.1.2.1
  have hml := B.1.2.2.1
  have hts := B.1.2.2.2.2
  have hown : s.vm.findClass RX0 = some m.cls := B.1.2.2.2.1
  have hin0 : ∀ w ∈ u_ws RX0 TX0 4, w ∈ wsX0_bettiOf := by decide +kernel
  have hin9 : ∀ w ∈ u_ws RX9 TX9 7, w ∈ wsX0_bettiOf := by decide +kernel
  have hl : lv_has ls 6 [(0, .ref (ad 8)), (1, .long 0), (3, .int 1), (4, .int 0)] := hl
  refine lv_lload_n hx hb dX0_bettiOf_0 rfl (lv_at hl 1 rfl) ?_
  refine lv_aload_n hx hb dX0_bettiOf_1 rfl (lv_at hl 0 rfl) ?_
  refine x_get (ci := 0) (C := RX0) (T := TX0) (N := 4) (v := .ref (ad 3)) B h hin0 8 0 rfl rfl (by decide) (by decide +kernel) rfl dX0_bettiOf_2 ?_
  refine x_get (ci := 9) (C := RX9) (T := TX9) (N := 7) (v := .ref (ad 19)) B h hin9 3 6 rfl rfl (by decide) (by decide +kernel) rfl dX0_bettiOf_5 ?_
  refine lv_iload_n hx hb dX0_bettiOf_8 rfl (lv_at hl 2 rfl) ?_
  refine va_lald hx hb B.2.1 h.1 19 1 rfl rfl (vp_in_iff.mpr (by decide)) dX0_bettiOf_9 ?_
  refine lv_topl (fun v_1 ev_1 => ?_)
  obtain rfl : v_1 = 0 := ev_1
  refine lv_land hx hb dX0_bettiOf_10 ?_
  refine lv_topl (fun v_2 ev_2 => ?_)
  obtain rfl : v_2 = 0 := ev_2.trans (by decide)
  refine x_cSIE (n := 1) (As := [.long 0]) (rest := []) B h (k65_J13_bitCount_95d88 l D cI cJ cB cZ ad bd) ⟨⟨_, rfl⟩, by decide +kernel, Nat.le_of_ble_eq_true rfl, Nat.le_of_ble_eq_true rfl⟩ gX0_bettiOf_J13_bitCount_95d88 rfl hl.1 rfl (Nat.le_of_ble_eq_true rfl) dX0_bettiOf_11 ⟨Nat.le_of_ble_eq_true rfl, Nat.le_of_ble_eq_true rfl⟩ (fun r_3 u_3 H locs hp_3 h => ?_)
  obtain rfl := hp_3
  have h : Hp D A s.heap (WX cI cJ cB cZ ad (Heights_height := fun _ => (-1)) (Heights_measuredAt := 0)) H locs := h
  refine lv_istore (lv' := [(5, .int 0), (0, .ref (ad 8)), (1, .long 0), (3, .int 1), (4, .int 0)]) hx hb dX0_bettiOf_14 hl (by decide) rfl (fun ls hl => ?_)
  refine lv_iload hx hb dX0_bettiOf_16 (lv_at hl 0 rfl) ?_
  refine lv_aload_n hx hb dX0_bettiOf_18 rfl (lv_at hl 1 rfl) ?_
  refine lv_lload_n hx hb dX0_bettiOf_19 rfl (lv_at hl 2 rfl) ?_
  refine lv_iload_n hx hb dX0_bettiOf_20 rfl (lv_at hl 3 rfl) ?_
  refine lv_iload hx hb dX0_bettiOf_21 (lv_at hl 4 rfl) ?_
  refine x_cVIF (n := 3) (As := [.long 0, .int 1, .int 0]) (rest := [.int 0]) B h (k236_X0_rankOf l D cI cJ cB cZ ad bd) ⟨⟨_, rfl⟩, by decide +kernel, Nat.le_of_ble_eq_true rfl, Nat.le_of_ble_eq_true rfl⟩ gX0_bettiOf_X0_rankOf (show ((WX cI cJ cB cZ ad (Heights_height := fun _ => (-1)) (Heights_measuredAt := 0)) : va_W)[8]? = some (_, .inr (0, _)) from rfl) rfl rfl hl.1 rfl (Nat.le_of_ble_eq_true rfl) dX0_bettiOf_23 ⟨Nat.le_of_ble_eq_true rfl, Nat.le_of_ble_eq_true rfl⟩ (fun r_4 u_4 H locs hp_4 h => ?_)
  obtain rfl := hp_4
  have h : Hp D A s.heap (WX cI cJ cB cZ ad (Heights_height := fun _ => (-1)) (Heights_measuredAt := 0) (Matrix_minor := 1)) H locs := h
  refine lv_isub hx hb dX0_bettiOf_26 ?_
  refine lv_topi (fun v_5 ev_5 => ?_)
  obtain rfl : v_5 = 0 := ev_5.trans (by decide)
  refine lv_aload_n hx hb dX0_bettiOf_27 rfl (lv_at hl 1 rfl) ?_
  refine lv_lload_n hx hb dX0_bettiOf_28 rfl (lv_at hl 2 rfl) ?_
  refine lv_iload_n hx hb dX0_bettiOf_29 rfl (lv_at hl 3 rfl) ?_
  refine lv_iconst (v := 1) hx hb dX0_bettiOf_30 (by decide) ?_
  refine lv_iadd hx hb dX0_bettiOf_31 ?_
  refine lv_topi (fun v_6 ev_6 => ?_)
  obtain rfl : v_6 = 2 := ev_6.trans (by decide)
  refine lv_iload hx hb dX0_bettiOf_32 (lv_at hl 4 rfl) ?_
  refine x_cVIF (n := 3) (As := [.long 0, .int 2, .int 0]) (rest := [.int 0]) B h (k241_X0_rankOf l D cI cJ cB cZ ad bd) ⟨⟨_, rfl⟩, by decide +kernel, Nat.le_of_ble_eq_true rfl, Nat.le_of_ble_eq_true rfl⟩ gX0_bettiOf_X0_rankOf (show ((WX cI cJ cB cZ ad (Heights_height := fun _ => (-1)) (Heights_measuredAt := 0) (Matrix_minor := 1)) : va_W)[8]? = some (_, .inr (0, _)) from rfl) rfl rfl hl.1 rfl (Nat.le_of_ble_eq_true rfl) dX0_bettiOf_34 ⟨Nat.le_of_ble_eq_true rfl, Nat.le_of_ble_eq_true rfl⟩ (fun r_7 u_7 H locs hp_7 h => ?_)
  obtain rfl := hp_7
  have h : Hp D A s.heap (WX cI cJ cB cZ ad (Heights_height := fun _ => (-1)) (Heights_measuredAt := 0) (Matrix_minor := 1)) H locs := h
  refine lv_isub hx hb dX0_bettiOf_37 ?_
  refine lv_topi (fun v_8 ev_8 => ?_)
  obtain rfl : v_8 = 0 := ev_8.trans (by decide)
  exact x_iret (w1 := (fun _ => (WX cI cJ cB cZ ad (Heights_height := fun _ => (-1)) (Heights_measuredAt := 0) (Matrix_minor := 1)))) () B h hr rfl rfl dX0_bettiOf_38
set_option maxHeartbeats 4000000 in
set_option maxRecDepth 100000 in
theorem k243_X0_rankOf (l : Launch) (D : va_G) (cI cJ cB cZ : ClassId) (ad bd : Nat → Nat) : MetI l yX0_rankOf wsX0_rankOf 2 89 0 0 D (TYS cI cJ cB cZ) (WX cI cJ cB cZ ad (Heights_height := fun _ => (-1)) (Heights_measuredAt := 0)) [.ref (ad 8), .long 0, .int 2, .int 0] (fun (r : Int32) (_ : Unit) => r = 0) (fun _ => (WX cI cJ cB cZ ad (Heights_height := fun _ => (-1)) (Heights_measuredAt := 0) (Matrix_minor := 1))) := by
  refine x_startI (ty := .int) (cc := cX0_rankOf) (by decide) rfl (Nat.le_of_ble_eq_true rfl) ?_
  intro p e s m args below meth c A ls B hr hnm h hl
  have hx := B.1.1
  have hb := B.1.2.1
  have hml := B.1.2.2.1
  have hts := B.1.2.2.2.2
  have hown : s.vm.findClass RX0 = some m.cls := B.1.2.2.2.1
  have hin0 : ∀ w ∈ u_ws RX0 TX0 4, w ∈ wsX0_rankOf := by decide +kernel
  have hin9 : ∀ w ∈ u_ws RX9 TX9 7, w ∈ wsX0_rankOf := by decide +kernel
  have hl : lv_has ls 5 [(0, .ref (ad 8)), (1, .long 0), (3, .int 2), (4, .int 0)] := hl
  refine lv_iload_n hx hb dX0_rankOf_0 rfl (lv_at hl 2 rfl) ?_
  refine lv_iconst (v := 1) hx hb dX0_rankOf_1 (by decide) ?_
  refine lv_icmp_lt (tgt := 10) hx hb dX0_rankOf_2 (by decide) (fun c_1 => absurd c_1 (by decide)) (fun c_1 => ?_)
  refine lv_iload_n hx hb dX0_rankOf_5 rfl (lv_at hl 2 rfl) ?_
  refine lv_iconst (v := 5) hx hb dX0_rankOf_6 (by decide) ?_
  refine lv_icmp_lt (tgt := 12) hx hb dX0_rankOf_7 (by decide) (fun c_2 => ?_) (fun c_2 => absurd c_2 (by decide))
  refine lv_aload_n hx hb dX0_rankOf_12 rfl (lv_at hl 0 rfl) ?_
  refine lv_lload_n hx hb dX0_rankOf_13 rfl (lv_at hl 1 rfl) ?_
  refine lv_aload_n hx hb dX0_rankOf_14 rfl (lv_at hl 0 rfl) ?_
  refine x_get (ci := 0) (C := RX0) (T := TX0) (N := 4) (v := .ref (ad 3)) B h hin0 8 0 rfl rfl (by decide) (by decide +kernel) rfl dX0_rankOf_15 ?_
  refine x_get (ci := 9) (C := RX9) (T := TX9) (N := 7) (v := .ref (ad 19)) B h hin9 3 6 rfl rfl (by decide) (by decide +kernel) rfl dX0_rankOf_18 ?_
  refine lv_iload_n hx hb dX0_rankOf_21 rfl (lv_at hl 2 rfl) ?_
  refine va_lald hx hb B.2.1 h.1 19 1 rfl rfl (vp_in_iff.mpr (by decide)) dX0_rankOf_22 ?_
  refine lv_topl (fun v_3 ev_3 => ?_)
  obtain rfl : v_3 = 0 := ev_3
  refine lv_land hx hb dX0_rankOf_23 ?_
  refine lv_topl (fun v_4 ev_4 => ?_)
  obtain rfl : v_4 = 0 := ev_4.trans (by decide)
  refine lv_lload_n hx hb dX0_rankOf_24 rfl (lv_at hl 1 rfl) ?_
  refine lv_aload_n hx hb dX0_rankOf_25 rfl (lv_at hl 0 rfl) ?_
  refine x_get (ci := 0) (C := RX0) (T := TX0) (N := 4) (v := .ref (ad 3)) B h hin0 8 0 rfl rfl (by decide) (by decide +kernel) rfl dX0_rankOf_26 ?_
  refine x_get (ci := 9) (C := RX9) (T := TX9) (N := 7) (v := .ref (ad 19)) B h hin9 3 6 rfl rfl (by decide) (by decide +kernel) rfl dX0_rankOf_29 ?_
  refine lv_iload_n hx hb dX0_rankOf_32 rfl (lv_at hl 2 rfl) ?_
  refine lv_iconst (v := 1) hx hb dX0_rankOf_33 (by decide) ?_
  refine lv_isub hx hb dX0_rankOf_34 ?_
  refine lv_topi (fun v_5 ev_5 => ?_)
  obtain rfl : v_5 = 1 := ev_5.trans (by decide)
  refine va_lald hx hb B.2.1 h.1 19 1 rfl rfl (vp_in_iff.mpr (by decide)) dX0_rankOf_35 ?_
  refine lv_topl (fun v_6 ev_6 => ?_)
  obtain rfl : v_6 = 0 := ev_6
  refine lv_land hx hb dX0_rankOf_36 ?_
  refine lv_topl (fun v_7 ev_7 => ?_)
  obtain rfl : v_7 = 0 := ev_7.trans (by decide)
  refine lv_iload hx hb dX0_rankOf_37 (lv_at hl 3 rfl) ?_
  refine x_cVVF (n := 3) (As := [.long 0, .long 0, .int 0]) (rest := []) B h (k234_X0_fill l D cI cJ cB cZ ad bd) ⟨⟨_, rfl⟩, by decide +kernel, Nat.le_of_ble_eq_true rfl, Nat.le_of_ble_eq_true rfl⟩ gX0_rankOf_X0_fill (show ((WX cI cJ cB cZ ad (Heights_height := fun _ => (-1)) (Heights_measuredAt := 0)) : va_W)[8]? = some (_, .inr (0, _)) from rfl) rfl rfl hl.1 rfl (Nat.le_of_ble_eq_true rfl) dX0_rankOf_39 ⟨Nat.le_of_ble_eq_true rfl, Nat.le_of_ble_eq_true rfl⟩ (fun u_8 H locs hp_8 h => ?_)
  have h : Hp D A s.heap (WX cI cJ cB cZ ad (Heights_height := fun _ => (-1)) (Heights_measuredAt := 0)) H locs := h
  refine lv_aload_n hx hb dX0_rankOf_42 rfl (lv_at hl 0 rfl) ?_
  refine x_get (ci := 0) (C := RX0) (T := TX0) (N := 4) (v := .ref (ad 11)) B h hin0 8 2 rfl rfl (by decide) (by decide +kernel) rfl dX0_rankOf_43 ?_
  refine x_cVIF (n := 0) (As := []) (rest := []) B h (k235_X5_eliminate l D cI cJ cB cZ ad bd) ⟨⟨_, rfl⟩, by decide +kernel, Nat.le_of_ble_eq_true rfl, Nat.le_of_ble_eq_true rfl⟩ gX0_rankOf_X5_eliminate (show ((WX cI cJ cB cZ ad (Heights_height := fun _ => (-1)) (Heights_measuredAt := 0)) : va_W)[11]? = some (_, .inr (5, _)) from rfl) rfl rfl hl.1 rfl (Nat.le_of_ble_eq_true rfl) dX0_rankOf_46 ⟨Nat.le_of_ble_eq_true rfl, Nat.le_of_ble_eq_true rfl⟩ (fun r_9 u_9 H locs hp_9 h => ?_)
  obtain rfl := hp_9
  have h : Hp D A s.heap (WX cI cJ cB cZ ad (Heights_height := fun _ => (-1)) (Heights_measuredAt := 0) (Matrix_minor := 1)) H locs := h
  exact x_iret (w1 := (fun _ => (WX cI cJ cB cZ ad (Heights_height := fun _ => (-1)) (Heights_measuredAt := 0) (Matrix_minor := 1)))) () B h hr rfl rfl dX0_rankOf_49
set_option maxHeartbeats 4000000 in
set_option maxRecDepth 100000 in
theorem k244_X0_rankOf (l : Launch) (D : va_G) (cI cJ cB cZ : ClassId) (ad bd : Nat → Nat) : MetI l yX0_rankOf wsX0_rankOf 2 89 0 0 D (TYS cI cJ cB cZ) (WX cI cJ cB cZ ad (Heights_height := fun _ => (-1)) (Heights_measuredAt := 0) (Matrix_minor := 1)) [.ref (ad 8), .long 0, .int 3, .int 0] (fun (r : Int32) (_ : Unit) => r = 0) (fun _ => (WX cI cJ cB cZ ad (Heights_height := fun _ => (-1)) (Heights_measuredAt := 0) (Matrix_minor := 1))) := by
  refine x_startI (ty := .int) (cc := cX0_rankOf) (by decide) rfl (Nat.le_of_ble_eq_true rfl) ?_
  intro p e s m args below meth c A ls B hr hnm h hl
  have hx := B.1.1
  have hb := B.1.2.1
  have hml := B.1.2.2.1
  have hts := B.1.2.2.2.2
  have hown : s.vm.findClass RX0 = some m.cls := B.1.2.2.2.1
  have hin0 : ∀ w ∈ u_ws RX0 TX0 4, w ∈ wsX0_rankOf := by decide +kernel
  have hin9 : ∀ w ∈ u_ws RX9 TX9 7, w ∈ wsX0_rankOf := by decide +kernel
  have hl : lv_has ls 5 [(0, .ref (ad 8)), (1, .long 0), (3, .int 3), (4, .int 0)] := hl
  refine lv_iload_n hx hb dX0_rankOf_0 rfl (lv_at hl 2 rfl) ?_
  refine lv_iconst (v := 1) hx hb dX0_rankOf_1 (by decide) ?_
  refine lv_icmp_lt (tgt := 10) hx hb dX0_rankOf_2 (by decide) (fun c_1 => absurd c_1 (by decide)) (fun c_1 => ?_)
  refine lv_iload_n hx hb dX0_rankOf_5 rfl (lv_at hl 2 rfl) ?_
  refine lv_iconst (v := 5) hx hb dX0_rankOf_6 (by decide) ?_
  refine lv_icmp_lt (tgt := 12) hx hb dX0_rankOf_7 (by decide) (fun c_2 => ?_) (fun c_2 => absurd c_2 (by decide))
  refine lv_aload_n hx hb dX0_rankOf_12 rfl (lv_at hl 0 rfl) ?_
  refine lv_lload_n hx hb dX0_rankOf_13 rfl (lv_at hl 1 rfl) ?_
  refine lv_aload_n hx hb dX0_rankOf_14 rfl (lv_at hl 0 rfl) ?_
  refine x_get (ci := 0) (C := RX0) (T := TX0) (N := 4) (v := .ref (ad 3)) B h hin0 8 0 rfl rfl (by decide) (by decide +kernel) rfl dX0_rankOf_15 ?_
  refine x_get (ci := 9) (C := RX9) (T := TX9) (N := 7) (v := .ref (ad 19)) B h hin9 3 6 rfl rfl (by decide) (by decide +kernel) rfl dX0_rankOf_18 ?_
  refine lv_iload_n hx hb dX0_rankOf_21 rfl (lv_at hl 2 rfl) ?_
  refine va_lald hx hb B.2.1 h.1 19 1 rfl rfl (vp_in_iff.mpr (by decide)) dX0_rankOf_22 ?_
  refine lv_topl (fun v_3 ev_3 => ?_)
  obtain rfl : v_3 = 0 := ev_3
  refine lv_land hx hb dX0_rankOf_23 ?_
  refine lv_topl (fun v_4 ev_4 => ?_)
  obtain rfl : v_4 = 0 := ev_4.trans (by decide)
  refine lv_lload_n hx hb dX0_rankOf_24 rfl (lv_at hl 1 rfl) ?_
  refine lv_aload_n hx hb dX0_rankOf_25 rfl (lv_at hl 0 rfl) ?_
  refine x_get (ci := 0) (C := RX0) (T := TX0) (N := 4) (v := .ref (ad 3)) B h hin0 8 0 rfl rfl (by decide) (by decide +kernel) rfl dX0_rankOf_26 ?_
  refine x_get (ci := 9) (C := RX9) (T := TX9) (N := 7) (v := .ref (ad 19)) B h hin9 3 6 rfl rfl (by decide) (by decide +kernel) rfl dX0_rankOf_29 ?_
  refine lv_iload_n hx hb dX0_rankOf_32 rfl (lv_at hl 2 rfl) ?_
  refine lv_iconst (v := 1) hx hb dX0_rankOf_33 (by decide) ?_
  refine lv_isub hx hb dX0_rankOf_34 ?_
  refine lv_topi (fun v_5 ev_5 => ?_)
  obtain rfl : v_5 = 2 := ev_5.trans (by decide)
  refine va_lald hx hb B.2.1 h.1 19 1 rfl rfl (vp_in_iff.mpr (by decide)) dX0_rankOf_35 ?_
  refine lv_topl (fun v_6 ev_6 => ?_)
  obtain rfl : v_6 = 0 := ev_6
  refine lv_land hx hb dX0_rankOf_36 ?_
  refine lv_topl (fun v_7 ev_7 => ?_)
  obtain rfl : v_7 = 0 := ev_7.trans (by decide)
  refine lv_iload hx hb dX0_rankOf_37 (lv_at hl 3 rfl) ?_
  refine x_cVVF (n := 3) (As := [.long 0, .long 0, .int 0]) (rest := []) B h (k239_X0_fill l D cI cJ cB cZ ad bd) ⟨⟨_, rfl⟩, by decide +kernel, Nat.le_of_ble_eq_true rfl, Nat.le_of_ble_eq_true rfl⟩ gX0_rankOf_X0_fill (show ((WX cI cJ cB cZ ad (Heights_height := fun _ => (-1)) (Heights_measuredAt := 0) (Matrix_minor := 1)) : va_W)[8]? = some (_, .inr (0, _)) from rfl) rfl rfl hl.1 rfl (Nat.le_of_ble_eq_true rfl) dX0_rankOf_39 ⟨Nat.le_of_ble_eq_true rfl, Nat.le_of_ble_eq_true rfl⟩ (fun u_8 H locs hp_8 h => ?_)
  have h : Hp D A s.heap (WX cI cJ cB cZ ad (Heights_height := fun _ => (-1)) (Heights_measuredAt := 0) (Matrix_minor := 1)) H locs := h
  refine lv_aload_n hx hb dX0_rankOf_42 rfl (lv_at hl 0 rfl) ?_
  refine x_get (ci := 0) (C := RX0) (T := TX0) (N := 4) (v := .ref (ad 11)) B h hin0 8 2 rfl rfl (by decide) (by decide +kernel) rfl dX0_rankOf_43 ?_
  refine x_cVIF (n := 0) (As := []) (rest := []) B h (k240_X5_eliminate l D cI cJ cB cZ ad bd) ⟨⟨_, rfl⟩, by decide +kernel, Nat.le_of_ble_eq_true rfl, Nat.le_of_ble_eq_true rfl⟩ gX0_rankOf_X5_eliminate (show ((WX cI cJ cB cZ ad (Heights_height := fun _ => (-1)) (Heights_measuredAt := 0) (Matrix_minor := 1)) : va_W)[11]? = some (_, .inr (5, _)) from rfl) rfl rfl hl.1 rfl (Nat.le_of_ble_eq_true rfl) dX0_rankOf_46 ⟨Nat.le_of_ble_eq_true rfl, Nat.le_of_ble_eq_true rfl⟩ (fun r_9 u_9 H locs hp_9 h => ?_)
  obtain rfl := hp_9
  have h : Hp D A s.heap (WX cI cJ cB cZ ad (Heights_height := fun _ => (-1)) (Heights_measuredAt := 0) (Matrix_minor := 1)) H locs := h
  exact x_iret (w1 := (fun _ => (WX cI cJ cB cZ ad (Heights_height := fun _ => (-1)) (Heights_measuredAt := 0) (Matrix_minor := 1)))) () B h hr rfl rfl dX0_rankOf_49
