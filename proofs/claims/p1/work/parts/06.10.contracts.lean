set_option maxHeartbeats 4000000 in
set_option maxRecDepth 100000 in
theorem k245_X0_bettiOf (l : Launch) (D : va_G) (cI cJ cB cZ : ClassId) (ad bd : Nat → Nat) : MetI l yX0_bettiOf wsX0_bettiOf 3 113 0 0 D (TYS cI cJ cB cZ) (WX cI cJ cB cZ ad (Heights_height := fun _ => (-1)) (Heights_measuredAt := 0)) [.ref (ad 8), .long 0, .int 2, .int 0] (fun (r : Int32) (_ : Unit) => r = 0) (fun _ => (WX cI cJ cB cZ ad (Heights_height := fun _ => (-1)) (Heights_measuredAt := 0) (Matrix_minor := 1))) := by
  refine x_startI (ty := .int) (cc := cX0_bettiOf) (by decide) rfl (Nat.le_of_ble_eq_true rfl) ?_
  intro p e s m args below meth c A ls B hr hnm h hl
  have hx := B.1.1
  have hb := B.1.2.1
  have hml := B.1.2.2.1
  have hts := B.1.2.2.2.2
  have hown : s.vm.findClass RX0 = some m.cls := B.1.2.2.2.1
  have hin0 : ∀ w ∈ u_ws RX0 TX0 4, w ∈ wsX0_bettiOf := by decide +kernel
  have hin9 : ∀ w ∈ u_ws RX9 TX9 7, w ∈ wsX0_bettiOf := by decide +kernel
  have hl : lv_has ls 6 [(0, .ref (ad 8)), (1, .long 0), (3, .int 2), (4, .int 0)] := hl
  refine lv_lload_n hx hb dX0_bettiOf_0 rfl (lv_at hl 1 rfl) ?_
  refine lv_aload_n hx hb dX0_bettiOf_1 rfl (lv_at hl 0 rfl) ?_
  refine x_get (ci := 0) (C := RX0) (T := TX0) (N := 4) (v := .ref (ad 3)) B h hin0 8 0 rfl rfl (by decide) (by decide +kernel) rfl dX0_bettiOf_2 ?_
  refine x_get (ci := 9) (C := RX9) (T := TX9) (N := 7) (v := .ref (ad 19)) B h hin9 3 6 rfl rfl (by decide) (by decide +kernel) rfl dX0_bettiOf_5 ?_
  refine lv_iload_n hx hb dX0_bettiOf_8 rfl (lv_at hl 2 rfl) ?_
  refine va_lald hx hb B.2.1 h.1 19 1 rfl rfl (vp_in_iff.mpr (by decide)) dX0_bettiOf_9 ?_
  refine lv_topl (fun v_1 ev_1 => ?_)
  obtain rfl : v_1 = 0 := ev_1
  refine lv_land hx hb dX0_bettiOf_10 ?_
  refine lv_topl (fun v_2 ev_2 => ?_)
  obtain rfl : v_2 = 0 := ev_2.trans (by decide)
  refine x_cSIE (n := 1) (As := [.long 0]) (rest := []) B h (k65_J13_bitCount_95d88 l D cI cJ cB cZ ad bd) ⟨⟨_, rfl⟩, by decide +kernel, Nat.le_of_ble_eq_true rfl, Nat.le_of_ble_eq_true rfl⟩ gX0_bettiOf_J13_bitCount_95d88 rfl hl.1 rfl (Nat.le_of_ble_eq_true rfl) dX0_bettiOf_11 ⟨Nat.le_of_ble_eq_true rfl, Nat.le_of_ble_eq_true rfl⟩ (fun r_3 u_3 H locs hp_3 h => ?_)
  obtain rfl := hp_3
  have h : Hp D A s.heap (WX cI cJ cB cZ ad (Heights_height := fun _ => (-1)) (Heights_measuredAt := 0)) H locs := h
  refine lv_istore (lv' := [(5, .int 0), (0, .ref (ad 8)), (1, .long 0), (3, .int 2), (4, .int 0)]) hx hb dX0_bettiOf_14 hl (by decide) rfl (fun ls hl => ?_)
  refine lv_iload hx hb dX0_bettiOf_16 (lv_at hl 0 rfl) ?_
  refine lv_aload_n hx hb dX0_bettiOf_18 rfl (lv_at hl 1 rfl) ?_
  refine lv_lload_n hx hb dX0_bettiOf_19 rfl (lv_at hl 2 rfl) ?_
  refine lv_iload_n hx hb dX0_bettiOf_20 rfl (lv_at hl 3 rfl) ?_
  refine lv_iload hx hb dX0_bettiOf_21 (lv_at hl 4 rfl) ?_
  refine x_cVIF (n := 3) (As := [.long 0, .int 2, .int 0]) (rest := [.int 0]) B h (k243_X0_rankOf l D cI cJ cB cZ ad bd) ⟨⟨_, rfl⟩, by decide +kernel, Nat.le_of_ble_eq_true rfl, Nat.le_of_ble_eq_true rfl⟩ gX0_bettiOf_X0_rankOf (show ((WX cI cJ cB cZ ad (Heights_height := fun _ => (-1)) (Heights_measuredAt := 0)) : va_W)[8]? = some (_, .inr (0, _)) from rfl) rfl rfl hl.1 rfl (Nat.le_of_ble_eq_true rfl) dX0_bettiOf_23 ⟨Nat.le_of_ble_eq_true rfl, Nat.le_of_ble_eq_true rfl⟩ (fun r_4 u_4 H locs hp_4 h => ?_)
  obtain rfl := hp_4
  have h : Hp D A s.heap (WX cI cJ cB cZ ad (Heights_height := fun _ => (-1)) (Heights_measuredAt := 0) (Matrix_minor := 1)) H locs := h
  refine lv_isub hx hb dX0_bettiOf_26 ?_
  refine lv_topi (fun v_5 ev_5 => ?_)
  obtain rfl : v_5 = 0 := ev_5.trans (by decide)
  refine lv_aload_n hx hb dX0_bettiOf_27 rfl (lv_at hl 1 rfl) ?_
  refine lv_lload_n hx hb dX0_bettiOf_28 rfl (lv_at hl 2 rfl) ?_
  refine lv_iload_n hx hb dX0_bettiOf_29 rfl (lv_at hl 3 rfl) ?_
  refine lv_iconst (v := 1) hx hb dX0_bettiOf_30 (by decide) ?_
  refine lv_iadd hx hb dX0_bettiOf_31 ?_
  refine lv_topi (fun v_6 ev_6 => ?_)
  obtain rfl : v_6 = 3 := ev_6.trans (by decide)
  refine lv_iload hx hb dX0_bettiOf_32 (lv_at hl 4 rfl) ?_
  refine x_cVIF (n := 3) (As := [.long 0, .int 3, .int 0]) (rest := [.int 0]) B h (k244_X0_rankOf l D cI cJ cB cZ ad bd) ⟨⟨_, rfl⟩, by decide +kernel, Nat.le_of_ble_eq_true rfl, Nat.le_of_ble_eq_true rfl⟩ gX0_bettiOf_X0_rankOf (show ((WX cI cJ cB cZ ad (Heights_height := fun _ => (-1)) (Heights_measuredAt := 0) (Matrix_minor := 1)) : va_W)[8]? = some (_, .inr (0, _)) from rfl) rfl rfl hl.1 rfl (Nat.le_of_ble_eq_true rfl) dX0_bettiOf_34 ⟨Nat.le_of_ble_eq_true rfl, Nat.le_of_ble_eq_true rfl⟩ (fun r_7 u_7 H locs hp_7 h => ?_)
  obtain rfl := hp_7
  have h : Hp D A s.heap (WX cI cJ cB cZ ad (Heights_height := fun _ => (-1)) (Heights_measuredAt := 0) (Matrix_minor := 1)) H locs := h
  refine lv_isub hx hb dX0_bettiOf_37 ?_
  refine lv_topi (fun v_8 ev_8 => ?_)
  obtain rfl : v_8 = 0 := ev_8.trans (by decide)
  exact x_iret (w1 := (fun _ => (WX cI cJ cB cZ ad (Heights_height := fun _ => (-1)) (Heights_measuredAt := 0) (Matrix_minor := 1)))) () B h hr rfl rfl dX0_bettiOf_38
set_option maxHeartbeats 4000000 in
set_option maxRecDepth 100000 in
theorem k246_X0_rankOf (l : Launch) (D : va_G) (cI cJ cB cZ : ClassId) (ad bd : Nat → Nat) : MetI l yX0_rankOf wsX0_rankOf 2 89 0 0 D (TYS cI cJ cB cZ) (WX cI cJ cB cZ ad (Heights_height := fun _ => (-1)) (Heights_measuredAt := 0)) [.ref (ad 8), .long 0, .int 3, .int 0] (fun (r : Int32) (_ : Unit) => r = 0) (fun _ => (WX cI cJ cB cZ ad (Heights_height := fun _ => (-1)) (Heights_measuredAt := 0) (Matrix_minor := 1))) := by
  refine x_startI (ty := .int) (cc := cX0_rankOf) (by decide) rfl (Nat.le_of_ble_eq_true rfl) ?_
  intro p e s m args below meth c A ls B hr hnm h hl
  have hx := B.1.1
  have hb := B.1.2.1
  have hml := B.1.2.2.1
  have hts := B.1.2.2.2.2
  have hown : s.vm.findClass RX0 = some m.cls := B.1.2.2.2.1
  have hin0 : ∀ w ∈ u_ws RX0 TX0 4, w ∈ wsX0_rankOf := by decide +kernel
  have hin9 : ∀ w ∈ u_ws RX9 TX9 7, w ∈ wsX0_rankOf := by decide +kernel
  have hl : lv_has ls 5 [(0, .ref (ad 8)), (1, .long 0), (3, .int 3), (4, .int 0)] := hl
  refine lv_iload_n hx hb dX0_rankOf_0 rfl (lv_at hl 2 rfl) ?_
  refine lv_iconst (v := 1) hx hb dX0_rankOf_1 (by decide) ?_
  refine lv_icmp_lt (tgt := 10) hx hb dX0_rankOf_2 (by decide) (fun c_1 => absurd c_1 (by decide)) (fun c_1 => ?_)
  refine lv_iload_n hx hb dX0_rankOf_5 rfl (lv_at hl 2 rfl) ?_
  refine lv_iconst (v := 5) hx hb dX0_rankOf_6 (by decide) ?_
  refine lv_icmp_lt (tgt := 12) hx hb dX0_rankOf_7 (by decide) (fun c_2 => ?_) (fun c_2 => absurd c_2 (by decide))
  refine lv_aload_n hx hb dX0_rankOf_12 rfl (lv_at hl 0 rfl) ?_
  refine lv_lload_n hx hb dX0_rankOf_13 rfl (lv_at hl 1 rfl) ?_
  refine lv_aload_n hx hb dX0_rankOf_14 rfl (lv_at hl 0 rfl) ?_
  refine x_get (ci := 0) (C := RX0) (T := TX0) (N := 4) (v := .ref (ad 3)) B h hin0 8 0 rfl rfl (by decide) (by decide +kernel) rfl dX0_rankOf_15 ?_
  refine x_get (ci := 9) (C := RX9) (T := TX9) (N := 7) (v := .ref (ad 19)) B h hin9 3 6 rfl rfl (by decide) (by decide +kernel) rfl dX0_rankOf_18 ?_
  refine lv_iload_n hx hb dX0_rankOf_21 rfl (lv_at hl 2 rfl) ?_
  refine va_lald hx hb B.2.1 h.1 19 1 rfl rfl (vp_in_iff.mpr (by decide)) dX0_rankOf_22 ?_
  refine lv_topl (fun v_3 ev_3 => ?_)
  obtain rfl : v_3 = 0 := ev_3
  refine lv_land hx hb dX0_rankOf_23 ?_
  refine lv_topl (fun v_4 ev_4 => ?_)
  obtain rfl : v_4 = 0 := ev_4.trans (by decide)
  refine lv_lload_n hx hb dX0_rankOf_24 rfl (lv_at hl 1 rfl) ?_
  refine lv_aload_n hx hb dX0_rankOf_25 rfl (lv_at hl 0 rfl) ?_
  refine x_get (ci := 0) (C := RX0) (T := TX0) (N := 4) (v := .ref (ad 3)) B h hin0 8 0 rfl rfl (by decide) (by decide +kernel) rfl dX0_rankOf_26 ?_
  refine x_get (ci := 9) (C := RX9) (T := TX9) (N := 7) (v := .ref (ad 19)) B h hin9 3 6 rfl rfl (by decide) (by decide +kernel) rfl dX0_rankOf_29 ?_
  refine lv_iload_n hx hb dX0_rankOf_32 rfl (lv_at hl 2 rfl) ?_
  refine lv_iconst (v := 1) hx hb dX0_rankOf_33 (by decide) ?_
  refine lv_isub hx hb dX0_rankOf_34 ?_
  refine lv_topi (fun v_5 ev_5 => ?_)
  obtain rfl : v_5 = 2 := ev_5.trans (by decide)
  refine va_lald hx hb B.2.1 h.1 19 1 rfl rfl (vp_in_iff.mpr (by decide)) dX0_rankOf_35 ?_
  refine lv_topl (fun v_6 ev_6 => ?_)
  obtain rfl : v_6 = 0 := ev_6
  refine lv_land hx hb dX0_rankOf_36 ?_
  refine lv_topl (fun v_7 ev_7 => ?_)
  obtain rfl : v_7 = 0 := ev_7.trans (by decide)
  refine lv_iload hx hb dX0_rankOf_37 (lv_at hl 3 rfl) ?_
  refine x_cVVF (n := 3) (As := [.long 0, .long 0, .int 0]) (rest := []) B h (k234_X0_fill l D cI cJ cB cZ ad bd) ⟨⟨_, rfl⟩, by decide +kernel, Nat.le_of_ble_eq_true rfl, Nat.le_of_ble_eq_true rfl⟩ gX0_rankOf_X0_fill (show ((WX cI cJ cB cZ ad (Heights_height := fun _ => (-1)) (Heights_measuredAt := 0)) : va_W)[8]? = some (_, .inr (0, _)) from rfl) rfl rfl hl.1 rfl (Nat.le_of_ble_eq_true rfl) dX0_rankOf_39 ⟨Nat.le_of_ble_eq_true rfl, Nat.le_of_ble_eq_true rfl⟩ (fun u_8 H locs hp_8 h => ?_)
  have h : Hp D A s.heap (WX cI cJ cB cZ ad (Heights_height := fun _ => (-1)) (Heights_measuredAt := 0)) H locs := h
  refine lv_aload_n hx hb dX0_rankOf_42 rfl (lv_at hl 0 rfl) ?_
  refine x_get (ci := 0) (C := RX0) (T := TX0) (N := 4) (v := .ref (ad 11)) B h hin0 8 2 rfl rfl (by decide) (by decide +kernel) rfl dX0_rankOf_43 ?_
  refine x_cVIF (n := 0) (As := []) (rest := []) B h (k235_X5_eliminate l D cI cJ cB cZ ad bd) ⟨⟨_, rfl⟩, by decide +kernel, Nat.le_of_ble_eq_true rfl, Nat.le_of_ble_eq_true rfl⟩ gX0_rankOf_X5_eliminate (show ((WX cI cJ cB cZ ad (Heights_height := fun _ => (-1)) (Heights_measuredAt := 0)) : va_W)[11]? = some (_, .inr (5, _)) from rfl) rfl rfl hl.1 rfl (Nat.le_of_ble_eq_true rfl) dX0_rankOf_46 ⟨Nat.le_of_ble_eq_true rfl, Nat.le_of_ble_eq_true rfl⟩ (fun r_9 u_9 H locs hp_9 h => ?_)
  obtain rfl := hp_9
  have h : Hp D A s.heap (WX cI cJ cB cZ ad (Heights_height := fun _ => (-1)) (Heights_measuredAt := 0) (Matrix_minor := 1)) H locs := h
  exact x_iret (w1 := (fun _ => (WX cI cJ cB cZ ad (Heights_height := fun _ => (-1)) (Heights_measuredAt := 0) (Matrix_minor := 1)))) () B h hr rfl rfl dX0_rankOf_49
set_option maxHeartbeats 4000000 in
set_option maxRecDepth 100000 in
theorem k247_X0_rankOf (l : Launch) (D : va_G) (cI cJ cB cZ : ClassId) (ad bd : Nat → Nat) : MetI l yX0_rankOf wsX0_rankOf 2 89 0 0 D (TYS cI cJ cB cZ) (WX cI cJ cB cZ ad (Heights_height := fun _ => (-1)) (Heights_measuredAt := 0) (Matrix_minor := 1)) [.ref (ad 8), .long 0, .int 4, .int 0] (fun (r : Int32) (_ : Unit) => r = 0) (fun _ => (WX cI cJ cB cZ ad (Heights_height := fun _ => (-1)) (Heights_measuredAt := 0) (Matrix_minor := 1))) := by
  refine x_startI (ty := .int) (cc := cX0_rankOf) (by decide) rfl (Nat.le_of_ble_eq_true rfl) ?_
  intro p e s m args below meth c A ls B hr hnm h hl
  have hx := B.1.1
  have hb := B.1.2.1
  have hml := B.1.2.2.1
  have hts := B.1.2.2.2.2
  have hown : s.vm.findClass RX0 = some m.cls := B.1.2.2.2.1
  have hin0 : ∀ w ∈ u_ws RX0 TX0 4, w ∈ wsX0_rankOf := by decide +kernel
  have hin9 : ∀ w ∈ u_ws RX9 TX9 7, w ∈ wsX0_rankOf := by decide +kernel
  have hl : lv_has ls 5 [(0, .ref (ad 8)), (1, .long 0), (3, .int 4), (4, .int 0)] := hl
  refine lv_iload_n hx hb dX0_rankOf_0 rfl (lv_at hl 2 rfl) ?_
  refine lv_iconst (v := 1) hx hb dX0_rankOf_1 (by decide) ?_
  refine lv_icmp_lt (tgt := 10) hx hb dX0_rankOf_2 (by decide) (fun c_1 => absurd c_1 (by decide)) (fun c_1 => ?_)
  refine lv_iload_n hx hb dX0_rankOf_5 rfl (lv_at hl 2 rfl) ?_
  refine lv_iconst (v := 5) hx hb dX0_rankOf_6 (by decide) ?_
  refine lv_icmp_lt (tgt := 12) hx hb dX0_rankOf_7 (by decide) (fun c_2 => ?_) (fun c_2 => absurd c_2 (by decide))
  refine lv_aload_n hx hb dX0_rankOf_12 rfl (lv_at hl 0 rfl) ?_
  refine lv_lload_n hx hb dX0_rankOf_13 rfl (lv_at hl 1 rfl) ?_
  refine lv_aload_n hx hb dX0_rankOf_14 rfl (lv_at hl 0 rfl) ?_
  refine x_get (ci := 0) (C := RX0) (T := TX0) (N := 4) (v := .ref (ad 3)) B h hin0 8 0 rfl rfl (by decide) (by decide +kernel) rfl dX0_rankOf_15 ?_
  refine x_get (ci := 9) (C := RX9) (T := TX9) (N := 7) (v := .ref (ad 19)) B h hin9 3 6 rfl rfl (by decide) (by decide +kernel) rfl dX0_rankOf_18 ?_
  refine lv_iload_n hx hb dX0_rankOf_21 rfl (lv_at hl 2 rfl) ?_
  refine va_lald hx hb B.2.1 h.1 19 1 rfl rfl (vp_in_iff.mpr (by decide)) dX0_rankOf_22 ?_
  refine lv_topl (fun v_3 ev_3 => ?_)
  obtain rfl : v_3 = 0 := ev_3
  refine lv_land hx hb dX0_rankOf_23 ?_
  refine lv_topl (fun v_4 ev_4 => ?_)
  obtain rfl : v_4 = 0 := ev_4.trans (by decide)
  refine lv_lload_n hx hb dX0_rankOf_24 rfl (lv_at hl 1 rfl) ?_
  refine lv_aload_n hx hb dX0_rankOf_25 rfl (lv_at hl 0 rfl) ?_
  refine x_get (ci := 0) (C := RX0) (T := TX0) (N := 4) (v := .ref (ad 3)) B h hin0 8 0 rfl rfl (by decide) (by decide +kernel) rfl dX0_rankOf_26 ?_
  refine x_get (ci := 9) (C := RX9) (T := TX9) (N := 7) (v := .ref (ad 19)) B h hin9 3 6 rfl rfl (by decide) (by decide +kernel) rfl dX0_rankOf_29 ?_
  refine lv_iload_n hx hb dX0_rankOf_32 rfl (lv_at hl 2 rfl) ?_
  refine lv_iconst (v := 1) hx hb dX0_rankOf_33 (by decide) ?_
  refine lv_isub hx hb dX0_rankOf_34 ?_
  refine lv_topi (fun v_5 ev_5 => ?_)
  obtain rfl : v_5 = 3 := ev_5.trans (by decide)
  refine va_lald hx hb B.2.1 h.1 19 1 rfl rfl (vp_in_iff.mpr (by decide)) dX0_rankOf_35 ?_
  refine lv_topl (fun v_6 ev_6 => ?_)
  obtain rfl : v_6 = 0 := ev_6
  refine lv_land hx hb dX0_rankOf_36 ?_
  refine lv_topl (fun v_7 ev_7 => ?_)
  obtain rfl : v_7 = 0 := ev_7.trans (by decide)
  refine lv_iload hx hb dX0_rankOf_37 (lv_at hl 3 rfl) ?_
  refine x_cVVF (n := 3) (As := [.long 0, .long 0, .int 0]) (rest := []) B h (k239_X0_fill l D cI cJ cB cZ ad bd) ⟨⟨_, rfl⟩, by decide +kernel, Nat.le_of_ble_eq_true rfl, Nat.le_of_ble_eq_true rfl⟩ gX0_rankOf_X0_fill (show ((WX cI cJ cB cZ ad (Heights_height := fun _ => (-1)) (Heights_measuredAt := 0) (Matrix_minor := 1)) : va_W)[8]? = some (_, .inr (0, _)) from rfl) rfl rfl hl.1 rfl (Nat.le_of_ble_eq_true rfl) dX0_rankOf_39 ⟨Nat.le_of_ble_eq_true rfl, Nat.le_of_ble_eq_true rfl⟩ (fun u_8 H locs hp_8 h => ?_)
  have h : Hp D A s.heap (WX cI cJ cB cZ ad (Heights_height := fun _ => (-1)) (Heights_measuredAt := 0) (Matrix_minor := 1)) H locs := h
  refine lv_aload_n hx hb dX0_rankOf_42 rfl (lv_at hl 0 rfl) ?_
  refine x_get (ci := 0) (C := RX0) (T := TX0) (N := 4) (v := .ref (ad 11)) B h hin0 8 2 rfl rfl (by decide) (by decide +kernel) rfl dX0_rankOf_43 ?_
  refine x_cVIF (n := 0) (As := []) (rest := []) B h (k240_X5_eliminate l D cI cJ cB cZ ad bd) ⟨⟨_, rfl⟩, by decide +kernel, Nat.le_of_ble_eq_true rfl, Nat.le_of_ble_eq_true rfl⟩ gX0_rankOf_X5_eliminate (show ((WX cI cJ cB cZ ad (Heights_height := fun _ => (-1)) (Heights_measuredAt := 0) (Matrix_minor := 1)) : va_W)[11]? = some (_, .inr (5, _)) from rfl) rfl rfl hl.1 rfl (Nat.le_of_ble_eq_true rfl) dX0_rankOf_46 ⟨Nat.le_of_ble_eq_true rfl, Nat.le_of_ble_eq_true rfl⟩ (fun r_9 u_9 H locs hp_9 h => ?_)
  obtain rfl := hp_9
  have h : Hp D A s.heap (WX cI cJ cB cZ ad (Heights_height := fun _ => (-1)) (Heights_measuredAt := 0) (Matrix_minor := 1)) H locs := h
  exact x_iret (w1 := (fun _ => (WX cI cJ cB cZ ad (Heights_height := fun _ => (-1)) (Heights_measuredAt := 0) (Matrix_minor := 1)))) () B h hr rfl rfl dX0_rankOf_49
set_option maxHeartbeats 4000000 in
set_option maxRecDepth 100000 in
theorem k248_X0_bettiOf (l : Launch) (D : va_G) (cI cJ cB cZ : ClassId) (ad bd : Nat → Nat) : MetI l yX0_bettiOf wsX0_bettiOf 3 113 0 0 D (TYS cI cJ cB cZ) (WX cI cJ cB cZ ad (Heights_height := fun _ => (-1)) (Heights_measuredAt := 0)) [.ref (ad 8), .long 0, .int 3, .int 0] (fun (r : Int32) (_ : Unit) => r = 0) (fun _ => (WX cI cJ cB cZ ad (Heights_height := fun _ => (-1)) (Heights_measuredAt := 0) (Matrix_minor := 1))) := by
  refine x_startI (ty := .int) (cc := cX0_bettiOf) (by decide) rfl (Nat.le_of_ble_eq_true rfl) ?_
  intro p e s m args below meth c A ls B hr hnm h hl
  have hx := B.1.1
  have hb := B.1.2.1
  have hml := B.1.2.2.1
  have hts := B.1.2.2.2.2
  have hown : s.vm.findClass RX0 = some m.cls := B.1.2.2.2.1
  have hin0 : ∀ w ∈ u_ws RX0 TX0 4, w ∈ wsX0_bettiOf := by decide +kernel
  have hin9 : ∀ w ∈ u_ws RX9 TX9 7, w ∈ wsX0_bettiOf := by decide +kernel
  have hl : lv_has ls 6 [(0, .ref (ad 8)), (1, .long 0), (3, .int 3), (4, .int 0)] := hl
  refine lv_lload_n hx hb dX0_bettiOf_0 rfl (lv_at hl 1 rfl) ?_
  refine lv_aload_n hx hb dX0_bettiOf_1 rfl (lv_at hl 0 rfl) ?_
  refine x_get (ci := 0) (C := RX0) (T := TX0) (N := 4) (v := .ref (ad 3)) B h hin0 8 0 rfl rfl (by decide) (by decide +kernel) rfl dX0_bettiOf_2 ?_
  refine x_get (ci := 9) (C := RX9) (T := TX9) (N := 7) (v := .ref (ad 19)) B h hin9 3 6 rfl rfl (by decide) (by decide +kernel) rfl dX0_bettiOf_5 ?_
  refine lv_iload_n hx hb dX0_bettiOf_8 rfl (lv_at hl 2 rfl) ?_
  refine va_lald hx hb B.2.1 h.1 19 1 rfl rfl (vp_in_iff.mpr (by decide)) dX0_bettiOf_9 ?_
  refine lv_topl (fun v_1 ev_1 => ?_)
  obtain rfl : v_1 = 0 := ev_1
  refine lv_land hx hb dX0_bettiOf_10 ?_
  refine lv_topl (fun v_2 ev_2 => ?_)
  obtain rfl : v_2 = 0 := ev_2.trans (by decide)
  refine x_cSIE (n := 1) (As := [.long 0]) (rest := []) B h (k65_J13_bitCount_95d88 l D cI cJ cB cZ ad bd) ⟨⟨_, rfl⟩, by decide +kernel, Nat.le_of_ble_eq_true rfl, Nat.le_of_ble_eq_true rfl⟩ gX0_bettiOf_J13_bitCount_95d88 rfl hl.1 rfl (Nat.le_of_ble_eq_true rfl) dX0_bettiOf_11 ⟨Nat.le_of_ble_eq_true rfl, Nat.le_of_ble_eq_true rfl⟩ (fun r_3 u_3 H locs hp_3 h => ?_)
  obtain rfl := hp_3
  have h : Hp D A s.heap (WX cI cJ cB cZ ad (Heights_height := fun _ => (-1)) (Heights_measuredAt := 0)) H locs := h
  refine lv_istore (lv' := [(5, .int 0), (0, .ref (ad 8)), (1, .long 0), (3, .int 3), (4, .int 0)]) hx hb dX0_bettiOf_14 hl (by decide) rfl (fun ls hl => ?_)
  refine lv_iload hx hb dX0_bettiOf_16 (lv_at hl 0 rfl) ?_
  refine lv_aload_n hx hb dX0_bettiOf_18 rfl (lv_at hl 1 rfl) ?_
  refine lv_lload_n hx hb dX0_bettiOf_19 rfl (lv_at hl 2 rfl) ?_
  refine lv_iload_n hx hb dX0_bettiOf_20 rfl (lv_at hl 3 rfl) ?_
  refine lv_iload hx hb dX0_bettiOf_21 (lv_at hl 4 rfl) ?_
  refine x_cVIF (n := 3) (As := [.long 0, .int 3, .int 0]) (rest := [.int 0]) B h (k246_X0_rankOf l D cI cJ cB cZ ad bd) ⟨⟨_, rfl⟩, by decide +kernel, Nat.le_of_ble_eq_true rfl, Nat.le_of_ble_eq_true rfl⟩ gX0_bettiOf_X0_rankOf (show ((WX cI cJ cB cZ ad (Heights_height := fun _ => (-1)) (Heights_measuredAt := 0)) : va_W)[8]? = some (_, .inr (0, _)) from rfl) rfl rfl hl.1 rfl (Nat.le_of_ble_eq_true rfl) dX0_bettiOf_23 ⟨Nat.le_of_ble_eq_true rfl, Nat.le_of_ble_eq_true rfl⟩ (fun r_4 u_4 H locs hp_4 h => ?_)
  obtain rfl := hp_4
  have h : Hp D A s.heap (WX cI cJ cB cZ ad (Heights_height := fun _ => (-1)) (Heights_measuredAt := 0) (Matrix_minor := 1)) H locs := h
  refine lv_isub hx hb dX0_bettiOf_26 ?_
  refine lv_topi (fun v_5 ev_5 => ?_)
  obtain rfl : v_5 = 0 := ev_5.trans (by decide)
  refine lv_aload_n hx hb dX0_bettiOf_27 rfl (lv_at hl 1 rfl) ?_
  refine lv_lload_n hx hb dX0_bettiOf_28 rfl (lv_at hl 2 rfl) ?_
  refine lv_iload_n hx hb dX0_bettiOf_29 rfl (lv_at hl 3 rfl) ?_
  refine lv_iconst (v := 1) hx hb dX0_bettiOf_30 (by decide) ?_
  refine lv_iadd hx hb dX0_bettiOf_31 ?_
  refine lv_topi (fun v_6 ev_6 => ?_)
  obtain rfl : v_6 = 4 := ev_6.trans (by decide)
  refine lv_iload hx hb dX0_bettiOf_32 (lv_at hl 4 rfl) ?_
  refine x_cVIF (n := 3) (As := [.long 0, .int 4, .int 0]) (rest := [.int 0]) B h (k247_X0_rankOf l D cI cJ cB cZ ad bd) ⟨⟨_, rfl⟩, by decide +kernel, Nat.le_of_ble_eq_true rfl, Nat.le_of_ble_eq_true rfl⟩ gX0_bettiOf_X0_rankOf (show ((WX cI cJ cB cZ ad (Heights_height := fun _ => (-1)) (Heights_measuredAt := 0) (Matrix_minor := 1)) : va_W)[8]? = some (_, .inr (0, _)) from rfl) rfl rfl hl.1 rfl (Nat.le_of_ble_eq_true rfl) dX0_bettiOf_34 ⟨Nat.le_of_ble_eq_true rfl, Nat.le_of_ble_eq_true rfl⟩ (fun r_7 u_7 H locs hp_7 h => ?_)
  obtain rfl := hp_7
  have h : Hp D A s.heap (WX cI cJ cB cZ ad (Heights_height := fun _ => (-1)) (Heights_measuredAt := 0) (Matrix_minor := 1)) H locs := h
  refine lv_isub hx hb dX0_bettiOf_37 ?_
  refine lv_topi (fun v_8 ev_8 => ?_)
  obtain rfl : v_8 = 0 := ev_8.trans (by decide)
  exact x_iret (w1 := (fun _ => (WX cI cJ cB cZ ad (Heights_height := fun _ => (-1)) (Heights_measuredAt := 0) (Matrix_minor := 1)))) () B h hr rfl rfl dX0_bettiOf_38
set_option maxHeartbeats 4000000 in
set_option maxRecDepth 100000 in
theorem k249_X0_rankOf (l : Launch) (D : va_G) (cI cJ cB cZ : ClassId) (ad bd : Nat → Nat) : MetI l yX0_rankOf wsX0_rankOf 2 89 0 0 D (TYS cI cJ cB cZ) (WX cI cJ cB cZ ad (Heights_height := fun _ => (-1)) (Heights_measuredAt := 0)) [.ref (ad 8), .long 0, .int 4, .int 0] (fun (r : Int32) (_ : Unit) => r = 0) (fun _ => (WX cI cJ cB cZ ad (Heights_height := fun _ => (-1)) (Heights_measuredAt := 0) (Matrix_minor := 1))) := by
  refine x_startI (ty := .int) (cc := cX0_rankOf) (by decide) rfl (Nat.le_of_ble_eq_true rfl) ?_
  intro p e s m args below meth c A ls B hr hnm h hl
  have hx := B.1.1
  have hb := B.1.2.1
  have hml := B.1.2.2.1
  have hts := B.1.2.2.2.2
  have hown : s.vm.findClass RX0 = some m.cls := B.1.2.2.2.1
  have hin0 : ∀ w ∈ u_ws RX0 TX0 4, w ∈ wsX0_rankOf := by decide +kernel
  have hin9 : ∀ w ∈ u_ws RX9 TX9 7, w ∈ wsX0_rankOf := by decide +kernel
  have hl : lv_has ls 5 [(0, .ref (ad 8)), (1, .long 0), (3, .int 4), (4, .int 0)] := hl
  refine lv_iload_n hx hb dX0_rankOf_0 rfl (lv_at hl 2 rfl) ?_
  refine lv_iconst (v := 1) hx hb dX0_rankOf_1 (by decide) ?_
  refine lv_icmp_lt (tgt := 10) hx hb dX0_rankOf_2 (by decide) (fun c_1 => absurd c_1 (by decide)) (fun c_1 => ?_)
  refine lv_iload_n hx hb dX0_rankOf_5 rfl (lv_at hl 2 rfl) ?_
  refine lv_iconst (v := 5) hx hb dX0_rankOf_6 (by decide) ?_
  refine lv_icmp_lt (tgt := 12) hx hb dX0_rankOf_7 (by decide) (fun c_2 => ?_) (fun c_2 => absurd c_2 (by decide))
  refine lv_aload_n hx hb dX0_rankOf_12 rfl (lv_at hl 0 rfl) ?_
  refine lv_lload_n hx hb dX0_rankOf_13 rfl (lv_at hl 1 rfl) ?_
  refine lv_aload_n hx hb dX0_rankOf_14 rfl (lv_at hl 0 rfl) ?_
  refine x_get (ci := 0) (C := RX0) (T := TX0) (N := 4) (v := .ref (ad 3)) B h hin0 8 0 rfl rfl (by decide) (by decide +kernel) rfl dX0_rankOf_15 ?_
  refine x_get (ci := 9) (C := RX9) (T := TX9) (N := 7) (v := .ref (ad 19)) B h hin9 3 6 rfl rfl (by decide) (by decide +kernel) rfl dX0_rankOf_18 ?_
  refine lv_iload_n hx hb dX0_rankOf_21 rfl (lv_at hl 2 rfl) ?_
  refine va_lald hx hb B.2.1 h.1 19 1 rfl rfl (vp_in_iff.mpr (by decide)) dX0_rankOf_22 ?_
  refine lv_topl (fun v_3 ev_3 => ?_)
  obtain rfl : v_3 = 0 := ev_3
  refine lv_land hx hb dX0_rankOf_23 ?_
  refine lv_topl (fun v_4 ev_4 => ?_)
  obtain rfl : v_4 = 0 := ev_4.trans (by decide)
  refine lv_lload_n hx hb dX0_rankOf_24 rfl (lv_at hl 1 rfl) ?_
  refine lv_aload_n hx hb dX0_rankOf_25 rfl (lv_at hl 0 rfl) ?_
  refine x_get (ci := 0) (C := RX0) (T := TX0) (N := 4) (v := .ref (ad 3)) B h hin0 8 0 rfl rfl (by decide) (by decide +kernel) rfl dX0_rankOf_26 ?_
  refine x_get (ci := 9) (C := RX9) (T := TX9) (N := 7) (v := .ref (ad 19)) B h hin9 3 6 rfl rfl (by decide) (by decide +kernel) rfl dX0_rankOf_29 ?_
  refine lv_iload_n hx hb dX0_rankOf_32 rfl (lv_at hl 2 rfl) ?_
  refine lv_iconst (v := 1) hx hb dX0_rankOf_33 (by decide) ?_
  refine lv_isub hx hb dX0_rankOf_34 ?_
  refine lv_topi (fun v_5 ev_5 => ?_)
  obtain rfl : v_5 = 3 := ev_5.trans (by decide)
  refine va_lald hx hb B.2.1 h.1 19 1 rfl rfl (vp_in_iff.mpr (by decide)) dX0_rankOf_35 ?_
  refine lv_topl (fun v_6 ev_6 => ?_)
  obtain rfl : v_6 = 0 := ev_6
  refine lv_land hx hb dX0_rankOf_36 ?_
  refine lv_topl (fun v_7 ev_7 => ?_)
  obtain rfl : v_7 = 0 := ev_7.trans (by decide)
  refine lv_iload hx hb dX0_rankOf_37 (lv_at hl 3 rfl) ?_
  refine x_cVVF (n := 3) (As := [.long 0, .long 0, .int 0]) (rest := []) B h (k234_X0_fill l D cI cJ cB cZ ad bd) ⟨⟨_, rfl⟩, by decide +kernel, Nat.le_of_ble_eq_true rfl, Nat.le_of_ble_eq_true rfl⟩ gX0_rankOf_X0_fill (show ((WX cI cJ cB cZ ad (Heights_height := fun _ => (-1)) (Heights_measuredAt := 0)) : va_W)[8]? = some (_, .inr (0, _)) from rfl) rfl rfl hl.1 rfl (Nat.le_of_ble_eq_true rfl) dX0_rankOf_39 ⟨Nat.le_of_ble_eq_true rfl, Nat.le_of_ble_eq_true rfl⟩ (fun u_8 H locs hp_8 h => ?_)
  have h : Hp D A s.heap (WX cI cJ cB cZ ad (Heights_height := fun _ => (-1)) (Heights_measuredAt := 0)) H locs := h
  refine lv_aload_n hx hb dX0_rankOf_42 rfl (lv_at hl 0 rfl) ?_
  refine x_get (ci := 0) (C := RX0) (T := TX0) (N := 4) (v := .ref (ad 11)) B h hin0 8 2 rfl rfl (by decide) (by decide +kernel) rfl dX0_rankOf_43 ?_
  refine x_cVIF (n := 0) (As := []) (rest := []) B h (k235_X5_eliminate l D cI cJ cB cZ ad bd) ⟨⟨_, rfl⟩, by decide +kernel, Nat.le_of_ble_eq_true rfl, Nat.le_of_ble_eq_true rfl⟩ gX0_rankOf_X5_eliminate (show ((WX cI cJ cB cZ ad (Heights_height := fun _ => (-1)) (Heights_measuredAt := 0)) : va_W)[11]? = some (_, .inr (5, _)) from rfl) rfl rfl hl.1 rfl (Nat.le_of_ble_eq_true rfl) dX0_rankOf_46 ⟨Nat.le_of_ble_eq_true rfl, Nat.le_of_ble_eq_true rfl⟩ (fun r_9 u_9 H locs hp_9 h => ?_)
  obtain rfl := hp_9
  have h : Hp D A s.heap (WX cI cJ cB cZ ad (Heights_height := fun _ => (-1)) (Heights_measuredAt := 0) (Matrix_minor := 1)) H locs := h
  exact x_iret (w1 := (fun _ => (WX cI cJ cB cZ ad (Heights_height := fun _ => (-1)) (Heights_measuredAt := 0) (Matrix_minor := 1)))) () B h hr rfl rfl dX0_rankOf_49
set_option maxHeartbeats 4000000 in
set_option maxRecDepth 100000 in
theorem k250_X0_rankOf (l : Launch) (D : va_G) (cI cJ cB cZ : ClassId) (ad bd : Nat → Nat) : MetI l yX0_rankOf wsX0_rankOf 0 0 0 0 D (TYS cI cJ cB cZ) (WX cI cJ cB cZ ad (Heights_height := fun _ => (-1)) (Heights_measuredAt := 0) (Matrix_minor := 1)) [.ref (ad 8), .long 0, .int 5, .int 0] (fun (r : Int32) (_ : Unit) => r = 0) (fun _ => (WX cI cJ cB cZ ad (Heights_height := fun _ => (-1)) (Heights_measuredAt := 0) (Matrix_minor := 1))) := by
  refine x_startI (ty := .int) (cc := cX0_rankOf) (by decide) rfl (Nat.le_of_ble_eq_true rfl) ?_
  intro p e s m args below meth c A ls B hr hnm h hl
  have hx := B.1.1
  have hb := B.1.2.1
  have hml := B.1.2.2.1
  have hts := B.1.2.2.2.2
  have hown : s.vm.findClass RX0 = some m.cls := B.1.2.2.2.1
  have hl : lv_has ls 5 [(0, .ref (ad 8)), (1, .long 0), (3, .int 5), (4, .int 0)] := hl
  refine lv_iload_n hx hb dX0_rankOf_0 rfl (lv_at hl 2 rfl) ?_
  refine lv_iconst (v := 1) hx hb dX0_rankOf_1 (by decide) ?_
  refine lv_icmp_lt (tgt := 10) hx hb dX0_rankOf_2 (by decide) (fun c_1 => absurd c_1 (by decide)) (fun c_1 => ?_)
  refine lv_iload_n hx hb dX0_rankOf_5 rfl (lv_at hl 2 rfl) ?_
  refine lv_iconst (v := 5) hx hb dX0_rankOf_6 (by decide) ?_
  refine lv_icmp_lt (tgt := 12) hx hb dX0_rankOf_7 (by decide) (fun c_2 => absurd c_2 (by decide)) (fun c_2 => ?_)
  refine lv_iconst (v := 0) hx hb dX0_rankOf_10 (by decide) ?_
  exact x_iret (w1 := (fun _ => (WX cI cJ cB cZ ad (Heights_height := fun _ => (-1)) (Heights_measuredAt := 0) (Matrix_minor := 1)))) () B h hr rfl rfl dX0_rankOf_11
set_option maxHeartbeats 4000000 in
set_option maxRecDepth 100000 in
theorem k251_X0_bettiOf (l : Launch) (D : va_G) (cI cJ cB cZ : ClassId) (ad bd : Nat → Nat) : MetI l yX0_bettiOf wsX0_bettiOf 3 113 0 0 D (TYS cI cJ cB cZ) (WX cI cJ cB cZ ad (Heights_height := fun _ => (-1)) (Heights_measuredAt := 0)) [.ref (ad 8), .long 0, .int 4, .int 0] (fun (r : Int32) (_ : Unit) => r = 0) (fun _ => (WX cI cJ cB cZ ad (Heights_height := fun _ => (-1)) (Heights_measuredAt := 0) (Matrix_minor := 1))) := by
  refine x_startI (ty := .int) (cc := cX0_bettiOf) (by decide) rfl (Nat.le_of_ble_eq_true rfl) ?_
  intro p e s m args below meth c A ls B hr hnm h hl
  have hx := B.1.1
  have hb := B.1.2.1
  have hml := B.1.2.2.1
  have hts := B.1.2.2.2.2
  have hown : s.vm.findClass RX0 = some m.cls := B.1.2.2.2.1
  have hin0 : ∀ w ∈ u_ws RX0 TX0 4, w ∈ wsX0_bettiOf := by decide +kernel
  have hin9 : ∀ w ∈ u_ws RX9 TX9 7, w ∈ wsX0_bettiOf := by decide +kernel
  have hl : lv_has ls 6 [(0, .ref (ad 8)), (1, .long 0), (3, .int 4), (4, .int 0)] := hl
  refine lv_lload_n hx hb dX0_bettiOf_0 rfl (lv_at hl 1 rfl) ?_
  refine lv_aload_n hx hb dX0_bettiOf_1 rfl (lv_at hl 0 rfl) ?_
  refine x_get (ci := 0) (C := RX0) (T := TX0) (N := 4) (v := .ref (ad 3)) B h hin0 8 0 rfl rfl (by decide) (by decide +kernel) rfl dX0_bettiOf_2 ?_
  refine x_get (ci := 9) (C := RX9) (T := TX9) (N := 7) (v := .ref (ad 19)) B h hin9 3 6 rfl rfl (by decide) (by decide +kernel) rfl dX0_bettiOf_5 ?_
  refine lv_iload_n hx hb dX0_bettiOf_8 rfl (lv_at hl 2 rfl) ?_
  refine va_lald hx hb B.2.1 h.1 19 1 rfl rfl (vp_in_iff.mpr (by decide)) dX0_bettiOf_9 ?_
  refine lv_topl (fun v_1 ev_1 => ?_)
  obtain rfl : v_1 = 0 := ev_1
  refine lv_land hx hb dX0_bettiOf_10 ?_
  refine lv_topl (fun v_2 ev_2 => ?_)
  obtain rfl : v_2 = 0 := ev_2.trans (by decide)
  refine x_cSIE (n := 1) (As := [.long 0]) (rest := []) B h (k65_J13_bitCount_95d88 l D cI cJ cB cZ ad bd) ⟨⟨_, rfl⟩, by decide +kernel, Nat.le_of_ble_eq_true rfl, Nat.le_of_ble_eq_true rfl⟩ gX0_bettiOf_J13_bitCount_95d88 rfl hl.1 rfl (Nat.le_of_ble_eq_true rfl) dX0_bettiOf_11 ⟨Nat.le_of_ble_eq_true rfl, Nat.le_of_ble_eq_true rfl⟩ (fun r_3 u_3 H locs hp_3 h => ?_)
  obtain rfl := hp_3
  have h : Hp D A s.heap (WX cI cJ cB cZ ad (Heights_height := fun _ => (-1)) (Heights_measuredAt := 0)) H locs := h
  refine lv_istore (lv' := [(5, .int 0), (0, .ref (ad 8)), (1, .long 0), (3, .int 4), (4, .int 0)]) hx hb dX0_bettiOf_14 hl (by decide) rfl (fun ls hl => ?_)
  refine lv_iload hx hb dX0_bettiOf_16 (lv_at hl 0 rfl) ?_
  refine lv_aload_n hx hb dX0_bettiOf_18 rfl (lv_at hl 1 rfl) ?_
  refine lv_lload_n hx hb dX0_bettiOf_19 rfl (lv_at hl 2 rfl) ?_
  refine lv_iload_n hx hb dX0_bettiOf_20 rfl (lv_at hl 3 rfl) ?_
  refine lv_iload hx hb dX0_bettiOf_21 (lv_at hl 4 rfl) ?_
  refine x_cVIF (n := 3) (As := [.long 0, .int 4, .int 0]) (rest := [.int 0]) B h (k249_X0_rankOf l D cI cJ cB cZ ad bd) ⟨⟨_, rfl⟩, by decide +kernel, Nat.le_of_ble_eq_true rfl, Nat.le_of_ble_eq_true rfl⟩ gX0_bettiOf_X0_rankOf (show ((WX cI cJ cB cZ ad (Heights_height := fun _ => (-1)) (Heights_measuredAt := 0)) : va_W)[8]? = some (_, .inr (0, _)) from rfl) rfl rfl hl.1 rfl (Nat.le_of_ble_eq_true rfl) dX0_bettiOf_23 ⟨Nat.le_of_ble_eq_true rfl, Nat.le_of_ble_eq_true rfl⟩ (fun r_4 u_4 H locs hp_4 h => ?_)
  obtain rfl := hp_4
  have h : Hp D A s.heap (WX cI cJ cB cZ ad (Heights_height := fun _ => (-1)) (Heights_measuredAt := 0) (Matrix_minor := 1)) H locs := h
  refine lv_isub hx hb dX0_bettiOf_26 ?_
  refine lv_topi (fun v_5 ev_5 => ?_)
  obtain rfl : v_5 = 0 := ev_5.trans (by decide)
  refine lv_aload_n hx hb dX0_bettiOf_27 rfl (lv_at hl 1 rfl) ?_
  refine lv_lload_n hx hb dX0_bettiOf_28 rfl (lv_at hl 2 rfl) ?_
  refine lv_iload_n hx hb dX0_bettiOf_29 rfl (lv_at hl 3 rfl) ?_
  refine lv_iconst (v := 1) hx hb dX0_bettiOf_30 (by decide) ?_
  refine lv_iadd hx hb dX0_bettiOf_31 ?_
  refine lv_topi (fun v_6 ev_6 => ?_)
  obtain rfl : v_6 = 5 := ev_6.trans (by decide)
  refine lv_iload hx hb dX0_bettiOf_32 (lv_at hl 4 rfl) ?_
  refine x_cVIF (n := 3) (As := [.long 0, .int 5, .int 0]) (rest := [.int 0]) B h (k250_X0_rankOf l D cI cJ cB cZ ad bd) ⟨⟨_, rfl⟩, by decide +kernel, Nat.le_of_ble_eq_true rfl, Nat.le_of_ble_eq_true rfl⟩ gX0_bettiOf_X0_rankOf (show ((WX cI cJ cB cZ ad (Heights_height := fun _ => (-1)) (Heights_measuredAt := 0) (Matrix_minor := 1)) : va_W)[8]? = some (_, .inr (0, _)) from rfl) rfl rfl hl.1 rfl (Nat.le_of_ble_eq_true rfl) dX0_bettiOf_34 ⟨Nat.le_of_ble_eq_true rfl, Nat.le_of_ble_eq_true rfl⟩ (fun r_7 u_7 H locs hp_7 h => ?_)
  obtain rfl := hp_7
  have h : Hp D A s.heap (WX cI cJ cB cZ ad (Heights_height := fun _ => (-1)) (Heights_measuredAt := 0) (Matrix_minor := 1)) H locs := h
  refine lv_isub hx hb dX0_bettiOf_37 ?_
  refine lv_topi (fun v_8 ev_8 => ?_)
  obtain rfl : v_8 = 0 := ev_8.trans (by decide)
  exact x_iret (w1 := (fun _ => (WX cI cJ cB cZ ad (Heights_height := fun _ => (-1)) (Heights_measuredAt := 0) (Matrix_minor := 1)))) () B h hr rfl rfl dX0_bettiOf_38
set_option maxHeartbeats 4000000 in
set_option maxRecDepth 100000 in
theorem k252_X11_levelBetti (l : Launch) (D : va_G) (cI cJ cB cZ : ClassId) (ad bd : Nat → Nat) (p1 : Int32) (p2 : Int32) : MetI l yX11_levelBetti wsX11_levelBetti 4 138 0 0 D (TYS cI cJ cB cZ) (WX cI cJ cB cZ ad) [.ref (ad 0), .int p1, .int p2] (fun (r : Int32) (u : Nat) => (u = 0 ∧ (p1 < 0) ∧ r = (-1)) ∨ (u = 1 ∧ (¬ p1 < 0) ∧ (p2 < 0) ∧ r = (-1)) ∨ (u = 2 ∧ (¬ p1 < 0) ∧ (¬ p2 < 0) ∧ (5 ≤ p2) ∧ r = (-1)) ∨ (u = 3 ∧ (¬ p1 < 0) ∧ p2 = 0 ∧ r = 0) ∨ (u = 4 ∧ (¬ p1 < 0) ∧ p2 = 1 ∧ r = 0) ∨ (u = 5 ∧ (¬ p1 < 0) ∧ p2 = 2 ∧ r = 0) ∨ (u = 6 ∧ (¬ p1 < 0) ∧ p2 = 3 ∧ r = 0) ∨ (u = 7 ∧ (¬ p1 < 0) ∧ p2 = 4 ∧ r = 0)) (fun u : Nat => match u with | 0 => (WX cI cJ cB cZ ad) | 1 => (WX cI cJ cB cZ ad) | 2 => (WX cI cJ cB cZ ad) | 3 => (WX cI cJ cB cZ ad (Heights_height := fun _ => (-1)) (Heights_measuredAt := 0) (Matrix_minor := 1)) | 4 => (WX cI cJ cB cZ ad (Heights_height := fun _ => (-1)) (Heights_measuredAt := 0) (Matrix_minor := 1)) | 5 => (WX cI cJ cB cZ ad (Heights_height := fun _ => (-1)) (Heights_measuredAt := 0) (Matrix_minor := 1)) | 6 => (WX cI cJ cB cZ ad (Heights_height := fun _ => (-1)) (Heights_measuredAt := 0) (Matrix_minor := 1)) | _ => (WX cI cJ cB cZ ad (Heights_height := fun _ => (-1)) (Heights_measuredAt := 0) (Matrix_minor := 1))) := by
  refine x_startI (ty := .int) (cc := cX11_levelBetti) (by decide) rfl (Nat.le_of_ble_eq_true rfl) ?_
  intro p e s m args below meth c A ls B hr hnm h hl
  have hx := B.1.1
  have hb := B.1.2.1
  have hml := B.1.2.2.1
  have hts := B.1.2.2.2.2
  have hown : s.vm.findClass RX11 = some m.cls := B.1.2.2.2.1
  have hin11 : ∀ w ∈ u_ws RX11 TX11 11, w ∈ wsX11_levelBetti := by decide +kernel
  have hl : lv_has ls 3 [(0, .ref (ad 0)), (1, .int p1), (2, .int p2)] := hl
  refine lv_iload_n hx hb dX11_levelBetti_0 rfl (lv_at hl 1 rfl) ?_
  refine lv_if_lt (tgt := 11) hx hb dX11_levelBetti_1 (by decide) (fun c_1 => ?_) (fun c_1 => ?_)
  · skip
    refine lv_iconst (v := (-1)) hx hb dX11_levelBetti_11 (by decide) ?_
    exact x_iret (w1 := (fun u : Nat => match u with | 0 => (WX cI cJ cB cZ ad) | 1 => (WX cI cJ cB cZ ad) | 2 => (WX cI cJ cB cZ ad) | 3 => (WX cI cJ cB cZ ad (Heights_height := fun _ => (-1)) (Heights_measuredAt := 0) (Matrix_minor := 1)) | 4 => (WX cI cJ cB cZ ad (Heights_height := fun _ => (-1)) (Heights_measuredAt := 0) (Matrix_minor := 1)) | 5 => (WX cI cJ cB cZ ad (Heights_height := fun _ => (-1)) (Heights_measuredAt := 0) (Matrix_minor := 1)) | 6 => (WX cI cJ cB cZ ad (Heights_height := fun _ => (-1)) (Heights_measuredAt := 0) (Matrix_minor := 1)) | _ => (WX cI cJ cB cZ ad (Heights_height := fun _ => (-1)) (Heights_measuredAt := 0) (Matrix_minor := 1)))) 0 B h hr rfl (Or.inl ⟨rfl, c_1, rfl⟩) dX11_levelBetti_12
  · skip
    refine lv_iload_n hx hb dX11_levelBetti_4 rfl (lv_at hl 2 rfl) ?_
    refine x_cSIE (n := 1) (As := [.int p2]) (rest := []) B h (k63_X11_isDim l D cI cJ cB cZ ad bd p2) ⟨⟨_, rfl⟩, by decide +kernel, Nat.le_of_ble_eq_true rfl, Nat.le_of_ble_eq_true rfl⟩ gX11_levelBetti_X11_isDim rfl hl.1 rfl (Nat.le_of_ble_eq_true rfl) dX11_levelBetti_5 ⟨Nat.le_of_ble_eq_true rfl, Nat.le_of_ble_eq_true rfl⟩ (fun r_2 u_2 H locs hp_2 h => ?_)
    rcases hp_2 with ⟨rfl, k_2_0, rfl⟩ | ⟨rfl, k_2_0, k_2_1, rfl⟩ | ⟨rfl, k_2_0, k_2_1, rfl⟩
    · skip
      have h : Hp D A s.heap (WX cI cJ cB cZ ad) H locs := h
      refine lv_if_ne (tgt := 13) hx hb dX11_levelBetti_8 (by decide) (fun c_3 => absurd c_3 (by decide)) (fun c_3 => ?_)
      refine lv_iconst (v := (-1)) hx hb dX11_levelBetti_11 (by decide) ?_
      exact x_iret (w1 := (fun u : Nat => match u with | 0 => (WX cI cJ cB cZ ad) | 1 => (WX cI cJ cB cZ ad) | 2 => (WX cI cJ cB cZ ad) | 3 => (WX cI cJ cB cZ ad (Heights_height := fun _ => (-1)) (Heights_measuredAt := 0) (Matrix_minor := 1)) | 4 => (WX cI cJ cB cZ ad (Heights_height := fun _ => (-1)) (Heights_measuredAt := 0) (Matrix_minor := 1)) | 5 => (WX cI cJ cB cZ ad (Heights_height := fun _ => (-1)) (Heights_measuredAt := 0) (Matrix_minor := 1)) | 6 => (WX cI cJ cB cZ ad (Heights_height := fun _ => (-1)) (Heights_measuredAt := 0) (Matrix_minor := 1)) | _ => (WX cI cJ cB cZ ad (Heights_height := fun _ => (-1)) (Heights_measuredAt := 0) (Matrix_minor := 1)))) 1 B h hr rfl (Or.inr (Or.inl ⟨rfl, c_1, k_2_0, rfl⟩)) dX11_levelBetti_12
    · skip
      have h : Hp D A s.heap (WX cI cJ cB cZ ad) H locs := h
      refine lv_if_ne (tgt := 13) hx hb dX11_levelBetti_8 (by decide) (fun c_4 => absurd c_4 (by decide)) (fun c_4 => ?_)
      refine lv_iconst (v := (-1)) hx hb dX11_levelBetti_11 (by decide) ?_
      exact x_iret (w1 := (fun u : Nat => match u with | 0 => (WX cI cJ cB cZ ad) | 1 => (WX cI cJ cB cZ ad) | 2 => (WX cI cJ cB cZ ad) | 3 => (WX cI cJ cB cZ ad (Heights_height := fun _ => (-1)) (Heights_measuredAt := 0) (Matrix_minor := 1)) | 4 => (WX cI cJ cB cZ ad (Heights_height := fun _ => (-1)) (Heights_measuredAt := 0) (Matrix_minor := 1)) | 5 => (WX cI cJ cB cZ ad (Heights_height := fun _ => (-1)) (Heights_measuredAt := 0) (Matrix_minor := 1)) | 6 => (WX cI cJ cB cZ ad (Heights_height := fun _ => (-1)) (Heights_measuredAt := 0) (Matrix_minor := 1)) | _ => (WX cI cJ cB cZ ad (Heights_height := fun _ => (-1)) (Heights_measuredAt := 0) (Matrix_minor := 1)))) 2 B h hr rfl (Or.inr (Or.inr (Or.inl ⟨rfl, c_1, k_2_0, k_2_1, rfl⟩))) dX11_levelBetti_12
    · skip
      have h : Hp D A s.heap (WX cI cJ cB cZ ad) H locs := h
      refine lv_if_ne (tgt := 13) hx hb dX11_levelBetti_8 (by decide) (fun c_5 => ?_) (fun c_5 => absurd c_5 (by decide))
      refine lv_aload_n hx hb dX11_levelBetti_13 rfl (lv_at hl 0 rfl) ?_
      refine x_get (ci := 11) (C := RX11) (T := TX11) (N := 11) (v := .ref (ad 8)) B h hin11 0 7 rfl rfl (by decide) (by decide +kernel) rfl dX11_levelBetti_14 ?_
      refine lv_aload_n hx hb dX11_levelBetti_17 rfl (lv_at hl 0 rfl) ?_
      refine x_get (ci := 11) (C := RX11) (T := TX11) (N := 11) (v := .ref (ad 3)) B h hin11 0 2 rfl rfl (by decide) (by decide +kernel) rfl dX11_levelBetti_18 ?_
      refine lv_aload_n hx hb dX11_levelBetti_21 rfl (lv_at hl 0 rfl) ?_
      refine x_get (ci := 11) (C := RX11) (T := TX11) (N := 11) (v := .ref (ad 6)) B h hin11 0 5 rfl rfl (by decide) (by decide +kernel) rfl dX11_levelBetti_22 ?_
      refine lv_iload_n hx hb dX11_levelBetti_25 rfl (lv_at hl 1 rfl) ?_
      refine x_cVLF (n := 1) (As := [.int p1]) (rest := [.ref (ad 3), .ref (ad 8)]) B h (k226_X2_upTo l D cI cJ cB cZ ad bd p1) ⟨⟨_, rfl⟩, by decide +kernel, Nat.le_of_ble_eq_true rfl, Nat.le_of_ble_eq_true rfl⟩ gX11_levelBetti_X2_upTo (show ((WX cI cJ cB cZ ad) : va_W)[6]? = some (_, .inr (2, _)) from rfl) rfl rfl hl.1 rfl (Nat.le_of_ble_eq_true rfl) dX11_levelBetti_26 ⟨Nat.le_of_ble_eq_true rfl, Nat.le_of_ble_eq_true rfl⟩ (fun r_6 u_6 H locs hp_6 h => ?_)
      obtain rfl := hp_6
      have h : Hp D A s.heap (WX cI cJ cB cZ ad (Heights_height := fun _ => (-1)) (Heights_measuredAt := 0)) H locs := h
      refine x_cVLF (n := 1) (As := [.long 0]) (rest := [.ref (ad 8)]) B h (k231_X9_withFaces l D cI cJ cB cZ ad bd) ⟨⟨_, rfl⟩, by decide +kernel, Nat.le_of_ble_eq_true rfl, Nat.le_of_ble_eq_true rfl⟩ gX11_levelBetti_X9_withFaces (show ((WX cI cJ cB cZ ad (Heights_height := fun _ => (-1)) (Heights_measuredAt := 0)) : va_W)[3]? = some (_, .inr (9, _)) from rfl) rfl rfl hl.1 rfl (Nat.le_of_ble_eq_true rfl) dX11_levelBetti_29 ⟨Nat.le_of_ble_eq_true rfl, Nat.le_of_ble_eq_true rfl⟩ (fun r_7 u_7 H locs hp_7 h => ?_)
      obtain rfl := hp_7
      have h : Hp D A s.heap (WX cI cJ cB cZ ad (Heights_height := fun _ => (-1)) (Heights_measuredAt := 0)) H locs := h
      refine lv_iload_n hx hb dX11_levelBetti_32 rfl (lv_at hl 2 rfl) ?_
      refine lv_iconst (v := 0) hx hb dX11_levelBetti_33 (by decide) ?_
      have k_8 : p2 = 0 ∨ p2 = 1 ∨ p2 = 2 ∨ p2 = 3 ∨ p2 = 4 := by simp only [Int32.lt_iff_toInt_lt, Int32.le_iff_toInt_le, ← Int32.toInt_inj, show ((0 : Int32)).toInt = 0 from by decide, show ((1 : Int32)).toInt = 1 from by decide, show ((2 : Int32)).toInt = 2 from by decide, show ((3 : Int32)).toInt = 3 from by decide, show ((4 : Int32)).toInt = 4 from by decide, show ((5 : Int32)).toInt = 5 from by decide] at c_1 k_2_0 k_2_1 ⊢; omega
      rcases k_8 with e_8 | e_8 | e_8 | e_8 | e_8
      · skip
        obtain rfl : p2 = 0 := e_8.trans (by decide)
        refine x_cVIF (n := 3) (As := [.long 0, .int 0, .int 0]) (rest := []) B h (k237_X0_bettiOf l D cI cJ cB cZ ad bd) ⟨⟨_, rfl⟩, by decide +kernel, Nat.le_of_ble_eq_true rfl, Nat.le_of_ble_eq_true rfl⟩ gX11_levelBetti_X0_bettiOf (show ((WX cI cJ cB cZ ad (Heights_height := fun _ => (-1)) (Heights_measuredAt := 0)) : va_W)[8]? = some (_, .inr (0, _)) from rfl) rfl rfl hl.1 rfl (Nat.le_of_ble_eq_true rfl) dX11_levelBetti_34 ⟨Nat.le_of_ble_eq_true rfl, Nat.le_of_ble_eq_true rfl⟩ (fun r_9 u_9 H locs hp_9 h => ?_)
        obtain rfl := hp_9
        have h : Hp D A s.heap (WX cI cJ cB cZ ad (Heights_height := fun _ => (-1)) (Heights_measuredAt := 0) (Matrix_minor := 1)) H locs := h
        exact x_iret (w1 := (fun u : Nat => match u with | 0 => (WX cI cJ cB cZ ad) | 1 => (WX cI cJ cB cZ ad) | 2 => (WX cI cJ cB cZ ad) | 3 => (WX cI cJ cB cZ ad (Heights_height := fun _ => (-1)) (Heights_measuredAt := 0) (Matrix_minor := 1)) | 4 => (WX cI cJ cB cZ ad (Heights_height := fun _ => (-1)) (Heights_measuredAt := 0) (Matrix_minor := 1)) | 5 => (WX cI cJ cB cZ ad (Heights_height := fun _ => (-1)) (Heights_measuredAt := 0) (Matrix_minor := 1)) | 6 => (WX cI cJ cB cZ ad (Heights_height := fun _ => (-1)) (Heights_measuredAt := 0) (Matrix_minor := 1)) | _ => (WX cI cJ cB cZ ad (Heights_height := fun _ => (-1)) (Heights_measuredAt := 0) (Matrix_minor := 1)))) 3 B h hr rfl (Or.inr (Or.inr (Or.inr (Or.inl ⟨rfl, c_1, rfl, rfl⟩)))) dX11_levelBetti_37
      · skip
        obtain rfl : p2 = 1 := e_8.trans (by decide)
        refine x_cVIF (n := 3) (As := [.long 0, .int 1, .int 0]) (rest := []) B h (k242_X0_bettiOf l D cI cJ cB cZ ad bd) ⟨⟨_, rfl⟩, by decide +kernel, Nat.le_of_ble_eq_true rfl, Nat.le_of_ble_eq_true rfl⟩ gX11_levelBetti_X0_bettiOf (show ((WX cI cJ cB cZ ad (Heights_height := fun _ => (-1)) (Heights_measuredAt := 0)) : va_W)[8]? = some (_, .inr (0, _)) from rfl) rfl rfl hl.1 rfl (Nat.le_of_ble_eq_true rfl) dX11_levelBetti_34 ⟨Nat.le_of_ble_eq_true rfl, Nat.le_of_ble_eq_true rfl⟩ (fun r_10 u_10 H locs hp_10 h => ?_)
        obtain rfl := hp_10
        have h : Hp D A s.heap (WX cI cJ cB cZ ad (Heights_height := fun _ => (-1)) (Heights_measuredAt := 0) (Matrix_minor := 1)) H locs := h
        exact x_iret (w1 := (fun u : Nat => match u with | 0 => (WX cI cJ cB cZ ad) | 1 => (WX cI cJ cB cZ ad) | 2 => (WX cI cJ cB cZ ad) | 3 => (WX cI cJ cB cZ ad (Heights_height := fun _ => (-1)) (Heights_measuredAt := 0) (Matrix_minor := 1)) | 4 => (WX cI cJ cB cZ ad (Heights_height := fun _ => (-1)) (Heights_measuredAt := 0) (Matrix_minor := 1)) | 5 => (WX cI cJ cB cZ ad (Heights_height := fun _ => (-1)) (Heights_measuredAt := 0) (Matrix_minor := 1)) | 6 => (WX cI cJ cB cZ ad (Heights_height := fun _ => (-1)) (Heights_measuredAt := 0) (Matrix_minor := 1)) | _ => (WX cI cJ cB cZ ad (Heights_height := fun _ => (-1)) (Heights_measuredAt := 0) (Matrix_minor := 1)))) 4 B h hr rfl (Or.inr (Or.inr (Or.inr (Or.inr (Or.inl ⟨rfl, c_1, rfl, rfl⟩))))) dX11_levelBetti_37
      · skip
        obtain rfl : p2 = 2 := e_8.trans (by decide)
        refine x_cVIF (n := 3) (As := [.long 0, .int 2, .int 0]) (rest := []) B h (k245_X0_bettiOf l D cI cJ cB cZ ad bd) ⟨⟨_, rfl⟩, by decide +kernel, Nat.le_of_ble_eq_true rfl, Nat.le_of_ble_eq_true rfl⟩ gX11_levelBetti_X0_bettiOf (show ((WX cI cJ cB cZ ad (Heights_height := fun _ => (-1)) (Heights_measuredAt := 0)) : va_W)[8]? = some (_, .inr (0, _)) from rfl) rfl rfl hl.1 rfl (Nat.le_of_ble_eq_true rfl) dX11_levelBetti_34 ⟨Nat.le_of_ble_eq_true rfl, Nat.le_of_ble_eq_true rfl⟩ (fun r_11 u_11 H locs hp_11 h => ?_)
        obtain rfl := hp_11
        have h : Hp D A s.heap (WX cI cJ cB cZ ad (Heights_height := fun _ => (-1)) (Heights_measuredAt := 0) (Matrix_minor := 1)) H locs := h
        exact x_iret (w1 := (fun u : Nat => match u with | 0 => (WX cI cJ cB cZ ad) | 1 => (WX cI cJ cB cZ ad) | 2 => (WX cI cJ cB cZ ad) | 3 => (WX cI cJ cB cZ ad (Heights_height := fun _ => (-1)) (Heights_measuredAt := 0) (Matrix_minor := 1)) | 4 => (WX cI cJ cB cZ ad (Heights_height := fun _ => (-1)) (Heights_measuredAt := 0) (Matrix_minor := 1)) | 5 => (WX cI cJ cB cZ ad (Heights_height := fun _ => (-1)) (Heights_measuredAt := 0) (Matrix_minor := 1)) | 6 => (WX cI cJ cB cZ ad (Heights_height := fun _ => (-1)) (Heights_measuredAt := 0) (Matrix_minor := 1)) | _ => (WX cI cJ cB cZ ad (Heights_height := fun _ => (-1)) (Heights_measuredAt := 0) (Matrix_minor := 1)))) 5 B h hr rfl (Or.inr (Or.inr (Or.inr (Or.inr (Or.inr (Or.inl ⟨rfl, c_1, rfl, rfl⟩)))))) dX11_levelBetti_37
      · skip
        obtain rfl : p2 = 3 := e_8.trans (by decide)
        refine x_cVIF (n := 3) (As := [.long 0, .int 3, .int 0]) (rest := []) B h (k248_X0_bettiOf l D cI cJ cB cZ ad bd) ⟨⟨_, rfl⟩, by decide +kernel, Nat.le_of_ble_eq_true rfl, Nat.le_of_ble_eq_true rfl⟩ gX11_levelBetti_X0_bettiOf (show ((WX cI cJ cB cZ ad (Heights_height := fun _ => (-1)) (Heights_measuredAt := 0)) : va_W)[8]? = some (_, .inr (0, _)) from rfl) rfl rfl hl.1 rfl (Nat.le_of_ble_eq_true rfl) dX11_levelBetti_34 ⟨Nat.le_of_ble_eq_true rfl, Nat.le_of_ble_eq_true rfl⟩ (fun r_12 u_12 H locs hp_12 h => ?_)
        obtain rfl := hp_12
        have h : Hp D A s.heap (WX cI cJ cB cZ ad (Heights_height := fun _ => (-1)) (Heights_measuredAt := 0) (Matrix_minor := 1)) H locs := h
        exact x_iret (w1 := (fun u : Nat => match u with | 0 => (WX cI cJ cB cZ ad) | 1 => (WX cI cJ cB cZ ad) | 2 => (WX cI cJ cB cZ ad) | 3 => (WX cI cJ cB cZ ad (Heights_height := fun _ => (-1)) (Heights_measuredAt := 0) (Matrix_minor := 1)) | 4 => (WX cI cJ cB cZ ad (Heights_height := fun _ => (-1)) (Heights_measuredAt := 0) (Matrix_minor := 1)) | 5 => (WX cI cJ cB cZ ad (Heights_height := fun _ => (-1)) (Heights_measuredAt := 0) (Matrix_minor := 1)) | 6 => (WX cI cJ cB cZ ad (Heights_height := fun _ => (-1)) (Heights_measuredAt := 0) (Matrix_minor := 1)) | _ => (WX cI cJ cB cZ ad (Heights_height := fun _ => (-1)) (Heights_measuredAt := 0) (Matrix_minor := 1)))) 6 B h hr rfl (Or.inr (Or.inr (Or.inr (Or.inr (Or.inr (Or.inr (Or.inl ⟨rfl, c_1, rfl, rfl⟩))))))) dX11_levelBetti_37
      · skip
        obtain rfl : p2 = 4 := e_8.trans (by decide)
        refine x_cVIF (n := 3) (As := [.long 0, .int 4, .int 0]) (rest := []) B h (k251_X0_bettiOf l D cI cJ cB cZ ad bd) ⟨⟨_, rfl⟩, by decide +kernel, Nat.le_of_ble_eq_true rfl, Nat.le_of_ble_eq_true rfl⟩ gX11_levelBetti_X0_bettiOf (show ((WX cI cJ cB cZ ad (Heights_height := fun _ => (-1)) (Heights_measuredAt := 0)) : va_W)[8]? = some (_, .inr (0, _)) from rfl) rfl rfl hl.1 rfl (Nat.le_of_ble_eq_true rfl) dX11_levelBetti_34 ⟨Nat.le_of_ble_eq_true rfl, Nat.le_of_ble_eq_true rfl⟩ (fun r_13 u_13 H locs hp_13 h => ?_)
        obtain rfl := hp_13
        have h : Hp D A s.heap (WX cI cJ cB cZ ad (Heights_height := fun _ => (-1)) (Heights_measuredAt := 0) (Matrix_minor := 1)) H locs := h
        exact x_iret (w1 := (fun u : Nat => match u with | 0 => (WX cI cJ cB cZ ad) | 1 => (WX cI cJ cB cZ ad) | 2 => (WX cI cJ cB cZ ad) | 3 => (WX cI cJ cB cZ ad (Heights_height := fun _ => (-1)) (Heights_measuredAt := 0) (Matrix_minor := 1)) | 4 => (WX cI cJ cB cZ ad (Heights_height := fun _ => (-1)) (Heights_measuredAt := 0) (Matrix_minor := 1)) | 5 => (WX cI cJ cB cZ ad (Heights_height := fun _ => (-1)) (Heights_measuredAt := 0) (Matrix_minor := 1)) | 6 => (WX cI cJ cB cZ ad (Heights_height := fun _ => (-1)) (Heights_measuredAt := 0) (Matrix_minor := 1)) | _ => (WX cI cJ cB cZ ad (Heights_height := fun _ => (-1)) (Heights_measuredAt := 0) (Matrix_minor := 1)))) 7 B h hr rfl (Or.inr (Or.inr (Or.inr (Or.inr (Or.inr (Or.inr (Or.inr (⟨rfl, c_1, rfl, rfl⟩)))))))) dX11_levelBetti_37
set_option maxHeartbeats 4000000 in
set_option maxRecDepth 100000 in
theorem k253_X12_levelBetti (l : Launch) (D : va_G) (cI cJ cB cZ : ClassId) (ad bd : Nat → Nat) (p1 : Int32) (p2 : Int32) : MetI l yX12_levelBetti wsX12_levelBetti 4 93 0 0 D (TYS cI cJ cB cZ) (WM cI cJ cB cZ bd) [.ref (bd 0), .int p1, .int p2] (fun (r : Int32) (u : Nat) => (u = 0 ∧ (p1 < 0) ∧ r = (-1)) ∨ (u = 1 ∧ (¬ p1 < 0) ∧ (p2 < 0) ∧ r = (-1)) ∨ (u = 2 ∧ (¬ p1 < 0) ∧ (¬ p2 < 0) ∧ (4 < p2) ∧ r = (-1)) ∨ (u = 3 ∧ (¬ p1 < 0) ∧ p2 = 0 ∧ r = 0) ∨ (u = 4 ∧ (¬ p1 < 0) ∧ p2 = 1 ∧ r = 0) ∨ (u = 5 ∧ (¬ p1 < 0) ∧ p2 = 2 ∧ r = 0) ∨ (u = 6 ∧ (¬ p1 < 0) ∧ p2 = 3 ∧ r = 0) ∨ (u = 7 ∧ (¬ p1 < 0) ∧ p2 = 4 ∧ r = 0)) (fun _ => (WM cI cJ cB cZ bd)) := by
  refine x_startI (ty := .int) (cc := cX12_levelBetti) (by decide) rfl (Nat.le_of_ble_eq_true rfl) ?_
  intro p e s m args below meth c A ls B hr hnm h hl
  have hx := B.1.1
  have hb := B.1.2.1
  have hml := B.1.2.2.1
  have hts := B.1.2.2.2.2
  have hown : s.vm.findClass RX12 = some m.cls := B.1.2.2.2.1
  have hin12 : ∀ w ∈ u_ws RX12 TX12 31, w ∈ wsX12_levelBetti := by decide +kernel
  have hl : lv_has ls 6 [(0, .ref (bd 0)), (1, .int p1), (2, .int p2)] := hl
  refine lv_iload_n hx hb dX12_levelBetti_0 rfl (lv_at hl 1 rfl) ?_
  refine lv_if_lt (tgt := 13) hx hb dX12_levelBetti_1 (by decide) (fun c_1 => ?_) (fun c_1 => ?_)
  · skip
    refine lv_iconst (v := (-1)) hx hb dX12_levelBetti_13 (by decide) ?_
    exact x_iret (w1 := (fun _ => (WM cI cJ cB cZ bd))) 0 B h hr rfl (Or.inl ⟨rfl, c_1, rfl⟩) dX12_levelBetti_14
  · skip
    refine lv_iload_n hx hb dX12_levelBetti_4 rfl (lv_at hl 2 rfl) ?_
    refine lv_iconst (v := 0) hx hb dX12_levelBetti_5 (by decide) ?_
    refine lv_iconst (v := 4) hx hb dX12_levelBetti_6 (by decide) ?_
    refine x_cSIE (n := 3) (As := [.int p2, .int 0, .int 4]) (rest := []) B h (k71_X12_in l D cI cJ cB cZ ad bd p2) ⟨⟨_, rfl⟩, by decide +kernel, Nat.le_of_ble_eq_true rfl, Nat.le_of_ble_eq_true rfl⟩ gX12_levelBetti_X12_in rfl hl.1 rfl (Nat.le_of_ble_eq_true rfl) dX12_levelBetti_7 ⟨Nat.le_of_ble_eq_true rfl, Nat.le_of_ble_eq_true rfl⟩ (fun r_2 u_2 H locs hp_2 h => ?_)
    rcases hp_2 with ⟨rfl, k_2_0, rfl⟩ | ⟨rfl, k_2_0, k_2_1, rfl⟩ | ⟨rfl, k_2_0, k_2_1, rfl⟩
    · skip
      have h : Hp D A s.heap (WM cI cJ cB cZ bd) H locs := h
      refine lv_if_ne (tgt := 15) hx hb dX12_levelBetti_10 (by decide) (fun c_3 => absurd c_3 (by decide)) (fun c_3 => ?_)
      refine lv_iconst (v := (-1)) hx hb dX12_levelBetti_13 (by decide) ?_
      exact x_iret (w1 := (fun _ => (WM cI cJ cB cZ bd))) 1 B h hr rfl (Or.inr (Or.inl ⟨rfl, c_1, k_2_0, rfl⟩)) dX12_levelBetti_14
    · skip
      have h : Hp D A s.heap (WM cI cJ cB cZ bd) H locs := h
      refine lv_if_ne (tgt := 15) hx hb dX12_levelBetti_10 (by decide) (fun c_4 => absurd c_4 (by decide)) (fun c_4 => ?_)
      refine lv_iconst (v := (-1)) hx hb dX12_levelBetti_13 (by decide) ?_
      exact x_iret (w1 := (fun _ => (WM cI cJ cB cZ bd))) 2 B h hr rfl (Or.inr (Or.inr (Or.inl ⟨rfl, c_1, k_2_0, k_2_1, rfl⟩))) dX12_levelBetti_14
    · skip
      have h : Hp D A s.heap (WM cI cJ cB cZ bd) H locs := h
      refine lv_if_ne (tgt := 15) hx hb dX12_levelBetti_10 (by decide) (fun c_5 => ?_) (fun c_5 => absurd c_5 (by decide))
      refine lv_aload_n hx hb dX12_levelBetti_15 rfl (lv_at hl 0 rfl) ?_
      refine x_cVVF (n := 0) (As := []) (rest := []) B h (k229_X12_laysHeights l D cI cJ cB cZ ad bd) ⟨⟨_, rfl⟩, by decide +kernel, Nat.le_of_ble_eq_true rfl, Nat.le_of_ble_eq_true rfl⟩ gX12_levelBetti_X12_laysHeights (show ((WM cI cJ cB cZ bd) : va_W)[0]? = some (_, .inr (12, _)) from rfl) rfl rfl hl.1 rfl (Nat.le_of_ble_eq_true rfl) dX12_levelBetti_16 ⟨Nat.le_of_ble_eq_true rfl, Nat.le_of_ble_eq_true rfl⟩ (fun u_6 H locs hp_6 h => ?_)
      have h : Hp D A s.heap (WM cI cJ cB cZ bd) H locs := h
      refine lv_iconst (v := 0) hx hb dX12_levelBetti_19 (by decide) ?_
      refine lv_istore_n (lv' := [(3, .int 0), (0, .ref (bd 0)), (1, .int p1), (2, .int p2)]) hx hb dX12_levelBetti_20 rfl hl (by decide) rfl (fun ls hl => ?_)
      refine lv_iload_n hx hb dX12_levelBetti_21 rfl (lv_at hl 0 rfl) ?_
      refine lv_aload_n hx hb dX12_levelBetti_22 rfl (lv_at hl 1 rfl) ?_
      refine x_get (ci := 12) (C := RX12) (T := TX12) (N := 31) (v := .int 0) B h hin12 0 5 rfl rfl (by decide) (by decide +kernel) rfl dX12_levelBetti_23 ?_
      refine lv_icmp_ge (tgt := 139) hx hb dX12_levelBetti_26 (by decide) (fun c_7 => ?_) (fun c_7 => absurd c_7 (by decide))
      refine lv_aload_n hx hb dX12_levelBetti_139 rfl (lv_at hl 1 rfl) ?_
      refine lv_iload_n hx hb dX12_levelBetti_140 rfl (lv_at hl 3 rfl) ?_
      refine lv_iconst (v := 0) hx hb dX12_levelBetti_141 (by decide) ?_
      have k_8 : p2 = 0 ∨ p2 = 1 ∨ p2 = 2 ∨ p2 = 3 ∨ p2 = 4 := by simp only [Int32.lt_iff_toInt_lt, Int32.le_iff_toInt_le, ← Int32.toInt_inj, show ((0 : Int32)).toInt = 0 from by decide, show ((1 : Int32)).toInt = 1 from by decide, show ((2 : Int32)).toInt = 2 from by decide, show ((3 : Int32)).toInt = 3 from by decide, show ((4 : Int32)).toInt = 4 from by decide] at c_1 k_2_0 k_2_1 ⊢; omega
      rcases k_8 with e_8 | e_8 | e_8 | e_8 | e_8
      · skip
        obtain rfl : p2 = 0 := e_8.trans (by decide)
        refine x_cVIF (n := 2) (As := [.int 0, .int 0]) (rest := []) B h (k136_X12_bettiTaken l D cI cJ cB cZ ad bd) ⟨⟨_, rfl⟩, by decide +kernel, Nat.le_of_ble_eq_true rfl, Nat.le_of_ble_eq_true rfl⟩ gX12_levelBetti_X12_bettiTaken (show ((WM cI cJ cB cZ bd) : va_W)[0]? = some (_, .inr (12, _)) from rfl) rfl rfl hl.1 rfl (Nat.le_of_ble_eq_true rfl) dX12_levelBetti_142 ⟨Nat.le_of_ble_eq_true rfl, Nat.le_of_ble_eq_true rfl⟩ (fun r_9 u_9 H locs hp_9 h => ?_)
        obtain rfl := hp_9
        have h : Hp D A s.heap (WM cI cJ cB cZ bd) H locs := h
        exact x_iret (w1 := (fun _ => (WM cI cJ cB cZ bd))) 3 B h hr rfl (Or.inr (Or.inr (Or.inr (Or.inl ⟨rfl, c_1, rfl, rfl⟩)))) dX12_levelBetti_145
      · skip
        obtain rfl : p2 = 1 := e_8.trans (by decide)
        refine x_cVIF (n := 2) (As := [.int 1, .int 0]) (rest := []) B h (k141_X12_bettiTaken l D cI cJ cB cZ ad bd) ⟨⟨_, rfl⟩, by decide +kernel, Nat.le_of_ble_eq_true rfl, Nat.le_of_ble_eq_true rfl⟩ gX12_levelBetti_X12_bettiTaken (show ((WM cI cJ cB cZ bd) : va_W)[0]? = some (_, .inr (12, _)) from rfl) rfl rfl hl.1 rfl (Nat.le_of_ble_eq_true rfl) dX12_levelBetti_142 ⟨Nat.le_of_ble_eq_true rfl, Nat.le_of_ble_eq_true rfl⟩ (fun r_10 u_10 H locs hp_10 h => ?_)
        obtain rfl := hp_10
        have h : Hp D A s.heap (WM cI cJ cB cZ bd) H locs := h
        exact x_iret (w1 := (fun _ => (WM cI cJ cB cZ bd))) 4 B h hr rfl (Or.inr (Or.inr (Or.inr (Or.inr (Or.inl ⟨rfl, c_1, rfl, rfl⟩))))) dX12_levelBetti_145
      · skip
        obtain rfl : p2 = 2 := e_8.trans (by decide)
        refine x_cVIF (n := 2) (As := [.int 2, .int 0]) (rest := []) B h (k146_X12_bettiTaken l D cI cJ cB cZ ad bd) ⟨⟨_, rfl⟩, by decide +kernel, Nat.le_of_ble_eq_true rfl, Nat.le_of_ble_eq_true rfl⟩ gX12_levelBetti_X12_bettiTaken (show ((WM cI cJ cB cZ bd) : va_W)[0]? = some (_, .inr (12, _)) from rfl) rfl rfl hl.1 rfl (Nat.le_of_ble_eq_true rfl) dX12_levelBetti_142 ⟨Nat.le_of_ble_eq_true rfl, Nat.le_of_ble_eq_true rfl⟩ (fun r_11 u_11 H locs hp_11 h => ?_)
        obtain rfl := hp_11
        have h : Hp D A s.heap (WM cI cJ cB cZ bd) H locs := h
        exact x_iret (w1 := (fun _ => (WM cI cJ cB cZ bd))) 5 B h hr rfl (Or.inr (Or.inr (Or.inr (Or.inr (Or.inr (Or.inl ⟨rfl, c_1, rfl, rfl⟩)))))) dX12_levelBetti_145
      · skip
        obtain rfl : p2 = 3 := e_8.trans (by decide)
        refine x_cVIF (n := 2) (As := [.int 3, .int 0]) (rest := []) B h (k151_X12_bettiTaken l D cI cJ cB cZ ad bd) ⟨⟨_, rfl⟩, by decide +kernel, Nat.le_of_ble_eq_true rfl, Nat.le_of_ble_eq_true rfl⟩ gX12_levelBetti_X12_bettiTaken (show ((WM cI cJ cB cZ bd) : va_W)[0]? = some (_, .inr (12, _)) from rfl) rfl rfl hl.1 rfl (Nat.le_of_ble_eq_true rfl) dX12_levelBetti_142 ⟨Nat.le_of_ble_eq_true rfl, Nat.le_of_ble_eq_true rfl⟩ (fun r_12 u_12 H locs hp_12 h => ?_)
        obtain rfl := hp_12
        have h : Hp D A s.heap (WM cI cJ cB cZ bd) H locs := h
        exact x_iret (w1 := (fun _ => (WM cI cJ cB cZ bd))) 6 B h hr rfl (Or.inr (Or.inr (Or.inr (Or.inr (Or.inr (Or.inr (Or.inl ⟨rfl, c_1, rfl, rfl⟩))))))) dX12_levelBetti_145
      · skip
        obtain rfl : p2 = 4 := e_8.trans (by decide)
        refine x_cVIF (n := 2) (As := [.int 4, .int 0]) (rest := []) B h (k154_X12_bettiTaken l D cI cJ cB cZ ad bd) ⟨⟨_, rfl⟩, by decide +kernel, Nat.le_of_ble_eq_true rfl, Nat.le_of_ble_eq_true rfl⟩ gX12_levelBetti_X12_bettiTaken (show ((WM cI cJ cB cZ bd) : va_W)[0]? = some (_, .inr (12, _)) from rfl) rfl rfl hl.1 rfl (Nat.le_of_ble_eq_true rfl) dX12_levelBetti_142 ⟨Nat.le_of_ble_eq_true rfl, Nat.le_of_ble_eq_true rfl⟩ (fun r_13 u_13 H locs hp_13 h => ?_)
        obtain rfl := hp_13
        have h : Hp D A s.heap (WM cI cJ cB cZ bd) H locs := h
        exact x_iret (w1 := (fun _ => (WM cI cJ cB cZ bd))) 7 B h hr rfl (Or.inr (Or.inr (Or.inr (Or.inr (Or.inr (Or.inr (Or.inr (⟨rfl, c_1, rfl, rfl⟩)))))))) dX12_levelBetti_145
set_option maxHeartbeats 4000000 in
set_option maxRecDepth 100000 in
theorem k254_X11_keep (l : Launch) (D : va_G) (cI cJ cB cZ : ClassId) (ad bd : Nat → Nat) (p1 : Int32) : MetI l yX11_keep wsX11_keep 0 0 0 0 D (TYS cI cJ cB cZ) (WX cI cJ cB cZ ad) [.ref (ad 0), .int p1] (fun (r : Int32) (_ : Unit) => r = (-1)) (fun _ => (WX cI cJ cB cZ ad)) := by
  refine x_startI (ty := .int) (cc := cX11_keep) (by decide) rfl (Nat.le_of_ble_eq_true rfl) ?_
  intro p e s m args below meth c A ls B hr hnm h hl
  have hx := B.1.1
  have hb := B.1.2.1
  have hml := B.1.2.2.1
  have hts := B.1.2.2.2.2
  have hown : s.vm.findClass RX11 = some m.cls := B.1.2.2.2.1
  have hin9 : ∀ w ∈ u_ws RX9 TX9 7, w ∈ wsX11_keep := by decide +kernel
  have hin11 : ∀ w ∈ u_ws RX11 TX11 11, w ∈ wsX11_keep := by decide +kernel
  have hl : lv_has ls 2 [(0, .ref (ad 0)), (1, .int p1)] := hl
  refine lv_iload_n hx hb dX11_keep_0 rfl (lv_at hl 1 rfl) ?_
  refine lv_if_lt (tgt := 19) hx hb dX11_keep_1 (by decide) (fun c_1 => ?_) (fun c_1 => ?_)
  · skip
    refine lv_iconst (v := (-1)) hx hb dX11_keep_19 (by decide) ?_
    exact x_iret (w1 := (fun _ => (WX cI cJ cB cZ ad))) () B h hr rfl rfl dX11_keep_20
  · skip
    refine lv_iload_n hx hb dX11_keep_4 rfl (lv_at hl 1 rfl) ?_
    refine lv_iconst (v := 3) hx hb dX11_keep_5 (by decide) ?_
    refine lv_icmp_ge (tgt := 19) hx hb dX11_keep_6 (by decide) (fun c_2 => ?_) (fun c_2 => ?_)
    · skip
      refine lv_iconst (v := (-1)) hx hb dX11_keep_19 (by decide) ?_
      exact x_iret (w1 := (fun _ => (WX cI cJ cB cZ ad))) () B h hr rfl rfl dX11_keep_20
    · skip
      refine lv_aload_n hx hb dX11_keep_9 rfl (lv_at hl 0 rfl) ?_
      refine x_get (ci := 11) (C := RX11) (T := TX11) (N := 11) (v := .ref (ad 3)) B h hin11 0 2 rfl rfl (by decide) (by decide +kernel) rfl dX11_keep_10 ?_
      refine x_get (ci := 9) (C := RX9) (T := TX9) (N := 7) (v := .int 0) B h hin9 3 0 rfl rfl (by decide) (by decide +kernel) rfl dX11_keep_13 ?_
      refine lv_if_ne (tgt := 21) hx hb dX11_keep_16 (by decide) (fun c_3 => absurd c_3 (by decide)) (fun c_3 => ?_)
      refine lv_iconst (v := (-1)) hx hb dX11_keep_19 (by decide) ?_
      exact x_iret (w1 := (fun _ => (WX cI cJ cB cZ ad))) () B h hr rfl rfl dX11_keep_20
set_option maxHeartbeats 4000000 in
set_option maxRecDepth 100000 in
theorem k255_X12_keep (l : Launch) (D : va_G) (cI cJ cB cZ : ClassId) (ad bd : Nat → Nat) (p1 : Int32) : MetI l yX12_keep wsX12_keep 0 0 0 0 D (TYS cI cJ cB cZ) (WM cI cJ cB cZ bd) [.ref (bd 0), .int p1] (fun (r : Int32) (_ : Unit) => r = (-1)) (fun _ => (WM cI cJ cB cZ bd)) := by
  refine x_startI (ty := .int) (cc := cX12_keep) (by decide) rfl (Nat.le_of_ble_eq_true rfl) ?_
  intro p e s m args below meth c A ls B hr hnm h hl
  have hx := B.1.1
  have hb := B.1.2.1
  have hml := B.1.2.2.1
  have hts := B.1.2.2.2.2
  have hown : s.vm.findClass RX12 = some m.cls := B.1.2.2.2.1
  have hin12 : ∀ w ∈ u_ws RX12 TX12 31, w ∈ wsX12_keep := by decide +kernel
  have hl : lv_has ls 3 [(0, .ref (bd 0)), (1, .int p1)] := hl
  refine lv_aload_n hx hb dX12_keep_0 rfl (lv_at hl 0 rfl) ?_
  refine x_get (ci := 12) (C := RX12) (T := TX12) (N := 31) (v := .int 0) B h hin12 0 5 rfl rfl (by decide) (by decide +kernel) rfl dX12_keep_1 ?_
  refine lv_if_eq (tgt := 16) hx hb dX12_keep_4 (by decide) (fun c_1 => ?_) (fun c_1 => absurd c_1 (by decide))
  refine lv_iconst (v := (-1)) hx hb dX12_keep_16 (by decide) ?_
  exact x_iret (w1 := (fun _ => (WM cI cJ cB cZ bd))) () B h hr rfl rfl dX12_keep_17
set_option maxHeartbeats 4000000 in
set_option maxRecDepth 100000 in
theorem k256_X11_isIn (l : Launch) (D : va_G) (cI cJ cB cZ : ClassId) (ad bd : Nat → Nat) : MetI l yX11_isIn wsX11_isIn 0 0 0 0 D (TYS cI cJ cB cZ) [] [.long 0, .int 0] (fun (r : Int32) (_ : Unit) => r = 0) (fun _ => []) := by
  refine x_startI (ty := .boolean) (cc := cX11_isIn) (by decide) rfl (Nat.le_of_ble_eq_true rfl) ?_
  intro p e s m args below meth c A ls B hr hnm h hl
  have hx := B.1.1
  have hb := B.1.2.1
  have hml := B.1.2.2.1
  have hts := B.1.2.2.2.2
  have hown : s.vm.findClass RX11 = some m.cls := B.1.2.2.2.1
  have hl : lv_has ls 3 [(0, .long 0), (2, .int 0)] := hl
  refine lv_lload_n hx hb dX11_isIn_0 rfl (lv_at hl 0 rfl) ?_
  refine lv_iload_n hx hb dX11_isIn_1 rfl (lv_at hl 1 rfl) ?_
  refine lv_lushr (v := 0) hx hb dX11_isIn_2 (by decide) ?_
  refine lv_lconst (v := 1) hx hb dX11_isIn_3 (by decide) ?_
  refine lv_land hx hb dX11_isIn_4 ?_
  refine lv_topl (fun v_1 ev_1 => ?_)
  obtain rfl : v_1 = 0 := ev_1.trans (by decide)
  refine lv_lconst (v := 0) hx hb dX11_isIn_5 (by decide) ?_
  refine W.lcmp hx hb dX11_isIn_6 ?_
  refine lv_topi (fun v_2 ev_2 => ?_)
  obtain rfl : v_2 = 0 := ev_2.trans (by decide)
  refine lv_if_eq (tgt := 14) hx hb dX11_isIn_7 (by decide) (fun c_3 => ?_) (fun c_3 => absurd c_3 (by decide))
  refine lv_iconst (v := 0) hx hb dX11_isIn_14 (by decide) ?_
  exact x_iret (w1 := (fun _ => [])) () B h hr rfl rfl dX11_isIn_15
set_option maxHeartbeats 4000000 in
set_option maxRecDepth 100000 in
theorem k257_X11_isIn (l : Launch) (D : va_G) (cI cJ cB cZ : ClassId) (ad bd : Nat → Nat) : MetI l yX11_isIn wsX11_isIn 0 0 0 0 D (TYS cI cJ cB cZ) [] [.long 0, .int 1] (fun (r : Int32) (_ : Unit) => r = 0) (fun _ => []) := by
  refine x_startI (ty := .boolean) (cc := cX11_isIn) (by decide) rfl (Nat.le_of_ble_eq_true rfl) ?_
  intro p e s m args below meth c A ls B hr hnm h hl
  have hx := B.1.1
  have hb := B.1.2.1
  have hml := B.1.2.2.1
  have hts := B.1.2.2.2.2
  have hown : s.vm.findClass RX11 = some m.cls := B.1.2.2.2.1
  have hl : lv_has ls 3 [(0, .long 0), (2, .int 1)] := hl
  refine lv_lload_n hx hb dX11_isIn_0 rfl (lv_at hl 0 rfl) ?_
  refine lv_iload_n hx hb dX11_isIn_1 rfl (lv_at hl 1 rfl) ?_
  refine lv_lushr (v := 0) hx hb dX11_isIn_2 (by decide) ?_
  refine lv_lconst (v := 1) hx hb dX11_isIn_3 (by decide) ?_
  refine lv_land hx hb dX11_isIn_4 ?_
  refine lv_topl (fun v_1 ev_1 => ?_)
  obtain rfl : v_1 = 0 := ev_1.trans (by decide)
  refine lv_lconst (v := 0) hx hb dX11_isIn_5 (by decide) ?_
  refine W.lcmp hx hb dX11_isIn_6 ?_
  refine lv_topi (fun v_2 ev_2 => ?_)
  obtain rfl : v_2 = 0 := ev_2.trans (by decide)
  refine lv_if_eq (tgt := 14) hx hb dX11_isIn_7 (by decide) (fun c_3 => ?_) (fun c_3 => absurd c_3 (by decide))
  refine lv_iconst (v := 0) hx hb dX11_isIn_14 (by decide) ?_
  exact x_iret (w1 := (fun _ => [])) () B h hr rfl rfl dX11_isIn_15
set_option maxHeartbeats 4000000 in
set_option maxRecDepth 100000 in
theorem k258_X11_isIn (l : Launch) (D : va_G) (cI cJ cB cZ : ClassId) (ad bd : Nat → Nat) : MetI l yX11_isIn wsX11_isIn 0 0 0 0 D (TYS cI cJ cB cZ) [] [.long 0, .int 2] (fun (r : Int32) (_ : Unit) => r = 0) (fun _ => []) := by
  refine x_startI (ty := .boolean) (cc := cX11_isIn) (by decide) rfl (Nat.le_of_ble_eq_true rfl) ?_
  intro p e s m args below meth c A ls B hr hnm h hl
  have hx := B.1.1
  have hb := B.1.2.1
  have hml := B.1.2.2.1
  have hts := B.1.2.2.2.2
  have hown : s.vm.findClass RX11 = some m.cls := B.1.2.2.2.1
  have hl : lv_has ls 3 [(0, .long 0), (2, .int 2)] := hl
  refine lv_lload_n hx hb dX11_isIn_0 rfl (lv_at hl 0 rfl) ?_
  refine lv_iload_n hx hb dX11_isIn_1 rfl (lv_at hl 1 rfl) ?_
  refine lv_lushr (v := 0) hx hb dX11_isIn_2 (by decide) ?_
  refine lv_lconst (v := 1) hx hb dX11_isIn_3 (by decide) ?_
  refine lv_land hx hb dX11_isIn_4 ?_
  refine lv_topl (fun v_1 ev_1 => ?_)
  obtain rfl : v_1 = 0 := ev_1.trans (by decide)
  refine lv_lconst (v := 0) hx hb dX11_isIn_5 (by decide) ?_
  refine W.lcmp hx hb dX11_isIn_6 ?_
  refine lv_topi (fun v_2 ev_2 => ?_)
  obtain rfl : v_2 = 0 := ev_2.trans (by decide)
  refine lv_if_eq (tgt := 14) hx hb dX11_isIn_7 (by decide) (fun c_3 => ?_) (fun c_3 => absurd c_3 (by decide))
  refine lv_iconst (v := 0) hx hb dX11_isIn_14 (by decide) ?_
  exact x_iret (w1 := (fun _ => [])) () B h hr rfl rfl dX11_isIn_15
set_option maxHeartbeats 4000000 in
set_option maxRecDepth 100000 in
theorem k259_X11_same (l : Launch) (D : va_G) (cI cJ cB cZ : ClassId) (ad bd : Nat → Nat) (p1 : Int32) : MetI l yX11_same wsX11_same 1 22 0 0 D (TYS cI cJ cB cZ) (WX cI cJ cB cZ ad) [.ref (ad 0), .int p1] (fun (r : Int32) (u : Nat) => (u = 0 ∧ (p1 < 0) ∧ r = (-1)) ∨ (u = 1 ∧ p1 = 0 ∧ r = (-2)) ∨ (u = 2 ∧ p1 = 1 ∧ r = (-2)) ∨ (u = 3 ∧ p1 = 2 ∧ r = (-2)) ∨ (u = 4 ∧ (¬ p1 < 0) ∧ (¬ p1 < 3) ∧ r = (-1))) (fun _ => (WX cI cJ cB cZ ad)) := by
  refine x_startI (ty := .int) (cc := cX11_same) (by decide) rfl (Nat.le_of_ble_eq_true rfl) ?_
  intro p e s m args below meth c A ls B hr hnm h hl
  have hx := B.1.1
  have hb := B.1.2.1
  have hml := B.1.2.2.1
  have hts := B.1.2.2.2.2
  have hown : s.vm.findClass RX11 = some m.cls := B.1.2.2.2.1
  have hin4 : ∀ w ∈ u_ws RX4 TX4 2, w ∈ wsX11_same := by decide +kernel
  have hin11 : ∀ w ∈ u_ws RX11 TX11 11, w ∈ wsX11_same := by decide +kernel
  have hl : lv_has ls 2 [(0, .ref (ad 0)), (1, .int p1)] := hl
  refine lv_iload_n hx hb dX11_same_0 rfl (lv_at hl 1 rfl) ?_
  refine lv_if_lt (tgt := 9) hx hb dX11_same_1 (by decide) (fun c_1 => ?_) (fun c_1 => ?_)
  · skip
    refine lv_iconst (v := (-1)) hx hb dX11_same_9 (by decide) ?_
    exact x_iret (w1 := (fun _ => (WX cI cJ cB cZ ad))) 0 B h hr rfl (Or.inl ⟨rfl, c_1, rfl⟩) dX11_same_10
  · skip
    refine lv_iload_n hx hb dX11_same_4 rfl (lv_at hl 1 rfl) ?_
    refine lv_iconst (v := 3) hx hb dX11_same_5 (by decide) ?_
    refine lv_icmp_lt (tgt := 11) hx hb dX11_same_6 (by decide) (fun c_2 => ?_) (fun c_2 => ?_)
    · skip
      refine lv_aload_n hx hb dX11_same_11 rfl (lv_at hl 0 rfl) ?_
      refine x_get (ci := 11) (C := RX11) (T := TX11) (N := 11) (v := .ref (ad 10)) B h hin11 0 9 rfl rfl (by decide) (by decide +kernel) rfl dX11_same_12 ?_
      refine x_get (ci := 4) (C := RX4) (T := TX4) (N := 2) (v := .long 0) B h hin4 10 1 rfl rfl (by decide) (by decide +kernel) rfl dX11_same_15 ?_
      refine lv_iload_n hx hb dX11_same_18 rfl (lv_at hl 1 rfl) ?_
      have k_3 : p1 = 0 ∨ p1 = 1 ∨ p1 = 2 := by simp only [Int32.lt_iff_toInt_lt, Int32.le_iff_toInt_le, ← Int32.toInt_inj, show ((0 : Int32)).toInt = 0 from by decide, show ((1 : Int32)).toInt = 1 from by decide, show ((2 : Int32)).toInt = 2 from by decide, show ((3 : Int32)).toInt = 3 from by decide] at c_1 c_2 ⊢; omega
      rcases k_3 with e_3 | e_3 | e_3
      · skip
        obtain rfl : p1 = 0 := e_3.trans (by decide)
        refine x_cSIE (n := 2) (As := [.long 0, .int 0]) (rest := []) B h (k256_X11_isIn l D cI cJ cB cZ ad bd) ⟨⟨_, rfl⟩, by decide +kernel, Nat.le_of_ble_eq_true rfl, Nat.le_of_ble_eq_true rfl⟩ gX11_same_X11_isIn rfl hl.1 rfl (Nat.le_of_ble_eq_true rfl) dX11_same_19 ⟨Nat.le_of_ble_eq_true rfl, Nat.le_of_ble_eq_true rfl⟩ (fun r_4 u_4 H locs hp_4 h => ?_)
        obtain rfl := hp_4
        have h : Hp D A s.heap (WX cI cJ cB cZ ad) H locs := h
        refine lv_if_ne (tgt := 28) hx hb dX11_same_22 (by decide) (fun c_5 => absurd c_5 (by decide)) (fun c_5 => ?_)
        refine lv_bipush (v := (-2)) hx hb dX11_same_25 (by decide) ?_
        exact x_iret (w1 := (fun _ => (WX cI cJ cB cZ ad))) 1 B h hr rfl (Or.inr (Or.inl ⟨rfl, rfl, rfl⟩)) dX11_same_27
      · skip
        obtain rfl : p1 = 1 := e_3.trans (by decide)
        refine x_cSIE (n := 2) (As := [.long 0, .int 1]) (rest := []) B h (k257_X11_isIn l D cI cJ cB cZ ad bd) ⟨⟨_, rfl⟩, by decide +kernel, Nat.le_of_ble_eq_true rfl, Nat.le_of_ble_eq_true rfl⟩ gX11_same_X11_isIn rfl hl.1 rfl (Nat.le_of_ble_eq_true rfl) dX11_same_19 ⟨Nat.le_of_ble_eq_true rfl, Nat.le_of_ble_eq_true rfl⟩ (fun r_6 u_6 H locs hp_6 h => ?_)
        obtain rfl := hp_6
        have h : Hp D A s.heap (WX cI cJ cB cZ ad) H locs := h
        refine lv_if_ne (tgt := 28) hx hb dX11_same_22 (by decide) (fun c_7 => absurd c_7 (by decide)) (fun c_7 => ?_)
        refine lv_bipush (v := (-2)) hx hb dX11_same_25 (by decide) ?_
        exact x_iret (w1 := (fun _ => (WX cI cJ cB cZ ad))) 2 B h hr rfl (Or.inr (Or.inr (Or.inl ⟨rfl, rfl, rfl⟩))) dX11_same_27
      · skip
        obtain rfl : p1 = 2 := e_3.trans (by decide)
        refine x_cSIE (n := 2) (As := [.long 0, .int 2]) (rest := []) B h (k258_X11_isIn l D cI cJ cB cZ ad bd) ⟨⟨_, rfl⟩, by decide +kernel, Nat.le_of_ble_eq_true rfl, Nat.le_of_ble_eq_true rfl⟩ gX11_same_X11_isIn rfl hl.1 rfl (Nat.le_of_ble_eq_true rfl) dX11_same_19 ⟨Nat.le_of_ble_eq_true rfl, Nat.le_of_ble_eq_true rfl⟩ (fun r_8 u_8 H locs hp_8 h => ?_)
        obtain rfl := hp_8
        have h : Hp D A s.heap (WX cI cJ cB cZ ad) H locs := h
        refine lv_if_ne (tgt := 28) hx hb dX11_same_22 (by decide) (fun c_9 => absurd c_9 (by decide)) (fun c_9 => ?_)
        refine lv_bipush (v := (-2)) hx hb dX11_same_25 (by decide) ?_
        exact x_iret (w1 := (fun _ => (WX cI cJ cB cZ ad))) 3 B h hr rfl (Or.inr (Or.inr (Or.inr (Or.inl ⟨rfl, rfl, rfl⟩)))) dX11_same_27
    · skip
      refine lv_iconst (v := (-1)) hx hb dX11_same_9 (by decide) ?_
      exact x_iret (w1 := (fun _ => (WX cI cJ cB cZ ad))) 4 B h hr rfl (Or.inr (Or.inr (Or.inr (Or.inr (⟨rfl, c_1, c_2, rfl⟩))))) dX11_same_10
set_option maxHeartbeats 4000000 in
set_option maxRecDepth 100000 in
theorem k260_X12_in (l : Launch) (D : va_G) (cI cJ cB cZ : ClassId) (ad bd : Nat → Nat) (p0 : Int32) : MetI l yX12_in wsX12_in 0 0 0 0 D (TYS cI cJ cB cZ) [] [.int p0, .int 0, .int 2] (fun (r : Int32) (u : Nat) => (u = 0 ∧ (p0 < 0) ∧ r = 0) ∨ (u = 1 ∧ (¬ p0 < 0) ∧ (2 < p0) ∧ r = 0) ∨ (u = 2 ∧ (¬ p0 < 0) ∧ (¬ 2 < p0) ∧ r = 1)) (fun _ => []) := by
  refine x_startI (ty := .boolean) (cc := cX12_in) (by decide) rfl (Nat.le_of_ble_eq_true rfl) ?_
  intro p e s m args below meth c A ls B hr hnm h hl
  have hx := B.1.1
  have hb := B.1.2.1
  have hml := B.1.2.2.1
  have hts := B.1.2.2.2.2
  have hown : s.vm.findClass RX12 = some m.cls := B.1.2.2.2.1
  have hl : lv_has ls 3 [(0, .int p0), (1, .int 0), (2, .int 2)] := hl
  refine lv_iload_n hx hb dX12_in_0 rfl (lv_at hl 0 rfl) ?_
  refine lv_iload_n hx hb dX12_in_1 rfl (lv_at hl 1 rfl) ?_
  refine lv_icmp_lt (tgt := 14) hx hb dX12_in_2 (by decide) (fun c_1 => ?_) (fun c_1 => ?_)
  · skip
    refine lv_iconst (v := 0) hx hb dX12_in_14 (by decide) ?_
    exact x_iret (w1 := (fun _ => [])) 0 B h hr rfl (Or.inl ⟨rfl, c_1, rfl⟩) dX12_in_15
  · skip
    refine lv_iload_n hx hb dX12_in_5 rfl (lv_at hl 0 rfl) ?_
    refine lv_iload_n hx hb dX12_in_6 rfl (lv_at hl 2 rfl) ?_
    refine lv_icmp_gt (tgt := 14) hx hb dX12_in_7 (by decide) (fun c_2 => ?_) (fun c_2 => ?_)
    · skip
      refine lv_iconst (v := 0) hx hb dX12_in_14 (by decide) ?_
      exact x_iret (w1 := (fun _ => [])) 1 B h hr rfl (Or.inr (Or.inl ⟨rfl, c_1, c_2, rfl⟩)) dX12_in_15
    · skip
      refine lv_iconst (v := 1) hx hb dX12_in_10 (by decide) ?_
      refine lv_goto (tgt := 15) hx hb dX12_in_11 (by decide) ?_
      exact x_iret (w1 := (fun _ => [])) 2 B h hr rfl (Or.inr (Or.inr (⟨rfl, c_1, c_2, rfl⟩))) dX12_in_15
set_option maxHeartbeats 4000000 in
set_option maxRecDepth 100000 in
theorem k261_X12_same (l : Launch) (D : va_G) (cI cJ cB cZ : ClassId) (ad bd : Nat → Nat) (p1 : Int32) : MetI l yX12_same wsX12_same 1 22 0 0 D (TYS cI cJ cB cZ) (WM cI cJ cB cZ bd) [.ref (bd 0), .int p1] (fun (r : Int32) (u : Nat) => (u = 0 ∧ (p1 < 0) ∧ r = (-1)) ∨ (u = 1 ∧ (¬ p1 < 0) ∧ (2 < p1) ∧ r = (-1)) ∨ (u = 2 ∧ p1 = 0 ∧ r = (-2)) ∨ (u = 3 ∧ p1 = 1 ∧ r = (-2)) ∨ (u = 4 ∧ p1 = 2 ∧ r = (-2))) (fun _ => (WM cI cJ cB cZ bd)) := by
  refine x_startI (ty := .int) (cc := cX12_same) (by decide) rfl (Nat.le_of_ble_eq_true rfl) ?_
  intro p e s m args below meth c A ls B hr hnm h hl
  have hx := B.1.1
  have hb := B.1.2.1
  have hml := B.1.2.2.1
  have hts := B.1.2.2.2.2
  have hown : s.vm.findClass RX12 = some m.cls := B.1.2.2.2.1
  have hin12 : ∀ w ∈ u_ws RX12 TX12 31, w ∈ wsX12_same := by decide +kernel
  have hl : lv_has ls 4 [(0, .ref (bd 0)), (1, .int p1)] := hl
  refine lv_iload_n hx hb dX12_same_0 rfl (lv_at hl 1 rfl) ?_
  refine lv_iconst (v := 0) hx hb dX12_same_1 (by decide) ?_
  refine lv_iconst (v := 2) hx hb dX12_same_2 (by decide) ?_
  refine x_cSIE (n := 3) (As := [.int p1, .int 0, .int 2]) (rest := []) B h (k260_X12_in l D cI cJ cB cZ ad bd p1) ⟨⟨_, rfl⟩, by decide +kernel, Nat.le_of_ble_eq_true rfl, Nat.le_of_ble_eq_true rfl⟩ gX12_same_X12_in rfl hl.1 rfl (Nat.le_of_ble_eq_true rfl) dX12_same_3 ⟨Nat.le_of_ble_eq_true rfl, Nat.le_of_ble_eq_true rfl⟩ (fun r_1 u_1 H locs hp_1 h => ?_)
  rcases hp_1 with ⟨rfl, k_1_0, rfl⟩ | ⟨rfl, k_1_0, k_1_1, rfl⟩ | ⟨rfl, k_1_0, k_1_1, rfl⟩
  · skip
    have h : Hp D A s.heap (WM cI cJ cB cZ bd) H locs := h
    refine lv_if_ne (tgt := 11) hx hb dX12_same_6 (by decide) (fun c_2 => absurd c_2 (by decide)) (fun c_2 => ?_)
    refine lv_iconst (v := (-1)) hx hb dX12_same_9 (by decide) ?_
    exact x_iret (w1 := (fun _ => (WM cI cJ cB cZ bd))) 0 B h hr rfl (Or.inl ⟨rfl, k_1_0, rfl⟩) dX12_same_10
  · skip
    have h : Hp D A s.heap (WM cI cJ cB cZ bd) H locs := h
    refine lv_if_ne (tgt := 11) hx hb dX12_same_6 (by decide) (fun c_3 => absurd c_3 (by decide)) (fun c_3 => ?_)
    refine lv_iconst (v := (-1)) hx hb dX12_same_9 (by decide) ?_
    exact x_iret (w1 := (fun _ => (WM cI cJ cB cZ bd))) 1 B h hr rfl (Or.inr (Or.inl ⟨rfl, k_1_0, k_1_1, rfl⟩)) dX12_same_10
  · skip
    have h : Hp D A s.heap (WM cI cJ cB cZ bd) H locs := h
    refine lv_if_ne (tgt := 11) hx hb dX12_same_6 (by decide) (fun c_4 => ?_) (fun c_4 => absurd c_4 (by decide))
    refine lv_aload_n hx hb dX12_same_11 rfl (lv_at hl 0 rfl) ?_
    refine x_get (ci := 12) (C := RX12) (T := TX12) (N := 31) (v := .ref (bd 21)) B h hin12 0 29 rfl rfl (by decide) (by decide +kernel) rfl dX12_same_12 ?_
    refine lv_iload_n hx hb dX12_same_15 rfl (lv_at hl 1 rfl) ?_
    have k_5 : p1 = 0 ∨ p1 = 1 ∨ p1 = 2 := by simp only [Int32.lt_iff_toInt_lt, Int32.le_iff_toInt_le, ← Int32.toInt_inj, show ((0 : Int32)).toInt = 0 from by decide, show ((1 : Int32)).toInt = 1 from by decide, show ((2 : Int32)).toInt = 2 from by decide] at k_1_0 k_1_1 ⊢; omega
    rcases k_5 with e_5 | e_5 | e_5
    · skip
      obtain rfl : p1 = 0 := e_5.trans (by decide)
      refine va_zald hx hb B.2.1 h.1 21 3 rfl rfl (vp_in_iff.mpr (by decide)) dX12_same_16 ?_
      refine lv_topi (fun v_6 ev_6 => ?_)
      obtain rfl : v_6 = 0 := ev_6
      refine lv_if_ne (tgt := 23) hx hb dX12_same_17 (by decide) (fun c_7 => absurd c_7 (by decide)) (fun c_7 => ?_)
      refine lv_bipush (v := (-2)) hx hb dX12_same_20 (by decide) ?_
      exact x_iret (w1 := (fun _ => (WM cI cJ cB cZ bd))) 2 B h hr rfl (Or.inr (Or.inr (Or.inl ⟨rfl, rfl, rfl⟩))) dX12_same_22
    · skip
      obtain rfl : p1 = 1 := e_5.trans (by decide)
      refine va_zald hx hb B.2.1 h.1 21 3 rfl rfl (vp_in_iff.mpr (by decide)) dX12_same_16 ?_
      refine lv_topi (fun v_8 ev_8 => ?_)
      obtain rfl : v_8 = 0 := ev_8
      refine lv_if_ne (tgt := 23) hx hb dX12_same_17 (by decide) (fun c_9 => absurd c_9 (by decide)) (fun c_9 => ?_)
      refine lv_bipush (v := (-2)) hx hb dX12_same_20 (by decide) ?_
      exact x_iret (w1 := (fun _ => (WM cI cJ cB cZ bd))) 3 B h hr rfl (Or.inr (Or.inr (Or.inr (Or.inl ⟨rfl, rfl, rfl⟩)))) dX12_same_22
    · skip
      obtain rfl : p1 = 2 := e_5.trans (by decide)
      refine va_zald hx hb B.2.1 h.1 21 3 rfl rfl (vp_in_iff.mpr (by decide)) dX12_same_16 ?_
      refine lv_topi (fun v_10 ev_10 => ?_)
      obtain rfl : v_10 = 0 := ev_10
      refine lv_if_ne (tgt := 23) hx hb dX12_same_17 (by decide) (fun c_11 => absurd c_11 (by decide)) (fun c_11 => ?_)
      refine lv_bipush (v := (-2)) hx hb dX12_same_20 (by decide) ?_
      exact x_iret (w1 := (fun _ => (WM cI cJ cB cZ bd))) 4 B h hr rfl (Or.inr (Or.inr (Or.inr (Or.inr (⟨rfl, rfl, rfl⟩))))) dX12_same_22
set_option maxHeartbeats 4000000 in
set_option maxRecDepth 100000 in
theorem k262_X9_greatestDim (l : Launch) (D : va_G) (cI cJ cB cZ : ClassId) (ad bd : Nat → Nat) : MetI l yX9_greatestDim wsX9_greatestDim 0 0 0 0 D (TYS cI cJ cB cZ) (WX cI cJ cB cZ ad) [.ref (ad 3), .long 0] (fun (r : Int32) (_ : Unit) => r = (-1)) (fun _ => (WX cI cJ cB cZ ad)) := by
  refine x_startI (ty := .int) (cc := cX9_greatestDim) (by decide) rfl (Nat.le_of_ble_eq_true rfl) ?_
  intro p e s m args below meth c A ls B hr hnm h hl
  have hx := B.1.1
  have hb := B.1.2.1
  have hml := B.1.2.2.1
  have hts := B.1.2.2.2.2
  have hown : s.vm.findClass RX9 = some m.cls := B.1.2.2.2.1
  have hin9 : ∀ w ∈ u_ws RX9 TX9 7, w ∈ wsX9_greatestDim := by decide +kernel
  have hl : lv_has ls 5 [(0, .ref (ad 3)), (1, .long 0)] := hl
  refine lv_iconst (v := (-1)) hx hb dX9_greatestDim_0 (by decide) ?_
  refine lv_istore_n (lv' := [(3, .int (-1)), (0, .ref (ad 3)), (1, .long 0)]) hx hb dX9_greatestDim_1 rfl hl (by decide) rfl (fun ls hl => ?_)
  refine lv_iconst (v := 0) hx hb dX9_greatestDim_2 (by decide) ?_
  refine lv_istore (lv' := [(4, .int 0), (3, .int (-1)), (0, .ref (ad 3)), (1, .long 0)]) hx hb dX9_greatestDim_3 hl (by decide) rfl (fun ls hl => ?_)
  refine lv_iload hx hb dX9_greatestDim_5 (lv_at hl 0 rfl) ?_
  refine lv_iconst (v := 5) hx hb dX9_greatestDim_7 (by decide) ?_
  refine lv_icmp_ge (tgt := 34) hx hb dX9_greatestDim_8 (by decide) (fun c_1 => absurd c_1 (by decide)) (fun c_1 => ?_)
  refine lv_lload_n hx hb dX9_greatestDim_11 rfl (lv_at hl 3 rfl) ?_
  refine lv_aload_n hx hb dX9_greatestDim_12 rfl (lv_at hl 2 rfl) ?_
  refine x_get (ci := 9) (C := RX9) (T := TX9) (N := 7) (v := .ref (ad 19)) B h hin9 3 6 rfl rfl (by decide) (by decide +kernel) rfl dX9_greatestDim_13 ?_
  refine lv_iload hx hb dX9_greatestDim_16 (lv_at hl 0 rfl) ?_
  refine va_lald hx hb B.2.1 h.1 19 1 rfl rfl (vp_in_iff.mpr (by decide)) dX9_greatestDim_18 ?_
  refine lv_topl (fun v_2 ev_2 => ?_)
  obtain rfl : v_2 = 0 := ev_2
  refine lv_land hx hb dX9_greatestDim_19 ?_
  refine lv_topl (fun v_3 ev_3 => ?_)
  obtain rfl : v_3 = 0 := ev_3.trans (by decide)
  refine lv_lconst (v := 0) hx hb dX9_greatestDim_20 (by decide) ?_
  refine W.lcmp hx hb dX9_greatestDim_21 ?_
  refine lv_topi (fun v_4 ev_4 => ?_)
  obtain rfl : v_4 = 0 := ev_4.trans (by decide)
  refine lv_if_eq (tgt := 28) hx hb dX9_greatestDim_22 (by decide) (fun c_5 => ?_) (fun c_5 => absurd c_5 (by decide))
  refine lv_iinc (v := 1) (lv' := [(4, .int 1), (3, .int (-1)), (0, .ref (ad 3)), (1, .long 0)]) hx hb dX9_greatestDim_28 hl (k := 0) rfl (by decide) (by decide) rfl (fun ls hl => ?_)
  refine lv_goto (tgt := 5) hx hb dX9_greatestDim_31 (by decide) ?_
  refine lv_iload hx hb dX9_greatestDim_5 (lv_at hl 0 rfl) ?_
  refine lv_iconst (v := 5) hx hb dX9_greatestDim_7 (by decide) ?_
  refine lv_icmp_ge (tgt := 34) hx hb dX9_greatestDim_8 (by decide) (fun c_6 => absurd c_6 (by decide)) (fun c_6 => ?_)
  refine lv_lload_n hx hb dX9_greatestDim_11 rfl (lv_at hl 3 rfl) ?_
  refine lv_aload_n hx hb dX9_greatestDim_12 rfl (lv_at hl 2 rfl) ?_
  refine x_get (ci := 9) (C := RX9) (T := TX9) (N := 7) (v := .ref (ad 19)) B h hin9 3 6 rfl rfl (by decide) (by decide +kernel) rfl dX9_greatestDim_13 ?_
  refine lv_iload hx hb dX9_greatestDim_16 (lv_at hl 0 rfl) ?_
  refine va_lald hx hb B.2.1 h.1 19 1 rfl rfl (vp_in_iff.mpr (by decide)) dX9_greatestDim_18 ?_
  refine lv_topl (fun v_7 ev_7 => ?_)
  obtain rfl : v_7 = 0 := ev_7
  refine lv_land hx hb dX9_greatestDim_19 ?_
  refine lv_topl (fun v_8 ev_8 => ?_)
  obtain rfl : v_8 = 0 := ev_8.trans (by decide)
  refine lv_lconst (v := 0) hx hb dX9_greatestDim_20 (by decide) ?_
  refine W.lcmp hx hb dX9_greatestDim_21 ?_
  refine lv_topi (fun v_9 ev_9 => ?_)
  obtain rfl : v_9 = 0 := ev_9.trans (by decide)
  refine lv_if_eq (tgt := 28) hx hb dX9_greatestDim_22 (by decide) (fun c_10 => ?_) (fun c_10 => absurd c_10 (by decide))
  refine lv_iinc (v := 2) (lv' := [(4, .int 2), (3, .int (-1)), (0, .ref (ad 3)), (1, .long 0)]) hx hb dX9_greatestDim_28 hl (k := 0) rfl (by decide) (by decide) rfl (fun ls hl => ?_)
  refine lv_goto (tgt := 5) hx hb dX9_greatestDim_31 (by decide) ?_
  refine lv_iload hx hb dX9_greatestDim_5 (lv_at hl 0 rfl) ?_
  refine lv_iconst (v := 5) hx hb dX9_greatestDim_7 (by decide) ?_
  refine lv_icmp_ge (tgt := 34) hx hb dX9_greatestDim_8 (by decide) (fun c_11 => absurd c_11 (by decide)) (fun c_11 => ?_)
  refine lv_lload_n hx hb dX9_greatestDim_11 rfl (lv_at hl 3 rfl) ?_
  refine lv_aload_n hx hb dX9_greatestDim_12 rfl (lv_at hl 2 rfl) ?_
  refine x_get (ci := 9) (C := RX9) (T := TX9) (N := 7) (v := .ref (ad 19)) B h hin9 3 6 rfl rfl (by decide) (by decide +kernel) rfl dX9_greatestDim_13 ?_
  refine lv_iload hx hb dX9_greatestDim_16 (lv_at hl 0 rfl) ?_
  refine va_lald hx hb B.2.1 h.1 19 1 rfl rfl (vp_in_iff.mpr (by decide)) dX9_greatestDim_18 ?_
  refine lv_topl (fun v_12 ev_12 => ?_)
  obtain rfl : v_12 = 0 := ev_12
  refine lv_land hx hb dX9_greatestDim_19 ?_
  refine lv_topl (fun v_13 ev_13 => ?_)
  obtain rfl : v_13 = 0 := ev_13.trans (by decide)
  refine lv_lconst (v := 0) hx hb dX9_greatestDim_20 (by decide) ?_
  refine W.lcmp hx hb dX9_greatestDim_21 ?_
  refine lv_topi (fun v_14 ev_14 => ?_)
  obtain rfl : v_14 = 0 := ev_14.trans (by decide)
  refine lv_if_eq (tgt := 28) hx hb dX9_greatestDim_22 (by decide) (fun c_15 => ?_) (fun c_15 => absurd c_15 (by decide))
  refine lv_iinc (v := 3) (lv' := [(4, .int 3), (3, .int (-1)), (0, .ref (ad 3)), (1, .long 0)]) hx hb dX9_greatestDim_28 hl (k := 0) rfl (by decide) (by decide) rfl (fun ls hl => ?_)
  refine lv_goto (tgt := 5) hx hb dX9_greatestDim_31 (by decide) ?_
  refine lv_iload hx hb dX9_greatestDim_5 (lv_at hl 0 rfl) ?_
  refine lv_iconst (v := 5) hx hb dX9_greatestDim_7 (by decide) ?_
  refine lv_icmp_ge (tgt := 34) hx hb dX9_greatestDim_8 (by decide) (fun c_16 => absurd c_16 (by decide)) (fun c_16 => ?_)
  refine lv_lload_n hx hb dX9_greatestDim_11 rfl (lv_at hl 3 rfl) ?_
  refine lv_aload_n hx hb dX9_greatestDim_12 rfl (lv_at hl 2 rfl) ?_
  refine x_get (ci := 9) (C := RX9) (T := TX9) (N := 7) (v := .ref (ad 19)) B h hin9 3 6 rfl rfl (by decide) (by decide +kernel) rfl dX9_greatestDim_13 ?_
  refine lv_iload hx hb dX9_greatestDim_16 (lv_at hl 0 rfl) ?_
  refine va_lald hx hb B.2.1 h.1 19 1 rfl rfl (vp_in_iff.mpr (by decide)) dX9_greatestDim_18 ?_
  refine lv_topl (fun v_17 ev_17 => ?_)
  obtain rfl : v_17 = 0 := ev_17
  refine lv_land hx hb dX9_greatestDim_19 ?_
  refine lv_topl (fun v_18 ev_18 => ?_)
  obtain rfl : v_18 = 0 := ev_18.trans (by decide)
  refine lv_lconst (v := 0) hx hb dX9_greatestDim_20 (by decide) ?_
  refine W.lcmp hx hb dX9_greatestDim_21 ?_
  refine lv_topi (fun v_19 ev_19 => ?_)
  obtain rfl : v_19 = 0 := ev_19.trans (by decide)
  refine lv_if_eq (tgt := 28) hx hb dX9_greatestDim_22 (by decide) (fun c_20 => ?_) (fun c_20 => absurd c_20 (by decide))
  refine lv_iinc (v := 4) (lv' := [(4, .int 4), (3, .int (-1)), (0, .ref (ad 3)), (1, .long 0)]) hx hb dX9_greatestDim_28 hl (k := 0) rfl (by decide) (by decide) rfl (fun ls hl => ?_)
  refine lv_goto (tgt := 5) hx hb dX9_greatestDim_31 (by decide) ?_
  refine lv_iload hx hb dX9_greatestDim_5 (lv_at hl 0 rfl) ?_
  refine lv_iconst (v := 5) hx hb dX9_greatestDim_7 (by decide) ?_
  refine lv_icmp_ge (tgt := 34) hx hb dX9_greatestDim_8 (by decide) (fun c_21 => absurd c_21 (by decide)) (fun c_21 => ?_)
  refine lv_lload_n hx hb dX9_greatestDim_11 rfl (lv_at hl 3 rfl) ?_
  refine lv_aload_n hx hb dX9_greatestDim_12 rfl (lv_at hl 2 rfl) ?_
  refine x_get (ci := 9) (C := RX9) (T := TX9) (N := 7) (v := .ref (ad 19)) B h hin9 3 6 rfl rfl (by decide) (by decide +kernel) rfl dX9_greatestDim_13 ?_
  refine lv_iload hx hb dX9_greatestDim_16 (lv_at hl 0 rfl) ?_
  refine va_lald hx hb B.2.1 h.1 19 1 rfl rfl (vp_in_iff.mpr (by decide)) dX9_greatestDim_18 ?_
  refine lv_topl (fun v_22 ev_22 => ?_)
  obtain rfl : v_22 = 0 := ev_22
  refine lv_land hx hb dX9_greatestDim_19 ?_
  refine lv_topl (fun v_23 ev_23 => ?_)
  obtain rfl : v_23 = 0 := ev_23.trans (by decide)
  refine lv_lconst (v := 0) hx hb dX9_greatestDim_20 (by decide) ?_
  refine W.lcmp hx hb dX9_greatestDim_21 ?_
  refine lv_topi (fun v_24 ev_24 => ?_)
  obtain rfl : v_24 = 0 := ev_24.trans (by decide)
  refine lv_if_eq (tgt := 28) hx hb dX9_greatestDim_22 (by decide) (fun c_25 => ?_) (fun c_25 => absurd c_25 (by decide))
  refine lv_iinc (v := 5) (lv' := [(4, .int 5), (3, .int (-1)), (0, .ref (ad 3)), (1, .long 0)]) hx hb dX9_greatestDim_28 hl (k := 0) rfl (by decide) (by decide) rfl (fun ls hl => ?_)
  refine lv_goto (tgt := 5) hx hb dX9_greatestDim_31 (by decide) ?_
  refine lv_iload hx hb dX9_greatestDim_5 (lv_at hl 0 rfl) ?_
  refine lv_iconst (v := 5) hx hb dX9_greatestDim_7 (by decide) ?_
  refine lv_icmp_ge (tgt := 34) hx hb dX9_greatestDim_8 (by decide) (fun c_26 => ?_) (fun c_26 => absurd c_26 (by decide))
  refine lv_iload_n hx hb dX9_greatestDim_34 rfl (lv_at hl 1 rfl) ?_
  exact x_iret (w1 := (fun _ => (WX cI cJ cB cZ ad))) () B h hr rfl rfl dX9_greatestDim_35
set_option maxHeartbeats 4000000 in
set_option maxRecDepth 100000 in
theorem k263_X6_howMany (l : Launch) (D : va_G) (cI cJ cB cZ : ClassId) (ad bd : Nat → Nat) : MetI l yX6_howMany wsX6_howMany 1 21 0 0 D (TYS cI cJ cB cZ) (WX cI cJ cB cZ ad) [.ref (ad 4)] (fun (r : Int32) (_ : Unit) => r = 0) (fun _ => (WX cI cJ cB cZ ad)) := by
  refine x_startI (ty := .int) (cc := cX6_howMany) (by decide) rfl (Nat.le_of_ble_eq_true rfl) ?_
  intro p e s m args below meth c A ls B hr hnm h hl
  have hx := B.1.1
  have hb := B.1.2.1
  have hml := B.1.2.2.1
  have hts := B.1.2.2.2.2
  have hown : s.vm.findClass RX6 = some m.cls := B.1.2.2.2.1
  have hin6 : ∀ w ∈ u_ws RX6 TX6 6, w ∈ wsX6_howMany := by decide +kernel
  have hl : lv_has ls 1 [(0, .ref (ad 4))] := hl
  refine lv_aload_n hx hb dX6_howMany_0 rfl (lv_at hl 0 rfl) ?_
  refine x_get (ci := 6) (C := RX6) (T := TX6) (N := 6) (v := .long 0) B h hin6 4 3 rfl rfl (by decide) (by decide +kernel) rfl dX6_howMany_1 ?_
  refine x_cSIE (n := 1) (As := [.long 0]) (rest := []) B h (k65_J13_bitCount_95d88 l D cI cJ cB cZ ad bd) ⟨⟨_, rfl⟩, by decide +kernel, Nat.le_of_ble_eq_true rfl, Nat.le_of_ble_eq_true rfl⟩ gX6_howMany_J13_bitCount_95d88 rfl hl.1 rfl (Nat.le_of_ble_eq_true rfl) dX6_howMany_4 ⟨Nat.le_of_ble_eq_true rfl, Nat.le_of_ble_eq_true rfl⟩ (fun r_1 u_1 H locs hp_1 h => ?_)
  obtain rfl := hp_1
  have h : Hp D A s.heap (WX cI cJ cB cZ ad) H locs := h
  exact x_iret (w1 := (fun _ => (WX cI cJ cB cZ ad))) () B h hr rfl rfl dX6_howMany_7
set_option maxHeartbeats 4000000 in
set_option maxRecDepth 100000 in
theorem k264_X11_criticalOnes (l : Launch) (D : va_G) (cI cJ cB cZ : ClassId) (ad bd : Nat → Nat) : MetI l yX11_criticalOnes wsX11_criticalOnes 1 21 0 0 D (TYS cI cJ cB cZ) (WX cI cJ cB cZ ad) [.ref (ad 0)] (fun (r : Int32) (_ : Unit) => r = 0) (fun _ => (WX cI cJ cB cZ ad)) := by
  refine x_startI (ty := .int) (cc := cX11_criticalOnes) (by decide) rfl (Nat.le_of_ble_eq_true rfl) ?_
  intro p e s m args below meth c A ls B hr hnm h hl
  have hx := B.1.1
  have hb := B.1.2.1
  have hml := B.1.2.2.1
  have hts := B.1.2.2.2.2
  have hown : s.vm.findClass RX11 = some m.cls := B.1.2.2.2.1
  have hin11 : ∀ w ∈ u_ws RX11 TX11 11, w ∈ wsX11_criticalOnes := by decide +kernel
  have hl : lv_has ls 1 [(0, .ref (ad 0))] := hl
  refine lv_aload_n hx hb dX11_criticalOnes_0 rfl (lv_at hl 0 rfl) ?_
  refine x_get (ci := 11) (C := RX11) (T := TX11) (N := 11) (v := .ref (ad 4)) B h hin11 0 3 rfl rfl (by decide) (by decide +kernel) rfl dX11_criticalOnes_1 ?_
  refine x_cVLF (n := 0) (As := []) (rest := []) B h (k64_X6_unpaired l D cI cJ cB cZ ad bd) ⟨⟨_, rfl⟩, by decide +kernel, Nat.le_of_ble_eq_true rfl, Nat.le_of_ble_eq_true rfl⟩ gX11_criticalOnes_X6_unpaired (show ((WX cI cJ cB cZ ad) : va_W)[4]? = some (_, .inr (6, _)) from rfl) rfl rfl hl.1 rfl (Nat.le_of_ble_eq_true rfl) dX11_criticalOnes_4 ⟨Nat.le_of_ble_eq_true rfl, Nat.le_of_ble_eq_true rfl⟩ (fun r_1 u_1 H locs hp_1 h => ?_)
  obtain rfl := hp_1
  have h : Hp D A s.heap (WX cI cJ cB cZ ad) H locs := h
  refine x_cSIE (n := 1) (As := [.long 0]) (rest := []) B h (k65_J13_bitCount_95d88 l D cI cJ cB cZ ad bd) ⟨⟨_, rfl⟩, by decide +kernel, Nat.le_of_ble_eq_true rfl, Nat.le_of_ble_eq_true rfl⟩ gX11_criticalOnes_J13_bitCount_95d88 rfl hl.1 rfl (Nat.le_of_ble_eq_true rfl) dX11_criticalOnes_7 ⟨Nat.le_of_ble_eq_true rfl, Nat.le_of_ble_eq_true rfl⟩ (fun r_2 u_2 H locs hp_2 h => ?_)
  obtain rfl := hp_2
  have h : Hp D A s.heap (WX cI cJ cB cZ ad) H locs := h
  exact x_iret (w1 := (fun _ => (WX cI cJ cB cZ ad))) () B h hr rfl rfl dX11_criticalOnes_10
set_option maxHeartbeats 4000000 in
set_option maxRecDepth 100000 in
theorem k265_X9_eulerOf (l : Launch) (D : va_G) (cI cJ cB cZ : ClassId) (ad bd : Nat → Nat) : MetI l yX9_eulerOf wsX9_eulerOf 1 21 0 0 D (TYS cI cJ cB cZ) (WX cI cJ cB cZ ad) [.ref (ad 3), .long 0] (fun (r : Int32) (_ : Unit) => r = 0) (fun _ => (WX cI cJ cB cZ ad)) := by
  refine x_startI (ty := .int) (cc := cX9_eulerOf) (by decide) rfl (Nat.le_of_ble_eq_true rfl) ?_
  intro p e s m args below meth c A ls B hr hnm h hl
  have hx := B.1.1
  have hb := B.1.2.1
  have hml := B.1.2.2.1
  have hts := B.1.2.2.2.2
  have hown : s.vm.findClass RX9 = some m.cls := B.1.2.2.2.1
  have hin9 : ∀ w ∈ u_ws RX9 TX9 7, w ∈ wsX9_eulerOf := by decide +kernel
  have hl : lv_has ls 6 [(0, .ref (ad 3)), (1, .long 0)] := hl
  refine lv_iconst (v := 0) hx hb dX9_eulerOf_0 (by decide) ?_
  refine lv_istore_n (lv' := [(3, .int 0), (0, .ref (ad 3)), (1, .long 0)]) hx hb dX9_eulerOf_1 rfl hl (by decide) rfl (fun ls hl => ?_)
  refine lv_iconst (v := 0) hx hb dX9_eulerOf_2 (by decide) ?_
  refine lv_istore (lv' := [(4, .int 0), (3, .int 0), (0, .ref (ad 3)), (1, .long 0)]) hx hb dX9_eulerOf_3 hl (by decide) rfl (fun ls hl => ?_)
  refine lv_iload hx hb dX9_eulerOf_5 (lv_at hl 0 rfl) ?_
  refine lv_iconst (v := 5) hx hb dX9_eulerOf_7 (by decide) ?_
  refine lv_icmp_ge (tgt := 49) hx hb dX9_eulerOf_8 (by decide) (fun c_1 => absurd c_1 (by decide)) (fun c_1 => ?_)
  refine lv_lload_n hx hb dX9_eulerOf_11 rfl (lv_at hl 3 rfl) ?_
  refine lv_aload_n hx hb dX9_eulerOf_12 rfl (lv_at hl 2 rfl) ?_
  refine x_get (ci := 9) (C := RX9) (T := TX9) (N := 7) (v := .ref (ad 19)) B h hin9 3 6 rfl rfl (by decide) (by decide +kernel) rfl dX9_eulerOf_13 ?_
  refine lv_iload hx hb dX9_eulerOf_16 (lv_at hl 0 rfl) ?_
  refine va_lald hx hb B.2.1 h.1 19 1 rfl rfl (vp_in_iff.mpr (by decide)) dX9_eulerOf_18 ?_
  refine lv_topl (fun v_2 ev_2 => ?_)
  obtain rfl : v_2 = 0 := ev_2
  refine lv_land hx hb dX9_eulerOf_19 ?_
  refine lv_topl (fun v_3 ev_3 => ?_)
  obtain rfl : v_3 = 0 := ev_3.trans (by decide)
  refine x_cSIE (n := 1) (As := [.long 0]) (rest := []) B h (k65_J13_bitCount_95d88 l D cI cJ cB cZ ad bd) ⟨⟨_, rfl⟩, by decide +kernel, Nat.le_of_ble_eq_true rfl, Nat.le_of_ble_eq_true rfl⟩ gX9_eulerOf_J13_bitCount_95d88 rfl hl.1 rfl (Nat.le_of_ble_eq_true rfl) dX9_eulerOf_20 ⟨Nat.le_of_ble_eq_true rfl, Nat.le_of_ble_eq_true rfl⟩ (fun r_4 u_4 H locs hp_4 h => ?_)
  obtain rfl := hp_4
  have h : Hp D A s.heap (WX cI cJ cB cZ ad) H locs := h
  refine lv_istore (lv' := [(5, .int 0), (4, .int 0), (3, .int 0), (0, .ref (ad 3)), (1, .long 0)]) hx hb dX9_eulerOf_23 hl (by decide) rfl (fun ls hl => ?_)
  refine lv_iload_n hx hb dX9_eulerOf_25 rfl (lv_at hl 2 rfl) ?_
  refine lv_iload hx hb dX9_eulerOf_26 (lv_at hl 1 rfl) ?_
  refine lv_iconst (v := 1) hx hb dX9_eulerOf_28 (by decide) ?_
  refine lv_iand hx hb dX9_eulerOf_29 ?_
  refine lv_topi (fun v_5 ev_5 => ?_)
  obtain rfl : v_5 = 0 := ev_5.trans (by decide)
  refine lv_if_ne (tgt := 38) hx hb dX9_eulerOf_30 (by decide) (fun c_6 => absurd c_6 (by decide)) (fun c_6 => ?_)
  refine lv_iload hx hb dX9_eulerOf_33 (lv_at hl 0 rfl) ?_
  refine lv_goto (tgt := 41) hx hb dX9_eulerOf_35 (by decide) ?_
  refine lv_iadd hx hb dX9_eulerOf_41 ?_
  refine lv_topi (fun v_7 ev_7 => ?_)
  obtain rfl : v_7 = 0 := ev_7.trans (by decide)
  refine lv_istore_n (lv' := [(3, .int 0), (5, .int 0), (4, .int 0), (0, .ref (ad 3)), (1, .long 0)]) hx hb dX9_eulerOf_42 rfl hl (by decide) rfl (fun ls hl => ?_)
  refine lv_iinc (v := 1) (lv' := [(4, .int 1), (3, .int 0), (5, .int 0), (0, .ref (ad 3)), (1, .long 0)]) hx hb dX9_eulerOf_43 hl (k := 2) rfl (by decide) (by decide) rfl (fun ls hl => ?_)
  refine lv_goto (tgt := 5) hx hb dX9_eulerOf_46 (by decide) ?_
  refine lv_iload hx hb dX9_eulerOf_5 (lv_at hl 0 rfl) ?_
  refine lv_iconst (v := 5) hx hb dX9_eulerOf_7 (by decide) ?_
  refine lv_icmp_ge (tgt := 49) hx hb dX9_eulerOf_8 (by decide) (fun c_8 => absurd c_8 (by decide)) (fun c_8 => ?_)
  refine lv_lload_n hx hb dX9_eulerOf_11 rfl (lv_at hl 4 rfl) ?_
  refine lv_aload_n hx hb dX9_eulerOf_12 rfl (lv_at hl 3 rfl) ?_
  refine x_get (ci := 9) (C := RX9) (T := TX9) (N := 7) (v := .ref (ad 19)) B h hin9 3 6 rfl rfl (by decide) (by decide +kernel) rfl dX9_eulerOf_13 ?_
  refine lv_iload hx hb dX9_eulerOf_16 (lv_at hl 0 rfl) ?_
  refine va_lald hx hb B.2.1 h.1 19 1 rfl rfl (vp_in_iff.mpr (by decide)) dX9_eulerOf_18 ?_
  refine lv_topl (fun v_9 ev_9 => ?_)
  obtain rfl : v_9 = 0 := ev_9
  refine lv_land hx hb dX9_eulerOf_19 ?_
  refine lv_topl (fun v_10 ev_10 => ?_)
  obtain rfl : v_10 = 0 := ev_10.trans (by decide)
  refine x_cSIE (n := 1) (As := [.long 0]) (rest := []) B h (k65_J13_bitCount_95d88 l D cI cJ cB cZ ad bd) ⟨⟨_, rfl⟩, by decide +kernel, Nat.le_of_ble_eq_true rfl, Nat.le_of_ble_eq_true rfl⟩ gX9_eulerOf_J13_bitCount_95d88 rfl hl.1 rfl (Nat.le_of_ble_eq_true rfl) dX9_eulerOf_20 ⟨Nat.le_of_ble_eq_true rfl, Nat.le_of_ble_eq_true rfl⟩ (fun r_11 u_11 H locs hp_11 h => ?_)
  obtain rfl := hp_11
  have h : Hp D A s.heap (WX cI cJ cB cZ ad) H locs := h
  refine lv_istore (lv' := [(5, .int 0), (4, .int 1), (3, .int 0), (0, .ref (ad 3)), (1, .long 0)]) hx hb dX9_eulerOf_23 hl (by decide) rfl (fun ls hl => ?_)
  refine lv_iload_n hx hb dX9_eulerOf_25 rfl (lv_at hl 2 rfl) ?_
  refine lv_iload hx hb dX9_eulerOf_26 (lv_at hl 1 rfl) ?_
  refine lv_iconst (v := 1) hx hb dX9_eulerOf_28 (by decide) ?_
  refine lv_iand hx hb dX9_eulerOf_29 ?_
  refine lv_topi (fun v_12 ev_12 => ?_)
  obtain rfl : v_12 = 1 := ev_12.trans (by decide)
  refine lv_if_ne (tgt := 38) hx hb dX9_eulerOf_30 (by decide) (fun c_13 => ?_) (fun c_13 => absurd c_13 (by decide))
  refine lv_iload hx hb dX9_eulerOf_38 (lv_at hl 0 rfl) ?_
  refine lv_ineg hx hb dX9_eulerOf_40 ?_
  refine lv_topi (fun v_14 ev_14 => ?_)
  obtain rfl : v_14 = 0 := ev_14.trans (by decide)
  refine lv_iadd hx hb dX9_eulerOf_41 ?_
  refine lv_topi (fun v_15 ev_15 => ?_)
  obtain rfl : v_15 = 0 := ev_15.trans (by decide)
  refine lv_istore_n (lv' := [(3, .int 0), (5, .int 0), (4, .int 1), (0, .ref (ad 3)), (1, .long 0)]) hx hb dX9_eulerOf_42 rfl hl (by decide) rfl (fun ls hl => ?_)
  refine lv_iinc (v := 2) (lv' := [(4, .int 2), (3, .int 0), (5, .int 0), (0, .ref (ad 3)), (1, .long 0)]) hx hb dX9_eulerOf_43 hl (k := 2) rfl (by decide) (by decide) rfl (fun ls hl => ?_)
  refine lv_goto (tgt := 5) hx hb dX9_eulerOf_46 (by decide) ?_
  refine lv_iload hx hb dX9_eulerOf_5 (lv_at hl 0 rfl) ?_
  refine lv_iconst (v := 5) hx hb dX9_eulerOf_7 (by decide) ?_
  refine lv_icmp_ge (tgt := 49) hx hb dX9_eulerOf_8 (by decide) (fun c_16 => absurd c_16 (by decide)) (fun c_16 => ?_)
  refine lv_lload_n hx hb dX9_eulerOf_11 rfl (lv_at hl 4 rfl) ?_
  refine lv_aload_n hx hb dX9_eulerOf_12 rfl (lv_at hl 3 rfl) ?_
  refine x_get (ci := 9) (C := RX9) (T := TX9) (N := 7) (v := .ref (ad 19)) B h hin9 3 6 rfl rfl (by decide) (by decide +kernel) rfl dX9_eulerOf_13 ?_
  refine lv_iload hx hb dX9_eulerOf_16 (lv_at hl 0 rfl) ?_
  refine va_lald hx hb B.2.1 h.1 19 1 rfl rfl (vp_in_iff.mpr (by decide)) dX9_eulerOf_18 ?_
  refine lv_topl (fun v_17 ev_17 => ?_)
  obtain rfl : v_17 = 0 := ev_17
  refine lv_land hx hb dX9_eulerOf_19 ?_
  refine lv_topl (fun v_18 ev_18 => ?_)
  obtain rfl : v_18 = 0 := ev_18.trans (by decide)
  refine x_cSIE (n := 1) (As := [.long 0]) (rest := []) B h (k65_J13_bitCount_95d88 l D cI cJ cB cZ ad bd) ⟨⟨_, rfl⟩, by decide +kernel, Nat.le_of_ble_eq_true rfl, Nat.le_of_ble_eq_true rfl⟩ gX9_eulerOf_J13_bitCount_95d88 rfl hl.1 rfl (Nat.le_of_ble_eq_true rfl) dX9_eulerOf_20 ⟨Nat.le_of_ble_eq_true rfl, Nat.le_of_ble_eq_true rfl⟩ (fun r_19 u_19 H locs hp_19 h => ?_)
  obtain rfl := hp_19
  have h : Hp D A s.heap (WX cI cJ cB cZ ad) H locs := h
  refine lv_istore (lv' := [(5, .int 0), (4, .int 2), (3, .int 0), (0, .ref (ad 3)), (1, .long 0)]) hx hb dX9_eulerOf_23 hl (by decide) rfl (fun ls hl => ?_)
  refine lv_iload_n hx hb dX9_eulerOf_25 rfl (lv_at hl 2 rfl) ?_
  refine lv_iload hx hb dX9_eulerOf_26 (lv_at hl 1 rfl) ?_
  refine lv_iconst (v := 1) hx hb dX9_eulerOf_28 (by decide) ?_
  refine lv_iand hx hb dX9_eulerOf_29 ?_
  refine lv_topi (fun v_20 ev_20 => ?_)
  obtain rfl : v_20 = 0 := ev_20.trans (by decide)
  refine lv_if_ne (tgt := 38) hx hb dX9_eulerOf_30 (by decide) (fun c_21 => absurd c_21 (by decide)) (fun c_21 => ?_)
  refine lv_iload hx hb dX9_eulerOf_33 (lv_at hl 0 rfl) ?_
  refine lv_goto (tgt := 41) hx hb dX9_eulerOf_35 (by decide) ?_
  refine lv_iadd hx hb dX9_eulerOf_41 ?_
  refine lv_topi (fun v_22 ev_22 => ?_)
  obtain rfl : v_22 = 0 := ev_22.trans (by decide)
  refine lv_istore_n (lv' := [(3, .int 0), (5, .int 0), (4, .int 2), (0, .ref (ad 3)), (1, .long 0)]) hx hb dX9_eulerOf_42 rfl hl (by decide) rfl (fun ls hl => ?_)
  refine lv_iinc (v := 3) (lv' := [(4, .int 3), (3, .int 0), (5, .int 0), (0, .ref (ad 3)), (1, .long 0)]) hx hb dX9_eulerOf_43 hl (k := 2) rfl (by decide) (by decide) rfl (fun ls hl => ?_)
  refine lv_goto (tgt := 5) hx hb dX9_eulerOf_46 (by decide) ?_
  refine lv_iload hx hb dX9_eulerOf_5 (lv_at hl 0 rfl) ?_
  refine lv_iconst (v := 5) hx hb dX9_eulerOf_7 (by decide) ?_
  refine lv_icmp_ge (tgt := 49) hx hb dX9_eulerOf_8 (by decide) (fun c_23 => absurd c_23 (by decide)) (fun c_23 => ?_)
  refine lv_lload_n hx hb dX9_eulerOf_11 rfl (lv_at hl 4 rfl) ?_
  refine lv_aload_n hx hb dX9_eulerOf_12 rfl (lv_at hl 3 rfl) ?_
  refine x_get (ci := 9) (C := RX9) (T := TX9) (N := 7) (v := .ref (ad 19)) B h hin9 3 6 rfl rfl (by decide) (by decide +kernel) rfl dX9_eulerOf_13 ?_
  refine lv_iload hx hb dX9_eulerOf_16 (lv_at hl 0 rfl) ?_
  refine va_lald hx hb B.2.1 h.1 19 1 rfl rfl (vp_in_iff.mpr (by decide)) dX9_eulerOf_18 ?_
  refine lv_topl (fun v_24 ev_24 => ?_)
  obtain rfl : v_24 = 0 := ev_24
  refine lv_land hx hb dX9_eulerOf_19 ?_
  refine lv_topl (fun v_25 ev_25 => ?_)
  obtain rfl : v_25 = 0 := ev_25.trans (by decide)
  refine x_cSIE (n := 1) (As := [.long 0]) (rest := []) B h (k65_J13_bitCount_95d88 l D cI cJ cB cZ ad bd) ⟨⟨_, rfl⟩, by decide +kernel, Nat.le_of_ble_eq_true rfl, Nat.le_of_ble_eq_true rfl⟩ gX9_eulerOf_J13_bitCount_95d88 rfl hl.1 rfl (Nat.le_of_ble_eq_true rfl) dX9_eulerOf_20 ⟨Nat.le_of_ble_eq_true rfl, Nat.le_of_ble_eq_true rfl⟩ (fun r_26 u_26 H locs hp_26 h => ?_)
  obtain rfl := hp_26
  have h : Hp D A s.heap (WX cI cJ cB cZ ad) H locs := h
  refine lv_istore (lv' := [(5, .int 0), (4, .int 3), (3, .int 0), (0, .ref (ad 3)), (1, .long 0)]) hx hb dX9_eulerOf_23 hl (by decide) rfl (fun ls hl => ?_)
  refine lv_iload_n hx hb dX9_eulerOf_25 rfl (lv_at hl 2 rfl) ?_
  refine lv_iload hx hb dX9_eulerOf_26 (lv_at hl 1 rfl) ?_
  refine lv_iconst (v := 1) hx hb dX9_eulerOf_28 (by decide) ?_
  refine lv_iand hx hb dX9_eulerOf_29 ?_
  refine lv_topi (fun v_27 ev_27 => ?_)
  obtain rfl : v_27 = 1 := ev_27.trans (by decide)
  refine lv_if_ne (tgt := 38) hx hb dX9_eulerOf_30 (by decide) (fun c_28 => ?_) (fun c_28 => absurd c_28 (by decide))
  refine lv_iload hx hb dX9_eulerOf_38 (lv_at hl 0 rfl) ?_
  refine lv_ineg hx hb dX9_eulerOf_40 ?_
  refine lv_topi (fun v_29 ev_29 => ?_)
  obtain rfl : v_29 = 0 := ev_29.trans (by decide)
  refine lv_iadd hx hb dX9_eulerOf_41 ?_
  refine lv_topi (fun v_30 ev_30 => ?_)
  obtain rfl : v_30 = 0 := ev_30.trans (by decide)
  refine lv_istore_n (lv' := [(3, .int 0), (5, .int 0), (4, .int 3), (0, .ref (ad 3)), (1, .long 0)]) hx hb dX9_eulerOf_42 rfl hl (by decide) rfl (fun ls hl => ?_)
  refine lv_iinc (v := 4) (lv' := [(4, .int 4), (3, .int 0), (5, .int 0), (0, .ref (ad 3)), (1, .long 0)]) hx hb dX9_eulerOf_43 hl (k := 2) rfl (by decide) (by decide) rfl (fun ls hl => ?_)
  refine lv_goto (tgt := 5) hx hb dX9_eulerOf_46 (by decide) ?_
  refine lv_iload hx hb dX9_eulerOf_5 (lv_at hl 0 rfl) ?_
  refine lv_iconst (v := 5) hx hb dX9_eulerOf_7 (by decide) ?_
  refine lv_icmp_ge (tgt := 49) hx hb dX9_eulerOf_8 (by decide) (fun c_31 => absurd c_31 (by decide)) (fun c_31 => ?_)
  refine lv_lload_n hx hb dX9_eulerOf_11 rfl (lv_at hl 4 rfl) ?_
  refine lv_aload_n hx hb dX9_eulerOf_12 rfl (lv_at hl 3 rfl) ?_
  refine x_get (ci := 9) (C := RX9) (T := TX9) (N := 7) (v := .ref (ad 19)) B h hin9 3 6 rfl rfl (by decide) (by decide +kernel) rfl dX9_eulerOf_13 ?_
  refine lv_iload hx hb dX9_eulerOf_16 (lv_at hl 0 rfl) ?_
  refine va_lald hx hb B.2.1 h.1 19 1 rfl rfl (vp_in_iff.mpr (by decide)) dX9_eulerOf_18 ?_
  refine lv_topl (fun v_32 ev_32 => ?_)
  obtain rfl : v_32 = 0 := ev_32
  refine lv_land hx hb dX9_eulerOf_19 ?_
  refine lv_topl (fun v_33 ev_33 => ?_)
  obtain rfl : v_33 = 0 := ev_33.trans (by decide)
  refine x_cSIE (n := 1) (As := [.long 0]) (rest := []) B h (k65_J13_bitCount_95d88 l D cI cJ cB cZ ad bd) ⟨⟨_, rfl⟩, by decide +kernel, Nat.le_of_ble_eq_true rfl, Nat.le_of_ble_eq_true rfl⟩ gX9_eulerOf_J13_bitCount_95d88 rfl hl.1 rfl (Nat.le_of_ble_eq_true rfl) dX9_eulerOf_20 ⟨Nat.le_of_ble_eq_true rfl, Nat.le_of_ble_eq_true rfl⟩ (fun r_34 u_34 H locs hp_34 h => ?_)
  obtain rfl := hp_34
  have h : Hp D A s.heap (WX cI cJ cB cZ ad) H locs := h
  refine lv_istore (lv' := [(5, .int 0), (4, .int 4), (3, .int 0), (0, .ref (ad 3)), (1, .long 0)]) hx hb dX9_eulerOf_23 hl (by decide) rfl (fun ls hl => ?_)
  refine lv_iload_n hx hb dX9_eulerOf_25 rfl (lv_at hl 2 rfl) ?_
  refine lv_iload hx hb dX9_eulerOf_26 (lv_at hl 1 rfl) ?_
  refine lv_iconst (v := 1) hx hb dX9_eulerOf_28 (by decide) ?_
  refine lv_iand hx hb dX9_eulerOf_29 ?_
  refine lv_topi (fun v_35 ev_35 => ?_)
  obtain rfl : v_35 = 0 := ev_35.trans (by decide)
  refine lv_if_ne (tgt := 38) hx hb dX9_eulerOf_30 (by decide) (fun c_36 => absurd c_36 (by decide)) (fun c_36 => ?_)
  refine lv_iload hx hb dX9_eulerOf_33 (lv_at hl 0 rfl) ?_
  refine lv_goto (tgt := 41) hx hb dX9_eulerOf_35 (by decide) ?_
  refine lv_iadd hx hb dX9_eulerOf_41 ?_
  refine lv_topi (fun v_37 ev_37 => ?_)
  obtain rfl : v_37 = 0 := ev_37.trans (by decide)
  refine lv_istore_n (lv' := [(3, .int 0), (5, .int 0), (4, .int 4), (0, .ref (ad 3)), (1, .long 0)]) hx hb dX9_eulerOf_42 rfl hl (by decide) rfl (fun ls hl => ?_)
  refine lv_iinc (v := 5) (lv' := [(4, .int 5), (3, .int 0), (5, .int 0), (0, .ref (ad 3)), (1, .long 0)]) hx hb dX9_eulerOf_43 hl (k := 2) rfl (by decide) (by decide) rfl (fun ls hl => ?_)
  refine lv_goto (tgt := 5) hx hb dX9_eulerOf_46 (by decide) ?_
  refine lv_iload hx hb dX9_eulerOf_5 (lv_at hl 0 rfl) ?_
  refine lv_iconst (v := 5) hx hb dX9_eulerOf_7 (by decide) ?_
  refine lv_icmp_ge (tgt := 49) hx hb dX9_eulerOf_8 (by decide) (fun c_38 => ?_) (fun c_38 => absurd c_38 (by decide))
  refine lv_iload_n hx hb dX9_eulerOf_49 rfl (lv_at hl 1 rfl) ?_
  exact x_iret (w1 := (fun _ => (WX cI cJ cB cZ ad))) () B h hr rfl rfl dX9_eulerOf_50
