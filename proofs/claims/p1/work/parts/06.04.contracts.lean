set_option maxHeartbeats 4000000 in
set_option maxRecDepth 100000 in
theorem k105_X0_rankOf (l : Launch) (D : va_G) (cI cJ cB cZ : ClassId) (ad bd : Nat → Nat) : MetI l yX0_rankOf wsX0_rankOf 2 89 0 0 D (TYS cI cJ cB cZ) (WX cI cJ cB cZ ad) [.ref (ad 8), .long 0, .int 4, .int 0] (fun (r : Int32) (_ : Unit) => r = 0) (fun _ => (WX cI cJ cB cZ ad (Matrix_minor := 1))) := by
  refine x_startI (ty := .int) (cc := cX0_rankOf) (by decide) rfl (Nat.le_of_ble_eq_true rfl) ?_
  intro p e s m args below meth c A ls B hr hnm h hl
  have hx := B.1.1
  have hb := B.1.2.1
  have hml := B.1.2.2.1
  have hts := B.1.2.2.2.2
  have hown : s.vm.findClass RX0 = some m.cls := B.1.2.2.2.1
  have hin0 : ∀ w ∈ u_ws RX0 TX0 4, w ∈ wsX0_rankOf := by decide +kernel
  have hin9 : ∀ w ∈ u_ws RX9 TX9 7, w ∈ wsX0_rankOf := by decide +kernel
  have hl : lv_has ls 5 [(0, .ref (ad 8)), (1, .long 0), (3, .int 4), (4, .int 0)] := hl
  refine lv_iload_n hx hb dX0_rankOf_0 rfl (lv_at hl 2 rfl) ?_
  refine lv_iconst (v := 1) hx hb dX0_rankOf_1 (by decide) ?_
  refine lv_icmp_lt (tgt := 10) hx hb dX0_rankOf_2 (by decide) (fun c_1 => absurd c_1 (by decide)) (fun c_1 => ?_)
  refine lv_iload_n hx hb dX0_rankOf_5 rfl (lv_at hl 2 rfl) ?_
  refine lv_iconst (v := 5) hx hb dX0_rankOf_6 (by decide) ?_
  refine lv_icmp_lt (tgt := 12) hx hb dX0_rankOf_7 (by decide) (fun c_2 => ?_) (fun c_2 => absurd c_2 (by decide))
  refine lv_aload_n hx hb dX0_rankOf_12 rfl (lv_at hl 0 rfl) ?_
  refine lv_lload_n hx hb dX0_rankOf_13 rfl (lv_at hl 1 rfl) ?_
  refine lv_aload_n hx hb dX0_rankOf_14 rfl (lv_at hl 0 rfl) ?_
  refine x_get (ci := 0) (C := RX0) (T := TX0) (N := 4) (v := .ref (ad 3)) B h hin0 8 0 rfl rfl (by decide) (by decide +kernel) rfl dX0_rankOf_15 ?_
  refine x_get (ci := 9) (C := RX9) (T := TX9) (N := 7) (v := .ref (ad 19)) B h hin9 3 6 rfl rfl (by decide) (by decide +kernel) rfl dX0_rankOf_18 ?_
  refine lv_iload_n hx hb dX0_rankOf_21 rfl (lv_at hl 2 rfl) ?_
  refine va_lald hx hb B.2.1 h.1 19 1 rfl rfl (vp_in_iff.mpr (by decide)) dX0_rankOf_22 ?_
  refine lv_topl (fun v_3 ev_3 => ?_)
  obtain rfl : v_3 = 0 := ev_3
  refine lv_land hx hb dX0_rankOf_23 ?_
  refine lv_topl (fun v_4 ev_4 => ?_)
  obtain rfl : v_4 = 0 := ev_4.trans (by decide)
  refine lv_lload_n hx hb dX0_rankOf_24 rfl (lv_at hl 1 rfl) ?_
  refine lv_aload_n hx hb dX0_rankOf_25 rfl (lv_at hl 0 rfl) ?_
  refine x_get (ci := 0) (C := RX0) (T := TX0) (N := 4) (v := .ref (ad 3)) B h hin0 8 0 rfl rfl (by decide) (by decide +kernel) rfl dX0_rankOf_26 ?_
  refine x_get (ci := 9) (C := RX9) (T := TX9) (N := 7) (v := .ref (ad 19)) B h hin9 3 6 rfl rfl (by decide) (by decide +kernel) rfl dX0_rankOf_29 ?_
  refine lv_iload_n hx hb dX0_rankOf_32 rfl (lv_at hl 2 rfl) ?_
  refine lv_iconst (v := 1) hx hb dX0_rankOf_33 (by decide) ?_
  refine lv_isub hx hb dX0_rankOf_34 ?_
  refine lv_topi (fun v_5 ev_5 => ?_)
  obtain rfl : v_5 = 3 := ev_5.trans (by decide)
  refine va_lald hx hb B.2.1 h.1 19 1 rfl rfl (vp_in_iff.mpr (by decide)) dX0_rankOf_35 ?_
  refine lv_topl (fun v_6 ev_6 => ?_)
  obtain rfl : v_6 = 0 := ev_6
  refine lv_land hx hb dX0_rankOf_36 ?_
  refine lv_topl (fun v_7 ev_7 => ?_)
  obtain rfl : v_7 = 0 := ev_7.trans (by decide)
  refine lv_iload hx hb dX0_rankOf_37 (lv_at hl 3 rfl) ?_
  refine x_cVVF (n := 3) (As := [.long 0, .long 0, .int 0]) (rest := []) B h (k90_X0_fill l D cI cJ cB cZ ad bd) ⟨⟨_, rfl⟩, by decide +kernel, Nat.le_of_ble_eq_true rfl, Nat.le_of_ble_eq_true rfl⟩ gX0_rankOf_X0_fill (show ((WX cI cJ cB cZ ad) : va_W)[8]? = some (_, .inr (0, _)) from rfl) rfl rfl hl.1 rfl (Nat.le_of_ble_eq_true rfl) dX0_rankOf_39 ⟨Nat.le_of_ble_eq_true rfl, Nat.le_of_ble_eq_true rfl⟩ (fun u_8 H locs hp_8 h => ?_)
  have h : Hp D A s.heap (WX cI cJ cB cZ ad) H locs := h
  refine lv_aload_n hx hb dX0_rankOf_42 rfl (lv_at hl 0 rfl) ?_
  refine x_get (ci := 0) (C := RX0) (T := TX0) (N := 4) (v := .ref (ad 11)) B h hin0 8 2 rfl rfl (by decide) (by decide +kernel) rfl dX0_rankOf_43 ?_
  refine x_cVIF (n := 0) (As := []) (rest := []) B h (k91_X5_eliminate l D cI cJ cB cZ ad bd) ⟨⟨_, rfl⟩, by decide +kernel, Nat.le_of_ble_eq_true rfl, Nat.le_of_ble_eq_true rfl⟩ gX0_rankOf_X5_eliminate (show ((WX cI cJ cB cZ ad) : va_W)[11]? = some (_, .inr (5, _)) from rfl) rfl rfl hl.1 rfl (Nat.le_of_ble_eq_true rfl) dX0_rankOf_46 ⟨Nat.le_of_ble_eq_true rfl, Nat.le_of_ble_eq_true rfl⟩ (fun r_9 u_9 H locs hp_9 h => ?_)
  obtain rfl := hp_9
  have h : Hp D A s.heap (WX cI cJ cB cZ ad (Matrix_minor := 1)) H locs := h
  exact x_iret (w1 := (fun _ => (WX cI cJ cB cZ ad (Matrix_minor := 1)))) () B h hr rfl rfl dX0_rankOf_49
set_option maxHeartbeats 4000000 in
set_option maxRecDepth 100000 in
theorem k106_X0_rankOf (l : Launch) (D : va_G) (cI cJ cB cZ : ClassId) (ad bd : Nat → Nat) : MetI l yX0_rankOf wsX0_rankOf 0 0 0 0 D (TYS cI cJ cB cZ) (WX cI cJ cB cZ ad (Matrix_minor := 1)) [.ref (ad 8), .long 0, .int 5, .int 0] (fun (r : Int32) (_ : Unit) => r = 0) (fun _ => (WX cI cJ cB cZ ad (Matrix_minor := 1))) := by
  refine x_startI (ty := .int) (cc := cX0_rankOf) (by decide) rfl (Nat.le_of_ble_eq_true rfl) ?_
  intro p e s m args below meth c A ls B hr hnm h hl
  have hx := B.1.1
  have hb := B.1.2.1
  have hml := B.1.2.2.1
  have hts := B.1.2.2.2.2
  have hown : s.vm.findClass RX0 = some m.cls := B.1.2.2.2.1
  have hl : lv_has ls 5 [(0, .ref (ad 8)), (1, .long 0), (3, .int 5), (4, .int 0)] := hl
  refine lv_iload_n hx hb dX0_rankOf_0 rfl (lv_at hl 2 rfl) ?_
  refine lv_iconst (v := 1) hx hb dX0_rankOf_1 (by decide) ?_
  refine lv_icmp_lt (tgt := 10) hx hb dX0_rankOf_2 (by decide) (fun c_1 => absurd c_1 (by decide)) (fun c_1 => ?_)
  refine lv_iload_n hx hb dX0_rankOf_5 rfl (lv_at hl 2 rfl) ?_
  refine lv_iconst (v := 5) hx hb dX0_rankOf_6 (by decide) ?_
  refine lv_icmp_lt (tgt := 12) hx hb dX0_rankOf_7 (by decide) (fun c_2 => absurd c_2 (by decide)) (fun c_2 => ?_)
  refine lv_iconst (v := 0) hx hb dX0_rankOf_10 (by decide) ?_
  exact x_iret (w1 := (fun _ => (WX cI cJ cB cZ ad (Matrix_minor := 1)))) () B h hr rfl rfl dX0_rankOf_11
set_option maxHeartbeats 4000000 in
set_option maxRecDepth 100000 in
theorem k107_X0_bettiOf (l : Launch) (D : va_G) (cI cJ cB cZ : ClassId) (ad bd : Nat → Nat) : MetI l yX0_bettiOf wsX0_bettiOf 3 113 0 0 D (TYS cI cJ cB cZ) (WX cI cJ cB cZ ad) [.ref (ad 8), .long 0, .int 4, .int 0] (fun (r : Int32) (_ : Unit) => r = 0) (fun _ => (WX cI cJ cB cZ ad (Matrix_minor := 1))) := by
  refine x_startI (ty := .int) (cc := cX0_bettiOf) (by decide) rfl (Nat.le_of_ble_eq_true rfl) ?_
  intro p e s m args below meth c A ls B hr hnm h hl
  have hx := B.1.1
  have hb := B.1.2.1
  have hml := B.1.2.2.1
  have hts := B.1.2.2.2.2
  have hown : s.vm.findClass RX0 = some m.cls := B.1.2.2.2.1
  have hin0 : ∀ w ∈ u_ws RX0 TX0 4, w ∈ wsX0_bettiOf := by decide +kernel
  have hin9 : ∀ w ∈ u_ws RX9 TX9 7, w ∈ wsX0_bettiOf := by decide +kernel
  have hl : lv_has ls 6 [(0, .ref (ad 8)), (1, .long 0), (3, .int 4), (4, .int 0)] := hl
  refine lv_lload_n hx hb dX0_bettiOf_0 rfl (lv_at hl 1 rfl) ?_
  refine lv_aload_n hx hb dX0_bettiOf_1 rfl (lv_at hl 0 rfl) ?_
  refine x_get (ci := 0) (C := RX0) (T := TX0) (N := 4) (v := .ref (ad 3)) B h hin0 8 0 rfl rfl (by decide) (by decide +kernel) rfl dX0_bettiOf_2 ?_
  refine x_get (ci := 9) (C := RX9) (T := TX9) (N := 7) (v := .ref (ad 19)) B h hin9 3 6 rfl rfl (by decide) (by decide +kernel) rfl dX0_bettiOf_5 ?_
  refine lv_iload_n hx hb dX0_bettiOf_8 rfl (lv_at hl 2 rfl) ?_
  refine va_lald hx hb B.2.1 h.1 19 1 rfl rfl (vp_in_iff.mpr (by decide)) dX0_bettiOf_9 ?_
  refine lv_topl (fun v_1 ev_1 => ?_)
  obtain rfl : v_1 = 0 := ev_1
  refine lv_land hx hb dX0_bettiOf_10 ?_
  refine lv_topl (fun v_2 ev_2 => ?_)
  obtain rfl : v_2 = 0 := ev_2.trans (by decide)
  refine x_cSIE (n := 1) (As := [.long 0]) (rest := []) B h (k65_J13_bitCount_95d88 l D cI cJ cB cZ ad bd) ⟨⟨_, rfl⟩, by decide +kernel, Nat.le_of_ble_eq_true rfl, Nat.le_of_ble_eq_true rfl⟩ gX0_bettiOf_J13_bitCount_95d88 rfl hl.1 rfl (Nat.le_of_ble_eq_true rfl) dX0_bettiOf_11 ⟨Nat.le_of_ble_eq_true rfl, Nat.le_of_ble_eq_true rfl⟩ (fun r_3 u_3 H locs hp_3 h => ?_)
  obtain rfl := hp_3
  have h : Hp D A s.heap (WX cI cJ cB cZ ad) H locs := h
  refine lv_istore (lv' := [(5, .int 0), (0, .ref (ad 8)), (1, .long 0), (3, .int 4), (4, .int 0)]) hx hb dX0_bettiOf_14 hl (by decide) rfl (fun ls hl => ?_)
  refine lv_iload hx hb dX0_bettiOf_16 (lv_at hl 0 rfl) ?_
  refine lv_aload_n hx hb dX0_bettiOf_18 rfl (lv_at hl 1 rfl) ?_
  refine lv_lload_n hx hb dX0_bettiOf_19 rfl (lv_at hl 2 rfl) ?_
  refine lv_iload_n hx hb dX0_bettiOf_20 rfl (lv_at hl 3 rfl) ?_
  refine lv_iload hx hb dX0_bettiOf_21 (lv_at hl 4 rfl) ?_
  refine x_cVIF (n := 3) (As := [.long 0, .int 4, .int 0]) (rest := [.int 0]) B h (k105_X0_rankOf l D cI cJ cB cZ ad bd) ⟨⟨_, rfl⟩, by decide +kernel, Nat.le_of_ble_eq_true rfl, Nat.le_of_ble_eq_true rfl⟩ gX0_bettiOf_X0_rankOf (show ((WX cI cJ cB cZ ad) : va_W)[8]? = some (_, .inr (0, _)) from rfl) rfl rfl hl.1 rfl (Nat.le_of_ble_eq_true rfl) dX0_bettiOf_23 ⟨Nat.le_of_ble_eq_true rfl, Nat.le_of_ble_eq_true rfl⟩ (fun r_4 u_4 H locs hp_4 h => ?_)
  obtain rfl := hp_4
  have h : Hp D A s.heap (WX cI cJ cB cZ ad (Matrix_minor := 1)) H locs := h
  refine lv_isub hx hb dX0_bettiOf_26 ?_
  refine lv_topi (fun v_5 ev_5 => ?_)
  obtain rfl : v_5 = 0 := ev_5.trans (by decide)
  refine lv_aload_n hx hb dX0_bettiOf_27 rfl (lv_at hl 1 rfl) ?_
  refine lv_lload_n hx hb dX0_bettiOf_28 rfl (lv_at hl 2 rfl) ?_
  refine lv_iload_n hx hb dX0_bettiOf_29 rfl (lv_at hl 3 rfl) ?_
  refine lv_iconst (v := 1) hx hb dX0_bettiOf_30 (by decide) ?_
  refine lv_iadd hx hb dX0_bettiOf_31 ?_
  refine lv_topi (fun v_6 ev_6 => ?_)
  obtain rfl : v_6 = 5 := ev_6.trans (by decide)
  refine lv_iload hx hb dX0_bettiOf_32 (lv_at hl 4 rfl) ?_
  refine x_cVIF (n := 3) (As := [.long 0, .int 5, .int 0]) (rest := [.int 0]) B h (k106_X0_rankOf l D cI cJ cB cZ ad bd) ⟨⟨_, rfl⟩, by decide +kernel, Nat.le_of_ble_eq_true rfl, Nat.le_of_ble_eq_true rfl⟩ gX0_bettiOf_X0_rankOf (show ((WX cI cJ cB cZ ad (Matrix_minor := 1)) : va_W)[8]? = some (_, .inr (0, _)) from rfl) rfl rfl hl.1 rfl (Nat.le_of_ble_eq_true rfl) dX0_bettiOf_34 ⟨Nat.le_of_ble_eq_true rfl, Nat.le_of_ble_eq_true rfl⟩ (fun r_7 u_7 H locs hp_7 h => ?_)
  obtain rfl := hp_7
  have h : Hp D A s.heap (WX cI cJ cB cZ ad (Matrix_minor := 1)) H locs := h
  refine lv_isub hx hb dX0_bettiOf_37 ?_
  refine lv_topi (fun v_8 ev_8 => ?_)
  obtain rfl : v_8 = 0 := ev_8.trans (by decide)
  exact x_iret (w1 := (fun _ => (WX cI cJ cB cZ ad (Matrix_minor := 1)))) () B h hr rfl rfl dX0_bettiOf_38
set_option maxHeartbeats 4000000 in
set_option maxRecDepth 100000 in
theorem k108_X11_basis (l : Launch) (D : va_G) (cI cJ cB cZ : ClassId) (ad bd : Nat → Nat) : MetL l yX11_basis wsX11_basis 1 20 0 0 D (TYS cI cJ cB cZ) (WX cI cJ cB cZ ad) [.ref (ad 0), .int 1] (fun (r : Int64) (_ : Unit) => r = 0) (fun _ => (WX cI cJ cB cZ ad)) := by
  refine x_startL (ty := .long) (cc := cX11_basis) (by decide) rfl (Nat.le_of_ble_eq_true rfl) ?_
  intro p e s m args below meth c A ls B hr hnm h hl
  have hx := B.1.1
  have hb := B.1.2.1
  have hml := B.1.2.2.1
  have hts := B.1.2.2.2.2
  have hown : s.vm.findClass RX11 = some m.cls := B.1.2.2.2.1
  have hin11 : ∀ w ∈ u_ws RX11 TX11 11, w ∈ wsX11_basis := by decide +kernel
  have hl : lv_has ls 2 [(0, .ref (ad 0)), (1, .int 1)] := hl
  refine lv_iload_n hx hb dX11_basis_0 rfl (lv_at hl 1 rfl) ?_
  refine lv_iconst (v := 1) hx hb dX11_basis_1 (by decide) ?_
  refine lv_icmp_ne (tgt := 15) hx hb dX11_basis_2 (by decide) (fun c_1 => absurd c_1 (by decide)) (fun c_1 => ?_)
  refine lv_aload_n hx hb dX11_basis_5 rfl (lv_at hl 0 rfl) ?_
  refine x_get (ci := 11) (C := RX11) (T := TX11) (N := 11) (v := .ref (ad 4)) B h hin11 0 3 rfl rfl (by decide) (by decide +kernel) rfl dX11_basis_6 ?_
  refine x_cVLF (n := 0) (As := []) (rest := []) B h (k64_X6_unpaired l D cI cJ cB cZ ad bd) ⟨⟨_, rfl⟩, by decide +kernel, Nat.le_of_ble_eq_true rfl, Nat.le_of_ble_eq_true rfl⟩ gX11_basis_X6_unpaired (show ((WX cI cJ cB cZ ad) : va_W)[4]? = some (_, .inr (6, _)) from rfl) rfl rfl hl.1 rfl (Nat.le_of_ble_eq_true rfl) dX11_basis_9 ⟨Nat.le_of_ble_eq_true rfl, Nat.le_of_ble_eq_true rfl⟩ (fun r_2 u_2 H locs hp_2 h => ?_)
  obtain rfl := hp_2
  have h : Hp D A s.heap (WX cI cJ cB cZ ad) H locs := h
  refine lv_goto (tgt := 22) hx hb dX11_basis_12 (by decide) ?_
  exact x_lret (w1 := (fun _ => (WX cI cJ cB cZ ad))) () B h hr rfl dX11_basis_22
set_option maxHeartbeats 4000000 in
set_option maxRecDepth 100000 in
theorem k109_X0_rankOf (l : Launch) (D : va_G) (cI cJ cB cZ : ClassId) (ad bd : Nat → Nat) : MetI l yX0_rankOf wsX0_rankOf 0 0 0 0 D (TYS cI cJ cB cZ) (WX cI cJ cB cZ ad) [.ref (ad 8), .long 0, .int 0, .int 1] (fun (r : Int32) (_ : Unit) => r = 0) (fun _ => (WX cI cJ cB cZ ad)) := by
  refine x_startI (ty := .int) (cc := cX0_rankOf) (by decide) rfl (Nat.le_of_ble_eq_true rfl) ?_
  intro p e s m args below meth c A ls B hr hnm h hl
  have hx := B.1.1
  have hb := B.1.2.1
  have hml := B.1.2.2.1
  have hts := B.1.2.2.2.2
  have hown : s.vm.findClass RX0 = some m.cls := B.1.2.2.2.1
  have hl : lv_has ls 5 [(0, .ref (ad 8)), (1, .long 0), (3, .int 0), (4, .int 1)] := hl
  refine lv_iload_n hx hb dX0_rankOf_0 rfl (lv_at hl 2 rfl) ?_
  refine lv_iconst (v := 1) hx hb dX0_rankOf_1 (by decide) ?_
  refine lv_icmp_lt (tgt := 10) hx hb dX0_rankOf_2 (by decide) (fun c_1 => ?_) (fun c_1 => absurd c_1 (by decide))
  refine lv_iconst (v := 0) hx hb dX0_rankOf_10 (by decide) ?_
  exact x_iret (w1 := (fun _ => (WX cI cJ cB cZ ad))) () B h hr rfl rfl dX0_rankOf_11
set_option maxHeartbeats 4000000 in
set_option maxRecDepth 100000 in
theorem k110_X0_fill (l : Launch) (D : va_G) (cI cJ cB cZ : ClassId) (ad bd : Nat → Nat) : MetV l yX0_fill wsX0_fill 1 23 0 0 D (TYS cI cJ cB cZ) (WX cI cJ cB cZ ad) [.ref (ad 8), .long 0, .long 0, .int 1] (fun _ : Unit => True) (fun _ => (WX cI cJ cB cZ ad)) := by
  refine x_startV (ty := .int) (cc := cX0_fill) (by decide) rfl (Nat.le_of_ble_eq_true rfl) ?_
  intro p e s m args below meth c A ls B hr hnm h hl
  have hx := B.1.1
  have hb := B.1.2.1
  have hml := B.1.2.2.1
  have hts := B.1.2.2.2.2
  have hown : s.vm.findClass RX0 = some m.cls := B.1.2.2.2.1
  have hin0 : ∀ w ∈ u_ws RX0 TX0 4, w ∈ wsX0_fill := by decide +kernel
  have hin9 : ∀ w ∈ u_ws RX9 TX9 7, w ∈ wsX0_fill := by decide +kernel
  have hl : lv_has ls 8 [(0, .ref (ad 8)), (1, .long 0), (3, .long 0), (5, .int 1)] := hl
  refine lv_aload_n hx hb dX0_fill_0 rfl (lv_at hl 0 rfl) ?_
  refine x_get (ci := 0) (C := RX0) (T := TX0) (N := 4) (v := .ref (ad 11)) B h hin0 8 2 rfl rfl (by decide) (by decide +kernel) rfl dX0_fill_1 ?_
  refine lv_lload_n hx hb dX0_fill_4 rfl (lv_at hl 1 rfl) ?_
  refine x_cSIE (n := 1) (As := [.long 0]) (rest := [.ref (ad 11)]) B h (k65_J13_bitCount_95d88 l D cI cJ cB cZ ad bd) ⟨⟨_, rfl⟩, by decide +kernel, Nat.le_of_ble_eq_true rfl, Nat.le_of_ble_eq_true rfl⟩ gX0_fill_J13_bitCount_95d88 rfl hl.1 rfl (Nat.le_of_ble_eq_true rfl) dX0_fill_5 ⟨Nat.le_of_ble_eq_true rfl, Nat.le_of_ble_eq_true rfl⟩ (fun r_1 u_1 H locs hp_1 h => ?_)
  obtain rfl := hp_1
  have h : Hp D A s.heap (WX cI cJ cB cZ ad) H locs := h
  refine lv_lload_n hx hb dX0_fill_8 rfl (lv_at hl 2 rfl) ?_
  refine x_cSIE (n := 1) (As := [.long 0]) (rest := [.int 0, .ref (ad 11)]) B h (k65_J13_bitCount_95d88 l D cI cJ cB cZ ad bd) ⟨⟨_, rfl⟩, by decide +kernel, Nat.le_of_ble_eq_true rfl, Nat.le_of_ble_eq_true rfl⟩ gX0_fill_J13_bitCount_95d88 rfl hl.1 rfl (Nat.le_of_ble_eq_true rfl) dX0_fill_9 ⟨Nat.le_of_ble_eq_true rfl, Nat.le_of_ble_eq_true rfl⟩ (fun r_2 u_2 H locs hp_2 h => ?_)
  obtain rfl := hp_2
  have h : Hp D A s.heap (WX cI cJ cB cZ ad) H locs := h
  refine x_cVVF (n := 2) (As := [.int 0, .int 0]) (rest := []) B h (k89_X5_resize l D cI cJ cB cZ ad bd) ⟨⟨_, rfl⟩, by decide +kernel, Nat.le_of_ble_eq_true rfl, Nat.le_of_ble_eq_true rfl⟩ gX0_fill_X5_resize (show ((WX cI cJ cB cZ ad) : va_W)[11]? = some (_, .inr (5, _)) from rfl) rfl rfl hl.1 rfl (Nat.le_of_ble_eq_true rfl) dX0_fill_12 ⟨Nat.le_of_ble_eq_true rfl, Nat.le_of_ble_eq_true rfl⟩ (fun u_3 H locs hp_3 h => ?_)
  have h : Hp D A s.heap (WX cI cJ cB cZ ad) H locs := h
  refine lv_iconst (v := 0) hx hb dX0_fill_15 (by decide) ?_
  refine lv_istore (lv' := [(6, .int 0), (0, .ref (ad 8)), (1, .long 0), (3, .long 0), (5, .int 1)]) hx hb dX0_fill_16 hl (by decide) rfl (fun ls hl => ?_)
  refine lv_iconst (v := 0) hx hb dX0_fill_18 (by decide) ?_
  refine lv_istore (lv' := [(7, .int 0), (6, .int 0), (0, .ref (ad 8)), (1, .long 0), (3, .long 0), (5, .int 1)]) hx hb dX0_fill_19 hl (by decide) rfl (fun ls hl => ?_)
  refine lv_iload hx hb dX0_fill_21 (lv_at hl 0 rfl) ?_
  refine lv_aload_n hx hb dX0_fill_23 rfl (lv_at hl 2 rfl) ?_
  refine x_get (ci := 0) (C := RX0) (T := TX0) (N := 4) (v := .ref (ad 3)) B h hin0 8 0 rfl rfl (by decide) (by decide +kernel) rfl dX0_fill_24 ?_
  refine x_get (ci := 9) (C := RX9) (T := TX9) (N := 7) (v := .int 0) B h hin9 3 0 rfl rfl (by decide) (by decide +kernel) rfl dX0_fill_27 ?_
  refine lv_icmp_ge (tgt := 94) hx hb dX0_fill_30 (by decide) (fun c_4 => ?_) (fun c_4 => absurd c_4 (by decide))
  exact x_vret (w1 := (fun _ => (WX cI cJ cB cZ ad))) () B h hr trivial dX0_fill_94
set_option maxHeartbeats 4000000 in
set_option maxRecDepth 100000 in
theorem k111_X0_rankOf (l : Launch) (D : va_G) (cI cJ cB cZ : ClassId) (ad bd : Nat → Nat) : MetI l yX0_rankOf wsX0_rankOf 2 89 0 0 D (TYS cI cJ cB cZ) (WX cI cJ cB cZ ad) [.ref (ad 8), .long 0, .int 1, .int 1] (fun (r : Int32) (_ : Unit) => r = 0) (fun _ => (WX cI cJ cB cZ ad (Matrix_minor := 1))) := by
  refine x_startI (ty := .int) (cc := cX0_rankOf) (by decide) rfl (Nat.le_of_ble_eq_true rfl) ?_
  intro p e s m args below meth c A ls B hr hnm h hl
  have hx := B.1.1
  have hb := B.1.2.1
  have hml := B.1.2.2.1
  have hts := B.1.2.2.2.2
  have hown : s.vm.findClass RX0 = some m.cls := B.1.2.2.2.1
  have hin0 : ∀ w ∈ u_ws RX0 TX0 4, w ∈ wsX0_rankOf := by decide +kernel
  have hin9 : ∀ w ∈ u_ws RX9 TX9 7, w ∈ wsX0_rankOf := by decide +kernel
  have hl : lv_has ls 5 [(0, .ref (ad 8)), (1, .long 0), (3, .int 1), (4, .int 1)] := hl
  refine lv_iload_n hx hb dX0_rankOf_0 rfl (lv_at hl 2 rfl) ?_
  refine lv_iconst (v := 1) hx hb dX0_rankOf_1 (by decide) ?_
  refine lv_icmp_lt (tgt := 10) hx hb dX0_rankOf_2 (by decide) (fun c_1 => absurd c_1 (by decide)) (fun c_1 => ?_)
  refine lv_iload_n hx hb dX0_rankOf_5 rfl (lv_at hl 2 rfl) ?_
  refine lv_iconst (v := 5) hx hb dX0_rankOf_6 (by decide) ?_
  refine lv_icmp_lt (tgt := 12) hx hb dX0_rankOf_7 (by decide) (fun c_2 => ?_) (fun c_2 => absurd c_2 (by decide))
  refine lv_aload_n hx hb dX0_rankOf_12 rfl (lv_at hl 0 rfl) ?_
  refine lv_lload_n hx hb dX0_rankOf_13 rfl (lv_at hl 1 rfl) ?_
  refine lv_aload_n hx hb dX0_rankOf_14 rfl (lv_at hl 0 rfl) ?_
  refine x_get (ci := 0) (C := RX0) (T := TX0) (N := 4) (v := .ref (ad 3)) B h hin0 8 0 rfl rfl (by decide) (by decide +kernel) rfl dX0_rankOf_15 ?_
  refine x_get (ci := 9) (C := RX9) (T := TX9) (N := 7) (v := .ref (ad 19)) B h hin9 3 6 rfl rfl (by decide) (by decide +kernel) rfl dX0_rankOf_18 ?_
  refine lv_iload_n hx hb dX0_rankOf_21 rfl (lv_at hl 2 rfl) ?_
  refine va_lald hx hb B.2.1 h.1 19 1 rfl rfl (vp_in_iff.mpr (by decide)) dX0_rankOf_22 ?_
  refine lv_topl (fun v_3 ev_3 => ?_)
  obtain rfl : v_3 = 0 := ev_3
  refine lv_land hx hb dX0_rankOf_23 ?_
  refine lv_topl (fun v_4 ev_4 => ?_)
  obtain rfl : v_4 = 0 := ev_4.trans (by decide)
  refine lv_lload_n hx hb dX0_rankOf_24 rfl (lv_at hl 1 rfl) ?_
  refine lv_aload_n hx hb dX0_rankOf_25 rfl (lv_at hl 0 rfl) ?_
  refine x_get (ci := 0) (C := RX0) (T := TX0) (N := 4) (v := .ref (ad 3)) B h hin0 8 0 rfl rfl (by decide) (by decide +kernel) rfl dX0_rankOf_26 ?_
  refine x_get (ci := 9) (C := RX9) (T := TX9) (N := 7) (v := .ref (ad 19)) B h hin9 3 6 rfl rfl (by decide) (by decide +kernel) rfl dX0_rankOf_29 ?_
  refine lv_iload_n hx hb dX0_rankOf_32 rfl (lv_at hl 2 rfl) ?_
  refine lv_iconst (v := 1) hx hb dX0_rankOf_33 (by decide) ?_
  refine lv_isub hx hb dX0_rankOf_34 ?_
  refine lv_topi (fun v_5 ev_5 => ?_)
  obtain rfl : v_5 = 0 := ev_5.trans (by decide)
  refine va_lald hx hb B.2.1 h.1 19 1 rfl rfl (vp_in_iff.mpr (by decide)) dX0_rankOf_35 ?_
  refine lv_topl (fun v_6 ev_6 => ?_)
  obtain rfl : v_6 = 0 := ev_6
  refine lv_land hx hb dX0_rankOf_36 ?_
  refine lv_topl (fun v_7 ev_7 => ?_)
  obtain rfl : v_7 = 0 := ev_7.trans (by decide)
  refine lv_iload hx hb dX0_rankOf_37 (lv_at hl 3 rfl) ?_
  refine x_cVVF (n := 3) (As := [.long 0, .long 0, .int 1]) (rest := []) B h (k110_X0_fill l D cI cJ cB cZ ad bd) ⟨⟨_, rfl⟩, by decide +kernel, Nat.le_of_ble_eq_true rfl, Nat.le_of_ble_eq_true rfl⟩ gX0_rankOf_X0_fill (show ((WX cI cJ cB cZ ad) : va_W)[8]? = some (_, .inr (0, _)) from rfl) rfl rfl hl.1 rfl (Nat.le_of_ble_eq_true rfl) dX0_rankOf_39 ⟨Nat.le_of_ble_eq_true rfl, Nat.le_of_ble_eq_true rfl⟩ (fun u_8 H locs hp_8 h => ?_)
  have h : Hp D A s.heap (WX cI cJ cB cZ ad) H locs := h
  refine lv_aload_n hx hb dX0_rankOf_42 rfl (lv_at hl 0 rfl) ?_
  refine x_get (ci := 0) (C := RX0) (T := TX0) (N := 4) (v := .ref (ad 11)) B h hin0 8 2 rfl rfl (by decide) (by decide +kernel) rfl dX0_rankOf_43 ?_
  refine x_cVIF (n := 0) (As := []) (rest := []) B h (k91_X5_eliminate l D cI cJ cB cZ ad bd) ⟨⟨_, rfl⟩, by decide +kernel, Nat.le_of_ble_eq_true rfl, Nat.le_of_ble_eq_true rfl⟩ gX0_rankOf_X5_eliminate (show ((WX cI cJ cB cZ ad) : va_W)[11]? = some (_, .inr (5, _)) from rfl) rfl rfl hl.1 rfl (Nat.le_of_ble_eq_true rfl) dX0_rankOf_46 ⟨Nat.le_of_ble_eq_true rfl, Nat.le_of_ble_eq_true rfl⟩ (fun r_9 u_9 H locs hp_9 h => ?_)
  obtain rfl := hp_9
  have h : Hp D A s.heap (WX cI cJ cB cZ ad (Matrix_minor := 1)) H locs := h
  exact x_iret (w1 := (fun _ => (WX cI cJ cB cZ ad (Matrix_minor := 1)))) () B h hr rfl rfl dX0_rankOf_49
set_option maxHeartbeats 4000000 in
set_option maxRecDepth 100000 in
theorem k112_X0_bettiOf (l : Launch) (D : va_G) (cI cJ cB cZ : ClassId) (ad bd : Nat → Nat) : MetI l yX0_bettiOf wsX0_bettiOf 3 113 0 0 D (TYS cI cJ cB cZ) (WX cI cJ cB cZ ad) [.ref (ad 8), .long 0, .int 0, .int 1] (fun (r : Int32) (_ : Unit) => r = 0) (fun _ => (WX cI cJ cB cZ ad (Matrix_minor := 1))) := by
  refine x_startI (ty := .int) (cc := cX0_bettiOf) (by decide) rfl (Nat.le_of_ble_eq_true rfl) ?_
  intro p e s m args below meth c A ls B hr hnm h hl
  have hx := B.1.1
  have hb := B.1.2.1
  have hml := B.1.2.2.1
  have hts := B.1.2.2.2.2
  have hown : s.vm.findClass RX0 = some m.cls := B.1.2.2.2.1
  have hin0 : ∀ w ∈ u_ws RX0 TX0 4, w ∈ wsX0_bettiOf := by decide +kernel
  have hin9 : ∀ w ∈ u_ws RX9 TX9 7, w ∈ wsX0_bettiOf := by decide +kernel
  have hl : lv_has ls 6 [(0, .ref (ad 8)), (1, .long 0), (3, .int 0), (4, .int 1)] := hl
  refine lv_lload_n hx hb dX0_bettiOf_0 rfl (lv_at hl 1 rfl) ?_
  refine lv_aload_n hx hb dX0_bettiOf_1 rfl (lv_at hl 0 rfl) ?_
  refine x_get (ci := 0) (C := RX0) (T := TX0) (N := 4) (v := .ref (ad 3)) B h hin0 8 0 rfl rfl (by decide) (by decide +kernel) rfl dX0_bettiOf_2 ?_
  refine x_get (ci := 9) (C := RX9) (T := TX9) (N := 7) (v := .ref (ad 19)) B h hin9 3 6 rfl rfl (by decide) (by decide +kernel) rfl dX0_bettiOf_5 ?_
  refine lv_iload_n hx hb dX0_bettiOf_8 rfl (lv_at hl 2 rfl) ?_
  refine va_lald hx hb B.2.1 h.1 19 1 rfl rfl (vp_in_iff.mpr (by decide)) dX0_bettiOf_9 ?_
  refine lv_topl (fun v_1 ev_1 => ?_)
  obtain rfl : v_1 = 0 := ev_1
  refine lv_land hx hb dX0_bettiOf_10 ?_
  refine lv_topl (fun v_2 ev_2 => ?_)
  obtain rfl : v_2 = 0 := ev_2.trans (by decide)
  refine x_cSIE (n := 1) (As := [.long 0]) (rest := []) B h (k65_J13_bitCount_95d88 l D cI cJ cB cZ ad bd) ⟨⟨_, rfl⟩, by decide +kernel, Nat.le_of_ble_eq_true rfl, Nat.le_of_ble_eq_true rfl⟩ gX0_bettiOf_J13_bitCount_95d88 rfl hl.1 rfl (Nat.le_of_ble_eq_true rfl) dX0_bettiOf_11 ⟨Nat.le_of_ble_eq_true rfl, Nat.le_of_ble_eq_true rfl⟩ (fun r_3 u_3 H locs hp_3 h => ?_)
  obtain rfl := hp_3
  have h : Hp D A s.heap (WX cI cJ cB cZ ad) H locs := h
  refine lv_istore (lv' := [(5, .int 0), (0, .ref (ad 8)), (1, .long 0), (3, .int 0), (4, .int 1)]) hx hb dX0_bettiOf_14 hl (by decide) rfl (fun ls hl => ?_)
  refine lv_iload hx hb dX0_bettiOf_16 (lv_at hl 0 rfl) ?_
  refine lv_aload_n hx hb dX0_bettiOf_18 rfl (lv_at hl 1 rfl) ?_
  refine lv_lload_n hx hb dX0_bettiOf_19 rfl (lv_at hl 2 rfl) ?_
  refine lv_iload_n hx hb dX0_bettiOf_20 rfl (lv_at hl 3 rfl) ?_
  refine lv_iload hx hb dX0_bettiOf_21 (lv_at hl 4 rfl) ?_
  refine x_cVIF (n := 3) (As := [.long 0, .int 0, .int 1]) (rest := [.int 0]) B h (k109_X0_rankOf l D cI cJ cB cZ ad bd) ⟨⟨_, rfl⟩, by decide +kernel, Nat.le_of_ble_eq_true rfl, Nat.le_of_ble_eq_true rfl⟩ gX0_bettiOf_X0_rankOf (show ((WX cI cJ cB cZ ad) : va_W)[8]? = some (_, .inr (0, _)) from rfl) rfl rfl hl.1 rfl (Nat.le_of_ble_eq_true rfl) dX0_bettiOf_23 ⟨Nat.le_of_ble_eq_true rfl, Nat.le_of_ble_eq_true rfl⟩ (fun r_4 u_4 H locs hp_4 h => ?_)
  obtain rfl := hp_4
  have h : Hp D A s.heap (WX cI cJ cB cZ ad) H locs := h
  refine lv_isub hx hb dX0_bettiOf_26 ?_
  refine lv_topi (fun v_5 ev_5 => ?_)
  obtain rfl : v_5 = 0 := ev_5.trans (by decide)
  refine lv_aload_n hx hb dX0_bettiOf_27 rfl (lv_at hl 1 rfl) ?_
  refine lv_lload_n hx hb dX0_bettiOf_28 rfl (lv_at hl 2 rfl) ?_
  refine lv_iload_n hx hb dX0_bettiOf_29 rfl (lv_at hl 3 rfl) ?_
  refine lv_iconst (v := 1) hx hb dX0_bettiOf_30 (by decide) ?_
  refine lv_iadd hx hb dX0_bettiOf_31 ?_
  refine lv_topi (fun v_6 ev_6 => ?_)
  obtain rfl : v_6 = 1 := ev_6.trans (by decide)
  refine lv_iload hx hb dX0_bettiOf_32 (lv_at hl 4 rfl) ?_
  refine x_cVIF (n := 3) (As := [.long 0, .int 1, .int 1]) (rest := [.int 0]) B h (k111_X0_rankOf l D cI cJ cB cZ ad bd) ⟨⟨_, rfl⟩, by decide +kernel, Nat.le_of_ble_eq_true rfl, Nat.le_of_ble_eq_true rfl⟩ gX0_bettiOf_X0_rankOf (show ((WX cI cJ cB cZ ad) : va_W)[8]? = some (_, .inr (0, _)) from rfl) rfl rfl hl.1 rfl (Nat.le_of_ble_eq_true rfl) dX0_bettiOf_34 ⟨Nat.le_of_ble_eq_true rfl, Nat.le_of_ble_eq_true rfl⟩ (fun r_7 u_7 H locs hp_7 h => ?_)
  obtain rfl := hp_7
  have h : Hp D A s.heap (WX cI cJ cB cZ ad (Matrix_minor := 1)) H locs := h
  refine lv_isub hx hb dX0_bettiOf_37 ?_
  refine lv_topi (fun v_8 ev_8 => ?_)
  obtain rfl : v_8 = 0 := ev_8.trans (by decide)
  exact x_iret (w1 := (fun _ => (WX cI cJ cB cZ ad (Matrix_minor := 1)))) () B h hr rfl rfl dX0_bettiOf_38
set_option maxHeartbeats 4000000 in
set_option maxRecDepth 100000 in
theorem k113_X0_fill (l : Launch) (D : va_G) (cI cJ cB cZ : ClassId) (ad bd : Nat → Nat) : MetV l yX0_fill wsX0_fill 1 23 0 0 D (TYS cI cJ cB cZ) (WX cI cJ cB cZ ad (Matrix_minor := 1)) [.ref (ad 8), .long 0, .long 0, .int 1] (fun _ : Unit => True) (fun _ => (WX cI cJ cB cZ ad (Matrix_minor := 1))) := by
  refine x_startV (ty := .int) (cc := cX0_fill) (by decide) rfl (Nat.le_of_ble_eq_true rfl) ?_
  intro p e s m args below meth c A ls B hr hnm h hl
  have hx := B.1.1
  have hb := B.1.2.1
  have hml := B.1.2.2.1
  have hts := B.1.2.2.2.2
  have hown : s.vm.findClass RX0 = some m.cls := B.1.2.2.2.1
  have hin0 : ∀ w ∈ u_ws RX0 TX0 4, w ∈ wsX0_fill := by decide +kernel
  have hin9 : ∀ w ∈ u_ws RX9 TX9 7, w ∈ wsX0_fill := by decide +kernel
  have hl : lv_has ls 8 [(0, .ref (ad 8)), (1, .long 0), (3, .long 0), (5, .int 1)] := hl
  refine lv_aload_n hx hb dX0_fill_0 rfl (lv_at hl 0 rfl) ?_
  refine x_get (ci := 0) (C := RX0) (T := TX0) (N := 4) (v := .ref (ad 11)) B h hin0 8 2 rfl rfl (by decide) (by decide +kernel) rfl dX0_fill_1 ?_
  refine lv_lload_n hx hb dX0_fill_4 rfl (lv_at hl 1 rfl) ?_
  refine x_cSIE (n := 1) (As := [.long 0]) (rest := [.ref (ad 11)]) B h (k65_J13_bitCount_95d88 l D cI cJ cB cZ ad bd) ⟨⟨_, rfl⟩, by decide +kernel, Nat.le_of_ble_eq_true rfl, Nat.le_of_ble_eq_true rfl⟩ gX0_fill_J13_bitCount_95d88 rfl hl.1 rfl (Nat.le_of_ble_eq_true rfl) dX0_fill_5 ⟨Nat.le_of_ble_eq_true rfl, Nat.le_of_ble_eq_true rfl⟩ (fun r_1 u_1 H locs hp_1 h => ?_)
  obtain rfl := hp_1
  have h : Hp D A s.heap (WX cI cJ cB cZ ad (Matrix_minor := 1)) H locs := h
  refine lv_lload_n hx hb dX0_fill_8 rfl (lv_at hl 2 rfl) ?_
  refine x_cSIE (n := 1) (As := [.long 0]) (rest := [.int 0, .ref (ad 11)]) B h (k65_J13_bitCount_95d88 l D cI cJ cB cZ ad bd) ⟨⟨_, rfl⟩, by decide +kernel, Nat.le_of_ble_eq_true rfl, Nat.le_of_ble_eq_true rfl⟩ gX0_fill_J13_bitCount_95d88 rfl hl.1 rfl (Nat.le_of_ble_eq_true rfl) dX0_fill_9 ⟨Nat.le_of_ble_eq_true rfl, Nat.le_of_ble_eq_true rfl⟩ (fun r_2 u_2 H locs hp_2 h => ?_)
  obtain rfl := hp_2
  have h : Hp D A s.heap (WX cI cJ cB cZ ad (Matrix_minor := 1)) H locs := h
  refine x_cVVF (n := 2) (As := [.int 0, .int 0]) (rest := []) B h (k94_X5_resize l D cI cJ cB cZ ad bd) ⟨⟨_, rfl⟩, by decide +kernel, Nat.le_of_ble_eq_true rfl, Nat.le_of_ble_eq_true rfl⟩ gX0_fill_X5_resize (show ((WX cI cJ cB cZ ad (Matrix_minor := 1)) : va_W)[11]? = some (_, .inr (5, _)) from rfl) rfl rfl hl.1 rfl (Nat.le_of_ble_eq_true rfl) dX0_fill_12 ⟨Nat.le_of_ble_eq_true rfl, Nat.le_of_ble_eq_true rfl⟩ (fun u_3 H locs hp_3 h => ?_)
  have h : Hp D A s.heap (WX cI cJ cB cZ ad (Matrix_minor := 1)) H locs := h
  refine lv_iconst (v := 0) hx hb dX0_fill_15 (by decide) ?_
  refine lv_istore (lv' := [(6, .int 0), (0, .ref (ad 8)), (1, .long 0), (3, .long 0), (5, .int 1)]) hx hb dX0_fill_16 hl (by decide) rfl (fun ls hl => ?_)
  refine lv_iconst (v := 0) hx hb dX0_fill_18 (by decide) ?_
  refine lv_istore (lv' := [(7, .int 0), (6, .int 0), (0, .ref (ad 8)), (1, .long 0), (3, .long 0), (5, .int 1)]) hx hb dX0_fill_19 hl (by decide) rfl (fun ls hl => ?_)
  refine lv_iload hx hb dX0_fill_21 (lv_at hl 0 rfl) ?_
  refine lv_aload_n hx hb dX0_fill_23 rfl (lv_at hl 2 rfl) ?_
  refine x_get (ci := 0) (C := RX0) (T := TX0) (N := 4) (v := .ref (ad 3)) B h hin0 8 0 rfl rfl (by decide) (by decide +kernel) rfl dX0_fill_24 ?_
  refine x_get (ci := 9) (C := RX9) (T := TX9) (N := 7) (v := .int 0) B h hin9 3 0 rfl rfl (by decide) (by decide +kernel) rfl dX0_fill_27 ?_
  refine lv_icmp_ge (tgt := 94) hx hb dX0_fill_30 (by decide) (fun c_4 => ?_) (fun c_4 => absurd c_4 (by decide))
  exact x_vret (w1 := (fun _ => (WX cI cJ cB cZ ad (Matrix_minor := 1)))) () B h hr trivial dX0_fill_94
set_option maxHeartbeats 4000000 in
set_option maxRecDepth 100000 in
theorem k114_X0_rankOf (l : Launch) (D : va_G) (cI cJ cB cZ : ClassId) (ad bd : Nat → Nat) : MetI l yX0_rankOf wsX0_rankOf 2 89 0 0 D (TYS cI cJ cB cZ) (WX cI cJ cB cZ ad (Matrix_minor := 1)) [.ref (ad 8), .long 0, .int 2, .int 1] (fun (r : Int32) (_ : Unit) => r = 0) (fun _ => (WX cI cJ cB cZ ad (Matrix_minor := 1))) := by
  refine x_startI (ty := .int) (cc := cX0_rankOf) (by decide) rfl (Nat.le_of_ble_eq_true rfl) ?_
  intro p e s m args below meth c A ls B hr hnm h hl
  have hx := B.1.1
  have hb := B.1.2.1
  have hml := B.1.2.2.1
  have hts := B.1.2.2.2.2
  have hown : s.vm.findClass RX0 = some m.cls := B.1.2.2.2.1
  have hin0 : ∀ w ∈ u_ws RX0 TX0 4, w ∈ wsX0_rankOf := by decide +kernel
  have hin9 : ∀ w ∈ u_ws RX9 TX9 7, w ∈ wsX0_rankOf := by decide +kernel
  have hl : lv_has ls 5 [(0, .ref (ad 8)), (1, .long 0), (3, .int 2), (4, .int 1)] := hl
  refine lv_iload_n hx hb dX0_rankOf_0 rfl (lv_at hl 2 rfl) ?_
  refine lv_iconst (v := 1) hx hb dX0_rankOf_1 (by decide) ?_
  refine lv_icmp_lt (tgt := 10) hx hb dX0_rankOf_2 (by decide) (fun c_1 => absurd c_1 (by decide)) (fun c_1 => ?_)
  refine lv_iload_n hx hb dX0_rankOf_5 rfl (lv_at hl 2 rfl) ?_
  refine lv_iconst (v := 5) hx hb dX0_rankOf_6 (by decide) ?_
  refine lv_icmp_lt (tgt := 12) hx hb dX0_rankOf_7 (by decide) (fun c_2 => ?_) (fun c_2 => absurd c_2 (by decide))
  refine lv_aload_n hx hb dX0_rankOf_12 rfl (lv_at hl 0 rfl) ?_
  refine lv_lload_n hx hb dX0_rankOf_13 rfl (lv_at hl 1 rfl) ?_
  refine lv_aload_n hx hb dX0_rankOf_14 rfl (lv_at hl 0 rfl) ?_
  refine x_get (ci := 0) (C := RX0) (T := TX0) (N := 4) (v := .ref (ad 3)) B h hin0 8 0 rfl rfl (by decide) (by decide +kernel) rfl dX0_rankOf_15 ?_
  refine x_get (ci := 9) (C := RX9) (T := TX9) (N := 7) (v := .ref (ad 19)) B h hin9 3 6 rfl rfl (by decide) (by decide +kernel) rfl dX0_rankOf_18 ?_
  refine lv_iload_n hx hb dX0_rankOf_21 rfl (lv_at hl 2 rfl) ?_
  refine va_lald hx hb B.2.1 h.1 19 1 rfl rfl (vp_in_iff.mpr (by decide)) dX0_rankOf_22 ?_
  refine lv_topl (fun v_3 ev_3 => ?_)
  obtain rfl : v_3 = 0 := ev_3
  refine lv_land hx hb dX0_rankOf_23 ?_
  refine lv_topl (fun v_4 ev_4 => ?_)
  obtain rfl : v_4 = 0 := ev_4.trans (by decide)
  refine lv_lload_n hx hb dX0_rankOf_24 rfl (lv_at hl 1 rfl) ?_
  refine lv_aload_n hx hb dX0_rankOf_25 rfl (lv_at hl 0 rfl) ?_
  refine x_get (ci := 0) (C := RX0) (T := TX0) (N := 4) (v := .ref (ad 3)) B h hin0 8 0 rfl rfl (by decide) (by decide +kernel) rfl dX0_rankOf_26 ?_
  refine x_get (ci := 9) (C := RX9) (T := TX9) (N := 7) (v := .ref (ad 19)) B h hin9 3 6 rfl rfl (by decide) (by decide +kernel) rfl dX0_rankOf_29 ?_
  refine lv_iload_n hx hb dX0_rankOf_32 rfl (lv_at hl 2 rfl) ?_
  refine lv_iconst (v := 1) hx hb dX0_rankOf_33 (by decide) ?_
  refine lv_isub hx hb dX0_rankOf_34 ?_
  refine lv_topi (fun v_5 ev_5 => ?_)
  obtain rfl : v_5 = 1 := ev_5.trans (by decide)
  refine va_lald hx hb B.2.1 h.1 19 1 rfl rfl (vp_in_iff.mpr (by decide)) dX0_rankOf_35 ?_
  refine lv_topl (fun v_6 ev_6 => ?_)
  obtain rfl : v_6 = 0 := ev_6
  refine lv_land hx hb dX0_rankOf_36 ?_
  refine lv_topl (fun v_7 ev_7 => ?_)
  obtain rfl : v_7 = 0 := ev_7.trans (by decide)
  refine lv_iload hx hb dX0_rankOf_37 (lv_at hl 3 rfl) ?_
  refine x_cVVF (n := 3) (As := [.long 0, .long 0, .int 1]) (rest := []) B h (k113_X0_fill l D cI cJ cB cZ ad bd) ⟨⟨_, rfl⟩, by decide +kernel, Nat.le_of_ble_eq_true rfl, Nat.le_of_ble_eq_true rfl⟩ gX0_rankOf_X0_fill (show ((WX cI cJ cB cZ ad (Matrix_minor := 1)) : va_W)[8]? = some (_, .inr (0, _)) from rfl) rfl rfl hl.1 rfl (Nat.le_of_ble_eq_true rfl) dX0_rankOf_39 ⟨Nat.le_of_ble_eq_true rfl, Nat.le_of_ble_eq_true rfl⟩ (fun u_8 H locs hp_8 h => ?_)
  have h : Hp D A s.heap (WX cI cJ cB cZ ad (Matrix_minor := 1)) H locs := h
  refine lv_aload_n hx hb dX0_rankOf_42 rfl (lv_at hl 0 rfl) ?_
  refine x_get (ci := 0) (C := RX0) (T := TX0) (N := 4) (v := .ref (ad 11)) B h hin0 8 2 rfl rfl (by decide) (by decide +kernel) rfl dX0_rankOf_43 ?_
  refine x_cVIF (n := 0) (As := []) (rest := []) B h (k96_X5_eliminate l D cI cJ cB cZ ad bd) ⟨⟨_, rfl⟩, by decide +kernel, Nat.le_of_ble_eq_true rfl, Nat.le_of_ble_eq_true rfl⟩ gX0_rankOf_X5_eliminate (show ((WX cI cJ cB cZ ad (Matrix_minor := 1)) : va_W)[11]? = some (_, .inr (5, _)) from rfl) rfl rfl hl.1 rfl (Nat.le_of_ble_eq_true rfl) dX0_rankOf_46 ⟨Nat.le_of_ble_eq_true rfl, Nat.le_of_ble_eq_true rfl⟩ (fun r_9 u_9 H locs hp_9 h => ?_)
  obtain rfl := hp_9
  have h : Hp D A s.heap (WX cI cJ cB cZ ad (Matrix_minor := 1)) H locs := h
  exact x_iret (w1 := (fun _ => (WX cI cJ cB cZ ad (Matrix_minor := 1)))) () B h hr rfl rfl dX0_rankOf_49
set_option maxHeartbeats 4000000 in
set_option maxRecDepth 100000 in
theorem k115_X0_bettiOf (l : Launch) (D : va_G) (cI cJ cB cZ : ClassId) (ad bd : Nat → Nat) : MetI l yX0_bettiOf wsX0_bettiOf 3 113 0 0 D (TYS cI cJ cB cZ) (WX cI cJ cB cZ ad) [.ref (ad 8), .long 0, .int 1, .int 1] (fun (r : Int32) (_ : Unit) => r = 0) (fun _ => (WX cI cJ cB cZ ad (Matrix_minor := 1))) := by
  refine x_startI (ty := .int) (cc := cX0_bettiOf) (by decide) rfl (Nat.le_of_ble_eq_true rfl) ?_
  intro p e s m args below meth c A ls B hr hnm h hl
  have hx := B.1.1
  have hb := B.1.2.1
  have hml := B.1.2.2.1
  have hts := B.1.2.2.2.2
  have hown : s.vm.findClass RX0 = some m.cls := B.1.2.2.2.1
  have hin0 : ∀ w ∈ u_ws RX0 TX0 4, w ∈ wsX0_bettiOf := by decide +kernel
  have hin9 : ∀ w ∈ u_ws RX9 TX9 7, w ∈ wsX0_bettiOf := by decide +kernel
  have hl : lv_has ls 6 [(0, .ref (ad 8)), (1, .long 0), (3, .int 1), (4, .int 1)] := hl
  refine lv_lload_n hx hb dX0_bettiOf_0 rfl (lv_at hl 1 rfl) ?_
  refine lv_aload_n hx hb dX0_bettiOf_1 rfl (lv_at hl 0 rfl) ?_
  refine x_get (ci := 0) (C := RX0) (T := TX0) (N := 4) (v := .ref (ad 3)) B h hin0 8 0 rfl rfl (by decide) (by decide +kernel) rfl dX0_bettiOf_2 ?_
  refine x_get (ci := 9) (C := RX9) (T := TX9) (N := 7) (v := .ref (ad 19)) B h hin9 3 6 rfl rfl (by decide) (by decide +kernel) rfl dX0_bettiOf_5 ?_
  refine lv_iload_n hx hb dX0_bettiOf_8 rfl (lv_at hl 2 rfl) ?_
  refine va_lald hx hb B.2.1 h.1 19 1 rfl rfl (vp_in_iff.mpr (by decide)) dX0_bettiOf_9 ?_
  refine lv_topl (fun v_1 ev_1 => ?_)
  obtain rfl : v_1 = 0 := ev_1
  refine lv_land hx hb dX0_bettiOf_10 ?_
  refine lv_topl (fun v_2 ev_2 => ?_)
  obtain rfl : v_2 = 0 := ev_2.trans (by decide)
  refine x_cSIE (n := 1) (As := [.long 0]) (rest := []) B h (k65_J13_bitCount_95d88 l D cI cJ cB cZ ad bd) ⟨⟨_, rfl⟩, by decide +kernel, Nat.le_of_ble_eq_true rfl, Nat.le_of_ble_eq_true rfl⟩ gX0_bettiOf_J13_bitCount_95d88 rfl hl.1 rfl (Nat.le_of_ble_eq_true rfl) dX0_bettiOf_11 ⟨Nat.le_of_ble_eq_true rfl, Nat.le_of_ble_eq_true rfl⟩ (fun r_3 u_3 H locs hp_3 h => ?_)
  obtain rfl := hp_3
  have h : Hp D A s.heap (WX cI cJ cB cZ ad) H locs := h
  refine lv_istore (lv' := [(5, .int 0), (0, .ref (ad 8)), (1, .long 0), (3, .int 1), (4, .int 1)]) hx hb dX0_bettiOf_14 hl (by decide) rfl (fun ls hl => ?_)
  refine lv_iload hx hb dX0_bettiOf_16 (lv_at hl 0 rfl) ?_
  refine lv_aload_n hx hb dX0_bettiOf_18 rfl (lv_at hl 1 rfl) ?_
  refine lv_lload_n hx hb dX0_bettiOf_19 rfl (lv_at hl 2 rfl) ?_
  refine lv_iload_n hx hb dX0_bettiOf_20 rfl (lv_at hl 3 rfl) ?_
  refine lv_iload hx hb dX0_bettiOf_21 (lv_at hl 4 rfl) ?_
  refine x_cVIF (n := 3) (As := [.long 0, .int 1, .int 1]) (rest := [.int 0]) B h (k111_X0_rankOf l D cI cJ cB cZ ad bd) ⟨⟨_, rfl⟩, by decide +kernel, Nat.le_of_ble_eq_true rfl, Nat.le_of_ble_eq_true rfl⟩ gX0_bettiOf_X0_rankOf (show ((WX cI cJ cB cZ ad) : va_W)[8]? = some (_, .inr (0, _)) from rfl) rfl rfl hl.1 rfl (Nat.le_of_ble_eq_true rfl) dX0_bettiOf_23 ⟨Nat.le_of_ble_eq_true rfl, Nat.le_of_ble_eq_true rfl⟩ (fun r_4 u_4 H locs hp_4 h => ?_)
  obtain rfl := hp_4
  have h : Hp D A s.heap (WX cI cJ cB cZ ad (Matrix_minor := 1)) H locs := h
  refine lv_isub hx hb dX0_bettiOf_26 ?_
  refine lv_topi (fun v_5 ev_5 => ?_)
  obtain rfl : v_5 = 0 := ev_5.trans (by decide)
  refine lv_aload_n hx hb dX0_bettiOf_27 rfl (lv_at hl 1 rfl) ?_
  refine lv_lload_n hx hb dX0_bettiOf_28 rfl (lv_at hl 2 rfl) ?_
  refine lv_iload_n hx hb dX0_bettiOf_29 rfl (lv_at hl 3 rfl) ?_
  refine lv_iconst (v := 1) hx hb dX0_bettiOf_30 (by decide) ?_
  refine lv_iadd hx hb dX0_bettiOf_31 ?_
  refine lv_topi (fun v_6 ev_6 => ?_)
  obtain rfl : v_6 = 2 := ev_6.trans (by decide)
  refine lv_iload hx hb dX0_bettiOf_32 (lv_at hl 4 rfl) ?_
  refine x_cVIF (n := 3) (As := [.long 0, .int 2, .int 1]) (rest := [.int 0]) B h (k114_X0_rankOf l D cI cJ cB cZ ad bd) ⟨⟨_, rfl⟩, by decide +kernel, Nat.le_of_ble_eq_true rfl, Nat.le_of_ble_eq_true rfl⟩ gX0_bettiOf_X0_rankOf (show ((WX cI cJ cB cZ ad (Matrix_minor := 1)) : va_W)[8]? = some (_, .inr (0, _)) from rfl) rfl rfl hl.1 rfl (Nat.le_of_ble_eq_true rfl) dX0_bettiOf_34 ⟨Nat.le_of_ble_eq_true rfl, Nat.le_of_ble_eq_true rfl⟩ (fun r_7 u_7 H locs hp_7 h => ?_)
  obtain rfl := hp_7
  have h : Hp D A s.heap (WX cI cJ cB cZ ad (Matrix_minor := 1)) H locs := h
  refine lv_isub hx hb dX0_bettiOf_37 ?_
  refine lv_topi (fun v_8 ev_8 => ?_)
  obtain rfl : v_8 = 0 := ev_8.trans (by decide)
  exact x_iret (w1 := (fun _ => (WX cI cJ cB cZ ad (Matrix_minor := 1)))) () B h hr rfl rfl dX0_bettiOf_38
set_option maxHeartbeats 4000000 in
set_option maxRecDepth 100000 in
theorem k116_X0_rankOf (l : Launch) (D : va_G) (cI cJ cB cZ : ClassId) (ad bd : Nat → Nat) : MetI l yX0_rankOf wsX0_rankOf 2 89 0 0 D (TYS cI cJ cB cZ) (WX cI cJ cB cZ ad) [.ref (ad 8), .long 0, .int 2, .int 1] (fun (r : Int32) (_ : Unit) => r = 0) (fun _ => (WX cI cJ cB cZ ad (Matrix_minor := 1))) := by
  refine x_startI (ty := .int) (cc := cX0_rankOf) (by decide) rfl (Nat.le_of_ble_eq_true rfl) ?_
  intro p e s m args below meth c A ls B hr hnm h hl
  have hx := B.1.1
  have hb := B.1.2.1
  have hml := B.1.2.2.1
  have hts := B.1.2.2.2.2
  have hown : s.vm.findClass RX0 = some m.cls := B.1.2.2.2.1
  have hin0 : ∀ w ∈ u_ws RX0 TX0 4, w ∈ wsX0_rankOf := by decide +kernel
  have hin9 : ∀ w ∈ u_ws RX9 TX9 7, w ∈ wsX0_rankOf := by decide +kernel
  have hl : lv_has ls 5 [(0, .ref (ad 8)), (1, .long 0), (3, .int 2), (4, .int 1)] := hl
  refine lv_iload_n hx hb dX0_rankOf_0 rfl (lv_at hl 2 rfl) ?_
  refine lv_iconst (v := 1) hx hb dX0_rankOf_1 (by decide) ?_
  refine lv_icmp_lt (tgt := 10) hx hb dX0_rankOf_2 (by decide) (fun c_1 => absurd c_1 (by decide)) (fun c_1 => ?_)
  refine lv_iload_n hx hb dX0_rankOf_5 rfl (lv_at hl 2 rfl) ?_
  refine lv_iconst (v := 5) hx hb dX0_rankOf_6 (by decide) ?_
  refine lv_icmp_lt (tgt := 12) hx hb dX0_rankOf_7 (by decide) (fun c_2 => ?_) (fun c_2 => absurd c_2 (by decide))
  refine lv_aload_n hx hb dX0_rankOf_12 rfl (lv_at hl 0 rfl) ?_
  refine lv_lload_n hx hb dX0_rankOf_13 rfl (lv_at hl 1 rfl) ?_
  refine lv_aload_n hx hb dX0_rankOf_14 rfl (lv_at hl 0 rfl) ?_
  refine x_get (ci := 0) (C := RX0) (T := TX0) (N := 4) (v := .ref (ad 3)) B h hin0 8 0 rfl rfl (by decide) (by decide +kernel) rfl dX0_rankOf_15 ?_
  refine x_get (ci := 9) (C := RX9) (T := TX9) (N := 7) (v := .ref (ad 19)) B h hin9 3 6 rfl rfl (by decide) (by decide +kernel) rfl dX0_rankOf_18 ?_
  refine lv_iload_n hx hb dX0_rankOf_21 rfl (lv_at hl 2 rfl) ?_
  refine va_lald hx hb B.2.1 h.1 19 1 rfl rfl (vp_in_iff.mpr (by decide)) dX0_rankOf_22 ?_
  refine lv_topl (fun v_3 ev_3 => ?_)
  obtain rfl : v_3 = 0 := ev_3
  refine lv_land hx hb dX0_rankOf_23 ?_
  refine lv_topl (fun v_4 ev_4 => ?_)
  obtain rfl : v_4 = 0 := ev_4.trans (by decide)
  refine lv_lload_n hx hb dX0_rankOf_24 rfl (lv_at hl 1 rfl) ?_
  refine lv_aload_n hx hb dX0_rankOf_25 rfl (lv_at hl 0 rfl) ?_
  refine x_get (ci := 0) (C := RX0) (T := TX0) (N := 4) (v := .ref (ad 3)) B h hin0 8 0 rfl rfl (by decide) (by decide +kernel) rfl dX0_rankOf_26 ?_
  refine x_get (ci := 9) (C := RX9) (T := TX9) (N := 7) (v := .ref (ad 19)) B h hin9 3 6 rfl rfl (by decide) (by decide +kernel) rfl dX0_rankOf_29 ?_
  refine lv_iload_n hx hb dX0_rankOf_32 rfl (lv_at hl 2 rfl) ?_
  refine lv_iconst (v := 1) hx hb dX0_rankOf_33 (by decide) ?_
  refine lv_isub hx hb dX0_rankOf_34 ?_
  refine lv_topi (fun v_5 ev_5 => ?_)
  obtain rfl : v_5 = 1 := ev_5.trans (by decide)
  refine va_lald hx hb B.2.1 h.1 19 1 rfl rfl (vp_in_iff.mpr (by decide)) dX0_rankOf_35 ?_
  refine lv_topl (fun v_6 ev_6 => ?_)
  obtain rfl : v_6 = 0 := ev_6
  refine lv_land hx hb dX0_rankOf_36 ?_
  refine lv_topl (fun v_7 ev_7 => ?_)
  obtain rfl : v_7 = 0 := ev_7.trans (by decide)
  refine lv_iload hx hb dX0_rankOf_37 (lv_at hl 3 rfl) ?_
  refine x_cVVF (n := 3) (As := [.long 0, .long 0, .int 1]) (rest := []) B h (k110_X0_fill l D cI cJ cB cZ ad bd) ⟨⟨_, rfl⟩, by decide +kernel, Nat.le_of_ble_eq_true rfl, Nat.le_of_ble_eq_true rfl⟩ gX0_rankOf_X0_fill (show ((WX cI cJ cB cZ ad) : va_W)[8]? = some (_, .inr (0, _)) from rfl) rfl rfl hl.1 rfl (Nat.le_of_ble_eq_true rfl) dX0_rankOf_39 ⟨Nat.le_of_ble_eq_true rfl, Nat.le_of_ble_eq_true rfl⟩ (fun u_8 H locs hp_8 h => ?_)
  have h : Hp D A s.heap (WX cI cJ cB cZ ad) H locs := h
  refine lv_aload_n hx hb dX0_rankOf_42 rfl (lv_at hl 0 rfl) ?_
  refine x_get (ci := 0) (C := RX0) (T := TX0) (N := 4) (v := .ref (ad 11)) B h hin0 8 2 rfl rfl (by decide) (by decide +kernel) rfl dX0_rankOf_43 ?_
  refine x_cVIF (n := 0) (As := []) (rest := []) B h (k91_X5_eliminate l D cI cJ cB cZ ad bd) ⟨⟨_, rfl⟩, by decide +kernel, Nat.le_of_ble_eq_true rfl, Nat.le_of_ble_eq_true rfl⟩ gX0_rankOf_X5_eliminate (show ((WX cI cJ cB cZ ad) : va_W)[11]? = some (_, .inr (5, _)) from rfl) rfl rfl hl.1 rfl (Nat.le_of_ble_eq_true rfl) dX0_rankOf_46 ⟨Nat.le_of_ble_eq_true rfl, Nat.le_of_ble_eq_true rfl⟩ (fun r_9 u_9 H locs hp_9 h => ?_)
  obtain rfl := hp_9
  have h : Hp D A s.heap (WX cI cJ cB cZ ad (Matrix_minor := 1)) H locs := h
  exact x_iret (w1 := (fun _ => (WX cI cJ cB cZ ad (Matrix_minor := 1)))) () B h hr rfl rfl dX0_rankOf_49
set_option maxHeartbeats 4000000 in
set_option maxRecDepth 100000 in
theorem k117_X0_rankOf (l : Launch) (D : va_G) (cI cJ cB cZ : ClassId) (ad bd : Nat → Nat) : MetI l yX0_rankOf wsX0_rankOf 2 89 0 0 D (TYS cI cJ cB cZ) (WX cI cJ cB cZ ad (Matrix_minor := 1)) [.ref (ad 8), .long 0, .int 3, .int 1] (fun (r : Int32) (_ : Unit) => r = 0) (fun _ => (WX cI cJ cB cZ ad (Matrix_minor := 1))) := by
  refine x_startI (ty := .int) (cc := cX0_rankOf) (by decide) rfl (Nat.le_of_ble_eq_true rfl) ?_
  intro p e s m args below meth c A ls B hr hnm h hl
  have hx := B.1.1
  have hb := B.1.2.1
  have hml := B.1.2.2.1
  have hts := B.1.2.2.2.2
  have hown : s.vm.findClass RX0 = some m.cls := B.1.2.2.2.1
  have hin0 : ∀ w ∈ u_ws RX0 TX0 4, w ∈ wsX0_rankOf := by decide +kernel
  have hin9 : ∀ w ∈ u_ws RX9 TX9 7, w ∈ wsX0_rankOf := by decide +kernel
  have hl : lv_has ls 5 [(0, .ref (ad 8)), (1, .long 0), (3, .int 3), (4, .int 1)] := hl
  refine lv_iload_n hx hb dX0_rankOf_0 rfl (lv_at hl 2 rfl) ?_
  refine lv_iconst (v := 1) hx hb dX0_rankOf_1 (by decide) ?_
  refine lv_icmp_lt (tgt := 10) hx hb dX0_rankOf_2 (by decide) (fun c_1 => absurd c_1 (by decide)) (fun c_1 => ?_)
  refine lv_iload_n hx hb dX0_rankOf_5 rfl (lv_at hl 2 rfl) ?_
  refine lv_iconst (v := 5) hx hb dX0_rankOf_6 (by decide) ?_
  refine lv_icmp_lt (tgt := 12) hx hb dX0_rankOf_7 (by decide) (fun c_2 => ?_) (fun c_2 => absurd c_2 (by decide))
  refine lv_aload_n hx hb dX0_rankOf_12 rfl (lv_at hl 0 rfl) ?_
  refine lv_lload_n hx hb dX0_rankOf_13 rfl (lv_at hl 1 rfl) ?_
  refine lv_aload_n hx hb dX0_rankOf_14 rfl (lv_at hl 0 rfl) ?_
  refine x_get (ci := 0) (C := RX0) (T := TX0) (N := 4) (v := .ref (ad 3)) B h hin0 8 0 rfl rfl (by decide) (by decide +kernel) rfl dX0_rankOf_15 ?_
  refine x_get (ci := 9) (C := RX9) (T := TX9) (N := 7) (v := .ref (ad 19)) B h hin9 3 6 rfl rfl (by decide) (by decide +kernel) rfl dX0_rankOf_18 ?_
  refine lv_iload_n hx hb dX0_rankOf_21 rfl (lv_at hl 2 rfl) ?_
  refine va_lald hx hb B.2.1 h.1 19 1 rfl rfl (vp_in_iff.mpr (by decide)) dX0_rankOf_22 ?_
  refine lv_topl (fun v_3 ev_3 => ?_)
  obtain rfl : v_3 = 0 := ev_3
  refine lv_land hx hb dX0_rankOf_23 ?_
  refine lv_topl (fun v_4 ev_4 => ?_)
  obtain rfl : v_4 = 0 := ev_4.trans (by decide)
  refine lv_lload_n hx hb dX0_rankOf_24 rfl (lv_at hl 1 rfl) ?_
  refine lv_aload_n hx hb dX0_rankOf_25 rfl (lv_at hl 0 rfl) ?_
  refine x_get (ci := 0) (C := RX0) (T := TX0) (N := 4) (v := .ref (ad 3)) B h hin0 8 0 rfl rfl (by decide) (by decide +kernel) rfl dX0_rankOf_26 ?_
  refine x_get (ci := 9) (C := RX9) (T := TX9) (N := 7) (v := .ref (ad 19)) B h hin9 3 6 rfl rfl (by decide) (by decide +kernel) rfl dX0_rankOf_29 ?_
  refine lv_iload_n hx hb dX0_rankOf_32 rfl (lv_at hl 2 rfl) ?_
  refine lv_iconst (v := 1) hx hb dX0_rankOf_33 (by decide) ?_
  refine lv_isub hx hb dX0_rankOf_34 ?_
  refine lv_topi (fun v_5 ev_5 => ?_)
  obtain rfl : v_5 = 2 := ev_5.trans (by decide)
  refine va_lald hx hb B.2.1 h.1 19 1 rfl rfl (vp_in_iff.mpr (by decide)) dX0_rankOf_35 ?_
  refine lv_topl (fun v_6 ev_6 => ?_)
  obtain rfl : v_6 = 0 := ev_6
  refine lv_land hx hb dX0_rankOf_36 ?_
  refine lv_topl (fun v_7 ev_7 => ?_)
  obtain rfl : v_7 = 0 := ev_7.trans (by decide)
  refine lv_iload hx hb dX0_rankOf_37 (lv_at hl 3 rfl) ?_
  refine x_cVVF (n := 3) (As := [.long 0, .long 0, .int 1]) (rest := []) B h (k113_X0_fill l D cI cJ cB cZ ad bd) ⟨⟨_, rfl⟩, by decide +kernel, Nat.le_of_ble_eq_true rfl, Nat.le_of_ble_eq_true rfl⟩ gX0_rankOf_X0_fill (show ((WX cI cJ cB cZ ad (Matrix_minor := 1)) : va_W)[8]? = some (_, .inr (0, _)) from rfl) rfl rfl hl.1 rfl (Nat.le_of_ble_eq_true rfl) dX0_rankOf_39 ⟨Nat.le_of_ble_eq_true rfl, Nat.le_of_ble_eq_true rfl⟩ (fun u_8 H locs hp_8 h => ?_)
  have h : Hp D A s.heap (WX cI cJ cB cZ ad (Matrix_minor := 1)) H locs := h
  refine lv_aload_n hx hb dX0_rankOf_42 rfl (lv_at hl 0 rfl) ?_
  refine x_get (ci := 0) (C := RX0) (T := TX0) (N := 4) (v := .ref (ad 11)) B h hin0 8 2 rfl rfl (by decide) (by decide +kernel) rfl dX0_rankOf_43 ?_
  refine x_cVIF (n := 0) (As := []) (rest := []) B h (k96_X5_eliminate l D cI cJ cB cZ ad bd) ⟨⟨_, rfl⟩, by decide +kernel, Nat.le_of_ble_eq_true rfl, Nat.le_of_ble_eq_true rfl⟩ gX0_rankOf_X5_eliminate (show ((WX cI cJ cB cZ ad (Matrix_minor := 1)) : va_W)[11]? = some (_, .inr (5, _)) from rfl) rfl rfl hl.1 rfl (Nat.le_of_ble_eq_true rfl) dX0_rankOf_46 ⟨Nat.le_of_ble_eq_true rfl, Nat.le_of_ble_eq_true rfl⟩ (fun r_9 u_9 H locs hp_9 h => ?_)
  obtain rfl := hp_9
  have h : Hp D A s.heap (WX cI cJ cB cZ ad (Matrix_minor := 1)) H locs := h
  exact x_iret (w1 := (fun _ => (WX cI cJ cB cZ ad (Matrix_minor := 1)))) () B h hr rfl rfl dX0_rankOf_49
set_option maxHeartbeats 4000000 in
set_option maxRecDepth 100000 in
theorem k118_X0_bettiOf (l : Launch) (D : va_G) (cI cJ cB cZ : ClassId) (ad bd : Nat → Nat) : MetI l yX0_bettiOf wsX0_bettiOf 3 113 0 0 D (TYS cI cJ cB cZ) (WX cI cJ cB cZ ad) [.ref (ad 8), .long 0, .int 2, .int 1] (fun (r : Int32) (_ : Unit) => r = 0) (fun _ => (WX cI cJ cB cZ ad (Matrix_minor := 1))) := by
  refine x_startI (ty := .int) (cc := cX0_bettiOf) (by decide) rfl (Nat.le_of_ble_eq_true rfl) ?_
  intro p e s m args below meth c A ls B hr hnm h hl
  have hx := B.1.1
  have hb := B.1.2.1
  have hml := B.1.2.2.1
  have hts := B.1.2.2.2.2
  have hown : s.vm.findClass RX0 = some m.cls := B.1.2.2.2.1
  have hin0 : ∀ w ∈ u_ws RX0 TX0 4, w ∈ wsX0_bettiOf := by decide +kernel
  have hin9 : ∀ w ∈ u_ws RX9 TX9 7, w ∈ wsX0_bettiOf := by decide +kernel
  have hl : lv_has ls 6 [(0, .ref (ad 8)), (1, .long 0), (3, .int 2), (4, .int 1)] := hl
  refine lv_lload_n hx hb dX0_bettiOf_0 rfl (lv_at hl 1 rfl) ?_
  refine lv_aload_n hx hb dX0_bettiOf_1 rfl (lv_at hl 0 rfl) ?_
  refine x_get (ci := 0) (C := RX0) (T := TX0) (N := 4) (v := .ref (ad 3)) B h hin0 8 0 rfl rfl (by decide) (by decide +kernel) rfl dX0_bettiOf_2 ?_
  refine x_get (ci := 9) (C := RX9) (T := TX9) (N := 7) (v := .ref (ad 19)) B h hin9 3 6 rfl rfl (by decide) (by decide +kernel) rfl dX0_bettiOf_5 ?_
  refine lv_iload_n hx hb dX0_bettiOf_8 rfl (lv_at hl 2 rfl) ?_
  refine va_lald hx hb B.2.1 h.1 19 1 rfl rfl (vp_in_iff.mpr (by decide)) dX0_bettiOf_9 ?_
  refine lv_topl (fun v_1 ev_1 => ?_)
  obtain rfl : v_1 = 0 := ev_1
  refine lv_land hx hb dX0_bettiOf_10 ?_
  refine lv_topl (fun v_2 ev_2 => ?_)
  obtain rfl : v_2 = 0 := ev_2.trans (by decide)
  refine x_cSIE (n := 1) (As := [.long 0]) (rest := []) B h (k65_J13_bitCount_95d88 l D cI cJ cB cZ ad bd) ⟨⟨_, rfl⟩, by decide +kernel, Nat.le_of_ble_eq_true rfl, Nat.le_of_ble_eq_true rfl⟩ gX0_bettiOf_J13_bitCount_95d88 rfl hl.1 rfl (Nat.le_of_ble_eq_true rfl) dX0_bettiOf_11 ⟨Nat.le_of_ble_eq_true rfl, Nat.le_of_ble_eq_true rfl⟩ (fun r_3 u_3 H locs hp_3 h => ?_)
  obtain rfl := hp_3
  have h : Hp D A s.heap (WX cI cJ cB cZ ad) H locs := h
  refine lv_istore (lv' := [(5, .int 0), (0, .ref (ad 8)), (1, .long 0), (3, .int 2), (4, .int 1)]) hx hb dX0_bettiOf_14 hl (by decide) rfl (fun ls hl => ?_)
  refine lv_iload hx hb dX0_bettiOf_16 (lv_at hl 0 rfl) ?_
  refine lv_aload_n hx hb dX0_bettiOf_18 rfl (lv_at hl 1 rfl) ?_
  refine lv_lload_n hx hb dX0_bettiOf_19 rfl (lv_at hl 2 rfl) ?_
  refine lv_iload_n hx hb dX0_bettiOf_20 rfl (lv_at hl 3 rfl) ?_
  refine lv_iload hx hb dX0_bettiOf_21 (lv_at hl 4 rfl) ?_
  refine x_cVIF (n := 3) (As := [.long 0, .int 2, .int 1]) (rest := [.int 0]) B h (k116_X0_rankOf l D cI cJ cB cZ ad bd) ⟨⟨_, rfl⟩, by decide +kernel, Nat.le_of_ble_eq_true rfl, Nat.le_of_ble_eq_true rfl⟩ gX0_bettiOf_X0_rankOf (show ((WX cI cJ cB cZ ad) : va_W)[8]? = some (_, .inr (0, _)) from rfl) rfl rfl hl.1 rfl (Nat.le_of_ble_eq_true rfl) dX0_bettiOf_23 ⟨Nat.le_of_ble_eq_true rfl, Nat.le_of_ble_eq_true rfl⟩ (fun r_4 u_4 H locs hp_4 h => ?_)
  obtain rfl := hp_4
  have h : Hp D A s.heap (WX cI cJ cB cZ ad (Matrix_minor := 1)) H locs := h
  refine lv_isub hx hb dX0_bettiOf_26 ?_
  refine lv_topi (fun v_5 ev_5 => ?_)
  obtain rfl : v_5 = 0 := ev_5.trans (by decide)
  refine lv_aload_n hx hb dX0_bettiOf_27 rfl (lv_at hl 1 rfl) ?_
  refine lv_lload_n hx hb dX0_bettiOf_28 rfl (lv_at hl 2 rfl) ?_
  refine lv_iload_n hx hb dX0_bettiOf_29 rfl (lv_at hl 3 rfl) ?_
  refine lv_iconst (v := 1) hx hb dX0_bettiOf_30 (by decide) ?_
  refine lv_iadd hx hb dX0_bettiOf_31 ?_
  refine lv_topi (fun v_6 ev_6 => ?_)
  obtain rfl : v_6 = 3 := ev_6.trans (by decide)
  refine lv_iload hx hb dX0_bettiOf_32 (lv_at hl 4 rfl) ?_
  refine x_cVIF (n := 3) (As := [.long 0, .int 3, .int 1]) (rest := [.int 0]) B h (k117_X0_rankOf l D cI cJ cB cZ ad bd) ⟨⟨_, rfl⟩, by decide +kernel, Nat.le_of_ble_eq_true rfl, Nat.le_of_ble_eq_true rfl⟩ gX0_bettiOf_X0_rankOf (show ((WX cI cJ cB cZ ad (Matrix_minor := 1)) : va_W)[8]? = some (_, .inr (0, _)) from rfl) rfl rfl hl.1 rfl (Nat.le_of_ble_eq_true rfl) dX0_bettiOf_34 ⟨Nat.le_of_ble_eq_true rfl, Nat.le_of_ble_eq_true rfl⟩ (fun r_7 u_7 H locs hp_7 h => ?_)
  obtain rfl := hp_7
  have h : Hp D A s.heap (WX cI cJ cB cZ ad (Matrix_minor := 1)) H locs := h
  refine lv_isub hx hb dX0_bettiOf_37 ?_
  refine lv_topi (fun v_8 ev_8 => ?_)
  obtain rfl : v_8 = 0 := ev_8.trans (by decide)
  exact x_iret (w1 := (fun _ => (WX cI cJ cB cZ ad (Matrix_minor := 1)))) () B h hr rfl rfl dX0_bettiOf_38
set_option maxHeartbeats 4000000 in
set_option maxRecDepth 100000 in
theorem k119_X0_rankOf (l : Launch) (D : va_G) (cI cJ cB cZ : ClassId) (ad bd : Nat → Nat) : MetI l yX0_rankOf wsX0_rankOf 2 89 0 0 D (TYS cI cJ cB cZ) (WX cI cJ cB cZ ad) [.ref (ad 8), .long 0, .int 3, .int 1] (fun (r : Int32) (_ : Unit) => r = 0) (fun _ => (WX cI cJ cB cZ ad (Matrix_minor := 1))) := by
  refine x_startI (ty := .int) (cc := cX0_rankOf) (by decide) rfl (Nat.le_of_ble_eq_true rfl) ?_
  intro p e s m args below meth c A ls B hr hnm h hl
  have hx := B.1.1
  have hb := B.1.2.1
  have hml := B.1.2.2.1
  have hts := B.1.2.2.2.2
  have hown : s.vm.findClass RX0 = some m.cls := B.1.2.2.2.1
  have hin0 : ∀ w ∈ u_ws RX0 TX0 4, w ∈ wsX0_rankOf := by decide +kernel
  have hin9 : ∀ w ∈ u_ws RX9 TX9 7, w ∈ wsX0_rankOf := by decide +kernel
  have hl : lv_has ls 5 [(0, .ref (ad 8)), (1, .long 0), (3, .int 3), (4, .int 1)] := hl
  refine lv_iload_n hx hb dX0_rankOf_0 rfl (lv_at hl 2 rfl) ?_
  refine lv_iconst (v := 1) hx hb dX0_rankOf_1 (by decide) ?_
  refine lv_icmp_lt (tgt := 10) hx hb dX0_rankOf_2 (by decide) (fun c_1 => absurd c_1 (by decide)) (fun c_1 => ?_)
  refine lv_iload_n hx hb dX0_rankOf_5 rfl (lv_at hl 2 rfl) ?_
  refine lv_iconst (v := 5) hx hb dX0_rankOf_6 (by decide) ?_
  refine lv_icmp_lt (tgt := 12) hx hb dX0_rankOf_7 (by decide) (fun c_2 => ?_) (fun c_2 => absurd c_2 (by decide))
  refine lv_aload_n hx hb dX0_rankOf_12 rfl (lv_at hl 0 rfl) ?_
  refine lv_lload_n hx hb dX0_rankOf_13 rfl (lv_at hl 1 rfl) ?_
  refine lv_aload_n hx hb dX0_rankOf_14 rfl (lv_at hl 0 rfl) ?_
  refine x_get (ci := 0) (C := RX0) (T := TX0) (N := 4) (v := .ref (ad 3)) B h hin0 8 0 rfl rfl (by decide) (by decide +kernel) rfl dX0_rankOf_15 ?_
  refine x_get (ci := 9) (C := RX9) (T := TX9) (N := 7) (v := .ref (ad 19)) B h hin9 3 6 rfl rfl (by decide) (by decide +kernel) rfl dX0_rankOf_18 ?_
  refine lv_iload_n hx hb dX0_rankOf_21 rfl (lv_at hl 2 rfl) ?_
  refine va_lald hx hb B.2.1 h.1 19 1 rfl rfl (vp_in_iff.mpr (by decide)) dX0_rankOf_22 ?_
  refine lv_topl (fun v_3 ev_3 => ?_)
  obtain rfl : v_3 = 0 := ev_3
  refine lv_land hx hb dX0_rankOf_23 ?_
  refine lv_topl (fun v_4 ev_4 => ?_)
  obtain rfl : v_4 = 0 := ev_4.trans (by decide)
  refine lv_lload_n hx hb dX0_rankOf_24 rfl (lv_at hl 1 rfl) ?_
  refine lv_aload_n hx hb dX0_rankOf_25 rfl (lv_at hl 0 rfl) ?_
  refine x_get (ci := 0) (C := RX0) (T := TX0) (N := 4) (v := .ref (ad 3)) B h hin0 8 0 rfl rfl (by decide) (by decide +kernel) rfl dX0_rankOf_26 ?_
  refine x_get (ci := 9) (C := RX9) (T := TX9) (N := 7) (v := .ref (ad 19)) B h hin9 3 6 rfl rfl (by decide) (by decide +kernel) rfl dX0_rankOf_29 ?_
  refine lv_iload_n hx hb dX0_rankOf_32 rfl (lv_at hl 2 rfl) ?_
  refine lv_iconst (v := 1) hx hb dX0_rankOf_33 (by decide) ?_
  refine lv_isub hx hb dX0_rankOf_34 ?_
  refine lv_topi (fun v_5 ev_5 => ?_)
  obtain rfl : v_5 = 2 := ev_5.trans (by decide)
  refine va_lald hx hb B.2.1 h.1 19 1 rfl rfl (vp_in_iff.mpr (by decide)) dX0_rankOf_35 ?_
  refine lv_topl (fun v_6 ev_6 => ?_)
  obtain rfl : v_6 = 0 := ev_6
  refine lv_land hx hb dX0_rankOf_36 ?_
  refine lv_topl (fun v_7 ev_7 => ?_)
  obtain rfl : v_7 = 0 := ev_7.trans (by decide)
  refine lv_iload hx hb dX0_rankOf_37 (lv_at hl 3 rfl) ?_
  refine x_cVVF (n := 3) (As := [.long 0, .long 0, .int 1]) (rest := []) B h (k110_X0_fill l D cI cJ cB cZ ad bd) ⟨⟨_, rfl⟩, by decide +kernel, Nat.le_of_ble_eq_true rfl, Nat.le_of_ble_eq_true rfl⟩ gX0_rankOf_X0_fill (show ((WX cI cJ cB cZ ad) : va_W)[8]? = some (_, .inr (0, _)) from rfl) rfl rfl hl.1 rfl (Nat.le_of_ble_eq_true rfl) dX0_rankOf_39 ⟨Nat.le_of_ble_eq_true rfl, Nat.le_of_ble_eq_true rfl⟩ (fun u_8 H locs hp_8 h => ?_)
  have h : Hp D A s.heap (WX cI cJ cB cZ ad) H locs := h
  refine lv_aload_n hx hb dX0_rankOf_42 rfl (lv_at hl 0 rfl) ?_
  refine x_get (ci := 0) (C := RX0) (T := TX0) (N := 4) (v := .ref (ad 11)) B h hin0 8 2 rfl rfl (by decide) (by decide +kernel) rfl dX0_rankOf_43 ?_
  refine x_cVIF (n := 0) (As := []) (rest := []) B h (k91_X5_eliminate l D cI cJ cB cZ ad bd) ⟨⟨_, rfl⟩, by decide +kernel, Nat.le_of_ble_eq_true rfl, Nat.le_of_ble_eq_true rfl⟩ gX0_rankOf_X5_eliminate (show ((WX cI cJ cB cZ ad) : va_W)[11]? = some (_, .inr (5, _)) from rfl) rfl rfl hl.1 rfl (Nat.le_of_ble_eq_true rfl) dX0_rankOf_46 ⟨Nat.le_of_ble_eq_true rfl, Nat.le_of_ble_eq_true rfl⟩ (fun r_9 u_9 H locs hp_9 h => ?_)
  obtain rfl := hp_9
  have h : Hp D A s.heap (WX cI cJ cB cZ ad (Matrix_minor := 1)) H locs := h
  exact x_iret (w1 := (fun _ => (WX cI cJ cB cZ ad (Matrix_minor := 1)))) () B h hr rfl rfl dX0_rankOf_49
set_option maxHeartbeats 4000000 in
set_option maxRecDepth 100000 in
theorem k120_X0_rankOf (l : Launch) (D : va_G) (cI cJ cB cZ : ClassId) (ad bd : Nat → Nat) : MetI l yX0_rankOf wsX0_rankOf 2 89 0 0 D (TYS cI cJ cB cZ) (WX cI cJ cB cZ ad (Matrix_minor := 1)) [.ref (ad 8), .long 0, .int 4, .int 1] (fun (r : Int32) (_ : Unit) => r = 0) (fun _ => (WX cI cJ cB cZ ad (Matrix_minor := 1))) := by
  refine x_startI (ty := .int) (cc := cX0_rankOf) (by decide) rfl (Nat.le_of_ble_eq_true rfl) ?_
  intro p e s m args below meth c A ls B hr hnm h hl
  have hx := B.1.1
  have hb := B.1.2.1
  have hml := B.1.2.2.1
  have hts := B.1.2.2.2.2
  have hown : s.vm.findClass RX0 = some m.cls := B.1.2.2.2.1
  have hin0 : ∀ w ∈ u_ws RX0 TX0 4, w ∈ wsX0_rankOf := by decide +kernel
  have hin9 : ∀ w ∈ u_ws RX9 TX9 7, w ∈ wsX0_rankOf := by decide +kernel
  have hl : lv_has ls 5 [(0, .ref (ad 8)), (1, .long 0), (3, .int 4), (4, .int 1)] := hl
  refine lv_iload_n hx hb dX0_rankOf_0 rfl (lv_at hl 2 rfl) ?_
  refine lv_iconst (v := 1) hx hb dX0_rankOf_1 (by decide) ?_
  refine lv_icmp_lt (tgt := 10) hx hb dX0_rankOf_2 (by decide) (fun c_1 => absurd c_1 (by decide)) (fun c_1 => ?_)
  refine lv_iload_n hx hb dX0_rankOf_5 rfl (lv_at hl 2 rfl) ?_
  refine lv_iconst (v := 5) hx hb dX0_rankOf_6 (by decide) ?_
  refine lv_icmp_lt (tgt := 12) hx hb dX0_rankOf_7 (by decide) (fun c_2 => ?_) (fun c_2 => absurd c_2 (by decide))
  refine lv_aload_n hx hb dX0_rankOf_12 rfl (lv_at hl 0 rfl) ?_
  refine lv_lload_n hx hb dX0_rankOf_13 rfl (lv_at hl 1 rfl) ?_
  refine lv_aload_n hx hb dX0_rankOf_14 rfl (lv_at hl 0 rfl) ?_
  refine x_get (ci := 0) (C := RX0) (T := TX0) (N := 4) (v := .ref (ad 3)) B h hin0 8 0 rfl rfl (by decide) (by decide +kernel) rfl dX0_rankOf_15 ?_
  refine x_get (ci := 9) (C := RX9) (T := TX9) (N := 7) (v := .ref (ad 19)) B h hin9 3 6 rfl rfl (by decide) (by decide +kernel) rfl dX0_rankOf_18 ?_
  refine lv_iload_n hx hb dX0_rankOf_21 rfl (lv_at hl 2 rfl) ?_
  refine va_lald hx hb B.2.1 h.1 19 1 rfl rfl (vp_in_iff.mpr (by decide)) dX0_rankOf_22 ?_
  refine lv_topl (fun v_3 ev_3 => ?_)
  obtain rfl : v_3 = 0 := ev_3
  refine lv_land hx hb dX0_rankOf_23 ?_
  refine lv_topl (fun v_4 ev_4 => ?_)
  obtain rfl : v_4 = 0 := ev_4.trans (by decide)
  refine lv_lload_n hx hb dX0_rankOf_24 rfl (lv_at hl 1 rfl) ?_
  refine lv_aload_n hx hb dX0_rankOf_25 rfl (lv_at hl 0 rfl) ?_
  refine x_get (ci := 0) (C := RX0) (T := TX0) (N := 4) (v := .ref (ad 3)) B h hin0 8 0 rfl rfl (by decide) (by decide +kernel) rfl dX0_rankOf_26 ?_
  refine x_get (ci := 9) (C := RX9) (T := TX9) (N := 7) (v := .ref (ad 19)) B h hin9 3 6 rfl rfl (by decide) (by decide +kernel) rfl dX0_rankOf_29 ?_
  refine lv_iload_n hx hb dX0_rankOf_32 rfl (lv_at hl 2 rfl) ?_
  refine lv_iconst (v := 1) hx hb dX0_rankOf_33 (by decide) ?_
  refine lv_isub hx hb dX0_rankOf_34 ?_
  refine lv_topi (fun v_5 ev_5 => ?_)
  obtain rfl : v_5 = 3 := ev_5.trans (by decide)
  refine va_lald hx hb B.2.1 h.1 19 1 rfl rfl (vp_in_iff.mpr (by decide)) dX0_rankOf_35 ?_
  refine lv_topl (fun v_6 ev_6 => ?_)
  obtain rfl : v_6 = 0 := ev_6
  refine lv_land hx hb dX0_rankOf_36 ?_
  refine lv_topl (fun v_7 ev_7 => ?_)
  obtain rfl : v_7 = 0 := ev_7.trans (by decide)
  refine lv_iload hx hb dX0_rankOf_37 (lv_at hl 3 rfl) ?_
  refine x_cVVF (n := 3) (As := [.long 0, .long 0, .int 1]) (rest := []) B h (k113_X0_fill l D cI cJ cB cZ ad bd) ⟨⟨_, rfl⟩, by decide +kernel, Nat.le_of_ble_eq_true rfl, Nat.le_of_ble_eq_true rfl⟩ gX0_rankOf_X0_fill (show ((WX cI cJ cB cZ ad (Matrix_minor := 1)) : va_W)[8]? = some (_, .inr (0, _)) from rfl) rfl rfl hl.1 rfl (Nat.le_of_ble_eq_true rfl) dX0_rankOf_39 ⟨Nat.le_of_ble_eq_true rfl, Nat.le_of_ble_eq_true rfl⟩ (fun u_8 H locs hp_8 h => ?_)
  have h : Hp D A s.heap (WX cI cJ cB cZ ad (Matrix_minor := 1)) H locs := h
  refine lv_aload_n hx hb dX0_rankOf_42 rfl (lv_at hl 0 rfl) ?_
  refine x_get (ci := 0) (C := RX0) (T := TX0) (N := 4) (v := .ref (ad 11)) B h hin0 8 2 rfl rfl (by decide) (by decide +kernel) rfl dX0_rankOf_43 ?_
  refine x_cVIF (n := 0) (As := []) (rest := []) B h (k96_X5_eliminate l D cI cJ cB cZ ad bd) ⟨⟨_, rfl⟩, by decide +kernel, Nat.le_of_ble_eq_true rfl, Nat.le_of_ble_eq_true rfl⟩ gX0_rankOf_X5_eliminate (show ((WX cI cJ cB cZ ad (Matrix_minor := 1)) : va_W)[11]? = some (_, .inr (5, _)) from rfl) rfl rfl hl.1 rfl (Nat.le_of_ble_eq_true rfl) dX0_rankOf_46 ⟨Nat.le_of_ble_eq_true rfl, Nat.le_of_ble_eq_true rfl⟩ (fun r_9 u_9 H locs hp_9 h => ?_)
  obtain rfl := hp_9
  have h : Hp D A s.heap (WX cI cJ cB cZ ad (Matrix_minor := 1)) H locs := h
  exact x_iret (w1 := (fun _ => (WX cI cJ cB cZ ad (Matrix_minor := 1)))) () B h hr rfl rfl dX0_rankOf_49
set_option maxHeartbeats 4000000 in
set_option maxRecDepth 100000 in
theorem k121_X0_bettiOf (l : Launch) (D : va_G) (cI cJ cB cZ : ClassId) (ad bd : Nat → Nat) : MetI l yX0_bettiOf wsX0_bettiOf 3 113 0 0 D (TYS cI cJ cB cZ) (WX cI cJ cB cZ ad) [.ref (ad 8), .long 0, .int 3, .int 1] (fun (r : Int32) (_ : Unit) => r = 0) (fun _ => (WX cI cJ cB cZ ad (Matrix_minor := 1))) := by
  refine x_startI (ty := .int) (cc := cX0_bettiOf) (by decide) rfl (Nat.le_of_ble_eq_true rfl) ?_
  intro p e s m args below meth c A ls B hr hnm h hl
  have hx := B.1.1
  have hb := B.1.2.1
  have hml := B.1.2.2.1
  have hts := B.1.2.2.2.2
  have hown : s.vm.findClass RX0 = some m.cls := B.1.2.2.2.1
  have hin0 : ∀ w ∈ u_ws RX0 TX0 4, w ∈ wsX0_bettiOf := by decide +kernel
  have hin9 : ∀ w ∈ u_ws RX9 TX9 7, w ∈ wsX0_bettiOf := by decide +kernel
  have hl : lv_has ls 6 [(0, .ref (ad 8)), (1, .long 0), (3, .int 3), (4, .int 1)] := hl
  refine lv_lload_n hx hb dX0_bettiOf_0 rfl (lv_at hl 1 rfl) ?_
  refine lv_aload_n hx hb dX0_bettiOf_1 rfl (lv_at hl 0 rfl) ?_
  refine x_get (ci := 0) (C := RX0) (T := TX0) (N := 4) (v := .ref (ad 3)) B h hin0 8 0 rfl rfl (by decide) (by decide +kernel) rfl dX0_bettiOf_2 ?_
  refine x_get (ci := 9) (C := RX9) (T := TX9) (N := 7) (v := .ref (ad 19)) B h hin9 3 6 rfl rfl (by decide) (by decide +kernel) rfl dX0_bettiOf_5 ?_
  refine lv_iload_n hx hb dX0_bettiOf_8 rfl (lv_at hl 2 rfl) ?_
  refine va_lald hx hb B.2.1 h.1 19 1 rfl rfl (vp_in_iff.mpr (by decide)) dX0_bettiOf_9 ?_
  refine lv_topl (fun v_1 ev_1 => ?_)
  obtain rfl : v_1 = 0 := ev_1
  refine lv_land hx hb dX0_bettiOf_10 ?_
  refine lv_topl (fun v_2 ev_2 => ?_)
  obtain rfl : v_2 = 0 := ev_2.trans (by decide)
  refine x_cSIE (n := 1) (As := [.long 0]) (rest := []) B h (k65_J13_bitCount_95d88 l D cI cJ cB cZ ad bd) ⟨⟨_, rfl⟩, by decide +kernel, Nat.le_of_ble_eq_true rfl, Nat.le_of_ble_eq_true rfl⟩ gX0_bettiOf_J13_bitCount_95d88 rfl hl.1 rfl (Nat.le_of_ble_eq_true rfl) dX0_bettiOf_11 ⟨Nat.le_of_ble_eq_true rfl, Nat.le_of_ble_eq_true rfl⟩ (fun r_3 u_3 H locs hp_3 h => ?_)
  obtain rfl := hp_3
  have h : Hp D A s.heap (WX cI cJ cB cZ ad) H locs := h
  refine lv_istore (lv' := [(5, .int 0), (0, .ref (ad 8)), (1, .long 0), (3, .int 3), (4, .int 1)]) hx hb dX0_bettiOf_14 hl (by decide) rfl (fun ls hl => ?_)
  refine lv_iload hx hb dX0_bettiOf_16 (lv_at hl 0 rfl) ?_
  refine lv_aload_n hx hb dX0_bettiOf_18 rfl (lv_at hl 1 rfl) ?_
  refine lv_lload_n hx hb dX0_bettiOf_19 rfl (lv_at hl 2 rfl) ?_
  refine lv_iload_n hx hb dX0_bettiOf_20 rfl (lv_at hl 3 rfl) ?_
  refine lv_iload hx hb dX0_bettiOf_21 (lv_at hl 4 rfl) ?_
  refine x_cVIF (n := 3) (As := [.long 0, .int 3, .int 1]) (rest := [.int 0]) B h (k119_X0_rankOf l D cI cJ cB cZ ad bd) ⟨⟨_, rfl⟩, by decide +kernel, Nat.le_of_ble_eq_true rfl, Nat.le_of_ble_eq_true rfl⟩ gX0_bettiOf_X0_rankOf (show ((WX cI cJ cB cZ ad) : va_W)[8]? = some (_, .inr (0, _)) from rfl) rfl rfl hl.1 rfl (Nat.le_of_ble_eq_true rfl) dX0_bettiOf_23 ⟨Nat.le_of_ble_eq_true rfl, Nat.le_of_ble_eq_true rfl⟩ (fun r_4 u_4 H locs hp_4 h => ?_)
  obtain rfl := hp_4
  have h : Hp D A s.heap (WX cI cJ cB cZ ad (Matrix_minor := 1)) H locs := h
  refine lv_isub hx hb dX0_bettiOf_26 ?_
  refine lv_topi (fun v_5 ev_5 => ?_)
  obtain rfl : v_5 = 0 := ev_5.trans (by decide)
  refine lv_aload_n hx hb dX0_bettiOf_27 rfl (lv_at hl 1 rfl) ?_
  refine lv_lload_n hx hb dX0_bettiOf_28 rfl (lv_at hl 2 rfl) ?_
  refine lv_iload_n hx hb dX0_bettiOf_29 rfl (lv_at hl 3 rfl) ?_
  refine lv_iconst (v := 1) hx hb dX0_bettiOf_30 (by decide) ?_
  refine lv_iadd hx hb dX0_bettiOf_31 ?_
  refine lv_topi (fun v_6 ev_6 => ?_)
  obtain rfl : v_6 = 4 := ev_6.trans (by decide)
  refine lv_iload hx hb dX0_bettiOf_32 (lv_at hl 4 rfl) ?_
  refine x_cVIF (n := 3) (As := [.long 0, .int 4, .int 1]) (rest := [.int 0]) B h (k120_X0_rankOf l D cI cJ cB cZ ad bd) ⟨⟨_, rfl⟩, by decide +kernel, Nat.le_of_ble_eq_true rfl, Nat.le_of_ble_eq_true rfl⟩ gX0_bettiOf_X0_rankOf (show ((WX cI cJ cB cZ ad (Matrix_minor := 1)) : va_W)[8]? = some (_, .inr (0, _)) from rfl) rfl rfl hl.1 rfl (Nat.le_of_ble_eq_true rfl) dX0_bettiOf_34 ⟨Nat.le_of_ble_eq_true rfl, Nat.le_of_ble_eq_true rfl⟩ (fun r_7 u_7 H locs hp_7 h => ?_)
  obtain rfl := hp_7
  have h : Hp D A s.heap (WX cI cJ cB cZ ad (Matrix_minor := 1)) H locs := h
  refine lv_isub hx hb dX0_bettiOf_37 ?_
  refine lv_topi (fun v_8 ev_8 => ?_)
  obtain rfl : v_8 = 0 := ev_8.trans (by decide)
  exact x_iret (w1 := (fun _ => (WX cI cJ cB cZ ad (Matrix_minor := 1)))) () B h hr rfl rfl dX0_bettiOf_38
set_option maxHeartbeats 4000000 in
set_option maxRecDepth 100000 in
theorem k122_X0_rankOf (l : Launch) (D : va_G) (cI cJ cB cZ : ClassId) (ad bd : Nat → Nat) : MetI l yX0_rankOf wsX0_rankOf 2 89 0 0 D (TYS cI cJ cB cZ) (WX cI cJ cB cZ ad) [.ref (ad 8), .long 0, .int 4, .int 1] (fun (r : Int32) (_ : Unit) => r = 0) (fun _ => (WX cI cJ cB cZ ad (Matrix_minor := 1))) := by
  refine x_startI (ty := .int) (cc := cX0_rankOf) (by decide) rfl (Nat.le_of_ble_eq_true rfl) ?_
  intro p e s m args below meth c A ls B hr hnm h hl
  have hx := B.1.1
  have hb := B.1.2.1
  have hml := B.1.2.2.1
  have hts := B.1.2.2.2.2
  have hown : s.vm.findClass RX0 = some m.cls := B.1.2.2.2.1
  have hin0 : ∀ w ∈ u_ws RX0 TX0 4, w ∈ wsX0_rankOf := by decide +kernel
  have hin9 : ∀ w ∈ u_ws RX9 TX9 7, w ∈ wsX0_rankOf := by decide +kernel
  have hl : lv_has ls 5 [(0, .ref (ad 8)), (1, .long 0), (3, .int 4), (4, .int 1)] := hl
  refine lv_iload_n hx hb dX0_rankOf_0 rfl (lv_at hl 2 rfl) ?_
  refine lv_iconst (v := 1) hx hb dX0_rankOf_1 (by decide) ?_
  refine lv_icmp_lt (tgt := 10) hx hb dX0_rankOf_2 (by decide) (fun c_1 => absurd c_1 (by decide)) (fun c_1 => ?_)
  refine lv_iload_n hx hb dX0_rankOf_5 rfl (lv_at hl 2 rfl) ?_
  refine lv_iconst (v := 5) hx hb dX0_rankOf_6 (by decide) ?_
  refine lv_icmp_lt (tgt := 12) hx hb dX0_rankOf_7 (by decide) (fun c_2 => ?_) (fun c_2 => absurd c_2 (by decide))
  refine lv_aload_n hx hb dX0_rankOf_12 rfl (lv_at hl 0 rfl) ?_
  refine lv_lload_n hx hb dX0_rankOf_13 rfl (lv_at hl 1 rfl) ?_
  refine lv_aload_n hx hb dX0_rankOf_14 rfl (lv_at hl 0 rfl) ?_
  refine x_get (ci := 0) (C := RX0) (T := TX0) (N := 4) (v := .ref (ad 3)) B h hin0 8 0 rfl rfl (by decide) (by decide +kernel) rfl dX0_rankOf_15 ?_
  refine x_get (ci := 9) (C := RX9) (T := TX9) (N := 7) (v := .ref (ad 19)) B h hin9 3 6 rfl rfl (by decide) (by decide +kernel) rfl dX0_rankOf_18 ?_
  refine lv_iload_n hx hb dX0_rankOf_21 rfl (lv_at hl 2 rfl) ?_
  refine va_lald hx hb B.2.1 h.1 19 1 rfl rfl (vp_in_iff.mpr (by decide)) dX0_rankOf_22 ?_
  refine lv_topl (fun v_3 ev_3 => ?_)
  obtain rfl : v_3 = 0 := ev_3
  refine lv_land hx hb dX0_rankOf_23 ?_
  refine lv_topl (fun v_4 ev_4 => ?_)
  obtain rfl : v_4 = 0 := ev_4.trans (by decide)
  refine lv_lload_n hx hb dX0_rankOf_24 rfl (lv_at hl 1 rfl) ?_
  refine lv_aload_n hx hb dX0_rankOf_25 rfl (lv_at hl 0 rfl) ?_
  refine x_get (ci := 0) (C := RX0) (T := TX0) (N := 4) (v := .ref (ad 3)) B h hin0 8 0 rfl rfl (by decide) (by decide +kernel) rfl dX0_rankOf_26 ?_
  refine x_get (ci := 9) (C := RX9) (T := TX9) (N := 7) (v := .ref (ad 19)) B h hin9 3 6 rfl rfl (by decide) (by decide +kernel) rfl dX0_rankOf_29 ?_
  refine lv_iload_n hx hb dX0_rankOf_32 rfl (lv_at hl 2 rfl) ?_
  refine lv_iconst (v := 1) hx hb dX0_rankOf_33 (by decide) ?_
  refine lv_isub hx hb dX0_rankOf_34 ?_
  refine lv_topi (fun v_5 ev_5 => ?_)
  obtain rfl : v_5 = 3 := ev_5.trans (by decide)
  refine va_lald hx hb B.2.1 h.1 19 1 rfl rfl (vp_in_iff.mpr (by decide)) dX0_rankOf_35 ?_
  refine lv_topl (fun v_6 ev_6 => ?_)
  obtain rfl : v_6 = 0 := ev_6
  refine lv_land hx hb dX0_rankOf_36 ?_
  refine lv_topl (fun v_7 ev_7 => ?_)
  obtain rfl : v_7 = 0 := ev_7.trans (by decide)
  refine lv_iload hx hb dX0_rankOf_37 (lv_at hl 3 rfl) ?_
  refine x_cVVF (n := 3) (As := [.long 0, .long 0, .int 1]) (rest := []) B h (k110_X0_fill l D cI cJ cB cZ ad bd) ⟨⟨_, rfl⟩, by decide +kernel, Nat.le_of_ble_eq_true rfl, Nat.le_of_ble_eq_true rfl⟩ gX0_rankOf_X0_fill (show ((WX cI cJ cB cZ ad) : va_W)[8]? = some (_, .inr (0, _)) from rfl) rfl rfl hl.1 rfl (Nat.le_of_ble_eq_true rfl) dX0_rankOf_39 ⟨Nat.le_of_ble_eq_true rfl, Nat.le_of_ble_eq_true rfl⟩ (fun u_8 H locs hp_8 h => ?_)
  have h : Hp D A s.heap (WX cI cJ cB cZ ad) H locs := h
  refine lv_aload_n hx hb dX0_rankOf_42 rfl (lv_at hl 0 rfl) ?_
  refine x_get (ci := 0) (C := RX0) (T := TX0) (N := 4) (v := .ref (ad 11)) B h hin0 8 2 rfl rfl (by decide) (by decide +kernel) rfl dX0_rankOf_43 ?_
  refine x_cVIF (n := 0) (As := []) (rest := []) B h (k91_X5_eliminate l D cI cJ cB cZ ad bd) ⟨⟨_, rfl⟩, by decide +kernel, Nat.le_of_ble_eq_true rfl, Nat.le_of_ble_eq_true rfl⟩ gX0_rankOf_X5_eliminate (show ((WX cI cJ cB cZ ad) : va_W)[11]? = some (_, .inr (5, _)) from rfl) rfl rfl hl.1 rfl (Nat.le_of_ble_eq_true rfl) dX0_rankOf_46 ⟨Nat.le_of_ble_eq_true rfl, Nat.le_of_ble_eq_true rfl⟩ (fun r_9 u_9 H locs hp_9 h => ?_)
  obtain rfl := hp_9
  have h : Hp D A s.heap (WX cI cJ cB cZ ad (Matrix_minor := 1)) H locs := h
  exact x_iret (w1 := (fun _ => (WX cI cJ cB cZ ad (Matrix_minor := 1)))) () B h hr rfl rfl dX0_rankOf_49
set_option maxHeartbeats 4000000 in
set_option maxRecDepth 100000 in
theorem k123_X0_rankOf (l : Launch) (D : va_G) (cI cJ cB cZ : ClassId) (ad bd : Nat → Nat) : MetI l yX0_rankOf wsX0_rankOf 0 0 0 0 D (TYS cI cJ cB cZ) (WX cI cJ cB cZ ad (Matrix_minor := 1)) [.ref (ad 8), .long 0, .int 5, .int 1] (fun (r : Int32) (_ : Unit) => r = 0) (fun _ => (WX cI cJ cB cZ ad (Matrix_minor := 1))) := by
  refine x_startI (ty := .int) (cc := cX0_rankOf) (by decide) rfl (Nat.le_of_ble_eq_true rfl) ?_
  intro p e s m args below meth c A ls B hr hnm h hl
  have hx := B.1.1
  have hb := B.1.2.1
  have hml := B.1.2.2.1
  have hts := B.1.2.2.2.2
  have hown : s.vm.findClass RX0 = some m.cls := B.1.2.2.2.1
  have hl : lv_has ls 5 [(0, .ref (ad 8)), (1, .long 0), (3, .int 5), (4, .int 1)] := hl
  refine lv_iload_n hx hb dX0_rankOf_0 rfl (lv_at hl 2 rfl) ?_
  refine lv_iconst (v := 1) hx hb dX0_rankOf_1 (by decide) ?_
  refine lv_icmp_lt (tgt := 10) hx hb dX0_rankOf_2 (by decide) (fun c_1 => absurd c_1 (by decide)) (fun c_1 => ?_)
  refine lv_iload_n hx hb dX0_rankOf_5 rfl (lv_at hl 2 rfl) ?_
  refine lv_iconst (v := 5) hx hb dX0_rankOf_6 (by decide) ?_
  refine lv_icmp_lt (tgt := 12) hx hb dX0_rankOf_7 (by decide) (fun c_2 => absurd c_2 (by decide)) (fun c_2 => ?_)
  refine lv_iconst (v := 0) hx hb dX0_rankOf_10 (by decide) ?_
  exact x_iret (w1 := (fun _ => (WX cI cJ cB cZ ad (Matrix_minor := 1)))) () B h hr rfl rfl dX0_rankOf_11
set_option maxHeartbeats 4000000 in
set_option maxRecDepth 100000 in
theorem k124_X0_bettiOf (l : Launch) (D : va_G) (cI cJ cB cZ : ClassId) (ad bd : Nat → Nat) : MetI l yX0_bettiOf wsX0_bettiOf 3 113 0 0 D (TYS cI cJ cB cZ) (WX cI cJ cB cZ ad) [.ref (ad 8), .long 0, .int 4, .int 1] (fun (r : Int32) (_ : Unit) => r = 0) (fun _ => (WX cI cJ cB cZ ad (Matrix_minor := 1))) := by
  refine x_startI (ty := .int) (cc := cX0_bettiOf) (by decide) rfl (Nat.le_of_ble_eq_true rfl) ?_
  intro p e s m args below meth c A ls B hr hnm h hl
  have hx := B.1.1
  have hb := B.1.2.1
  have hml := B.1.2.2.1
  have hts := B.1.2.2.2.2
  have hown : s.vm.findClass RX0 = some m.cls := B.1.2.2.2.1
  have hin0 : ∀ w ∈ u_ws RX0 TX0 4, w ∈ wsX0_bettiOf := by decide +kernel
  have hin9 : ∀ w ∈ u_ws RX9 TX9 7, w ∈ wsX0_bettiOf := by decide +kernel
  have hl : lv_has ls 6 [(0, .ref (ad 8)), (1, .long 0), (3, .int 4), (4, .int 1)] := hl
  refine lv_lload_n hx hb dX0_bettiOf_0 rfl (lv_at hl 1 rfl) ?_
  refine lv_aload_n hx hb dX0_bettiOf_1 rfl (lv_at hl 0 rfl) ?_
  refine x_get (ci := 0) (C := RX0) (T := TX0) (N := 4) (v := .ref (ad 3)) B h hin0 8 0 rfl rfl (by decide) (by decide +kernel) rfl dX0_bettiOf_2 ?_
  refine x_get (ci := 9) (C := RX9) (T := TX9) (N := 7) (v := .ref (ad 19)) B h hin9 3 6 rfl rfl (by decide) (by decide +kernel) rfl dX0_bettiOf_5 ?_
  refine lv_iload_n hx hb dX0_bettiOf_8 rfl (lv_at hl 2 rfl) ?_
  refine va_lald hx hb B.2.1 h.1 19 1 rfl rfl (vp_in_iff.mpr (by decide)) dX0_bettiOf_9 ?_
  refine lv_topl (fun v_1 ev_1 => ?_)
  obtain rfl : v_1 = 0 := ev_1
  refine lv_land hx hb dX0_bettiOf_10 ?_
  refine lv_topl (fun v_2 ev_2 => ?_)
  obtain rfl : v_2 = 0 := ev_2.trans (by decide)
  refine x_cSIE (n := 1) (As := [.long 0]) (rest := []) B h (k65_J13_bitCount_95d88 l D cI cJ cB cZ ad bd) ⟨⟨_, rfl⟩, by decide +kernel, Nat.le_of_ble_eq_true rfl, Nat.le_of_ble_eq_true rfl⟩ gX0_bettiOf_J13_bitCount_95d88 rfl hl.1 rfl (Nat.le_of_ble_eq_true rfl) dX0_bettiOf_11 ⟨Nat.le_of_ble_eq_true rfl, Nat.le_of_ble_eq_true rfl⟩ (fun r_3 u_3 H locs hp_3 h => ?_)
  obtain rfl := hp_3
  have h : Hp D A s.heap (WX cI cJ cB cZ ad) H locs := h
  refine lv_istore (lv' := [(5, .int 0), (0, .ref (ad 8)), (1, .long 0), (3, .int 4), (4, .int 1)]) hx hb dX0_bettiOf_14 hl (by decide) rfl (fun ls hl => ?_)
  refine lv_iload hx hb dX0_bettiOf_16 (lv_at hl 0 rfl) ?_
  refine lv_aload_n hx hb dX0_bettiOf_18 rfl (lv_at hl 1 rfl) ?_
  refine lv_lload_n hx hb dX0_bettiOf_19 rfl (lv_at hl 2 rfl) ?_
  refine lv_iload_n hx hb dX0_bettiOf_20 rfl (lv_at hl 3 rfl) ?_
  refine lv_iload hx hb dX0_bettiOf_21 (lv_at hl 4 rfl) ?_
  refine x_cVIF (n := 3) (As := [.long 0, .int 4, .int 1]) (rest := [.int 0]) B h (k122_X0_rankOf l D cI cJ cB cZ ad bd) ⟨⟨_, rfl⟩, by decide +kernel, Nat.le_of_ble_eq_true rfl, Nat.le_of_ble_eq_true rfl⟩ gX0_bettiOf_X0_rankOf (show ((WX cI cJ cB cZ ad) : va_W)[8]? = some (_, .inr (0, _)) from rfl) rfl rfl hl.1 rfl (Nat.le_of_ble_eq_true rfl) dX0_bettiOf_23 ⟨Nat.le_of_ble_eq_true rfl, Nat.le_of_ble_eq_true rfl⟩ (fun r_4 u_4 H locs hp_4 h => ?_)
  obtain rfl := hp_4
  have h : Hp D A s.heap (WX cI cJ cB cZ ad (Matrix_minor := 1)) H locs := h
  refine lv_isub hx hb dX0_bettiOf_26 ?_
  refine lv_topi (fun v_5 ev_5 => ?_)
  obtain rfl : v_5 = 0 := ev_5.trans (by decide)
  refine lv_aload_n hx hb dX0_bettiOf_27 rfl (lv_at hl 1 rfl) ?_
  refine lv_lload_n hx hb dX0_bettiOf_28 rfl (lv_at hl 2 rfl) ?_
  refine lv_iload_n hx hb dX0_bettiOf_29 rfl (lv_at hl 3 rfl) ?_
  refine lv_iconst (v := 1) hx hb dX0_bettiOf_30 (by decide) ?_
  refine lv_iadd hx hb dX0_bettiOf_31 ?_
  refine lv_topi (fun v_6 ev_6 => ?_)
  obtain rfl : v_6 = 5 := ev_6.trans (by decide)
  refine lv_iload hx hb dX0_bettiOf_32 (lv_at hl 4 rfl) ?_
  refine x_cVIF (n := 3) (As := [.long 0, .int 5, .int 1]) (rest := [.int 0]) B h (k123_X0_rankOf l D cI cJ cB cZ ad bd) ⟨⟨_, rfl⟩, by decide +kernel, Nat.le_of_ble_eq_true rfl, Nat.le_of_ble_eq_true rfl⟩ gX0_bettiOf_X0_rankOf (show ((WX cI cJ cB cZ ad (Matrix_minor := 1)) : va_W)[8]? = some (_, .inr (0, _)) from rfl) rfl rfl hl.1 rfl (Nat.le_of_ble_eq_true rfl) dX0_bettiOf_34 ⟨Nat.le_of_ble_eq_true rfl, Nat.le_of_ble_eq_true rfl⟩ (fun r_7 u_7 H locs hp_7 h => ?_)
  obtain rfl := hp_7
  have h : Hp D A s.heap (WX cI cJ cB cZ ad (Matrix_minor := 1)) H locs := h
  refine lv_isub hx hb dX0_bettiOf_37 ?_
  refine lv_topi (fun v_8 ev_8 => ?_)
  obtain rfl : v_8 = 0 := ev_8.trans (by decide)
  exact x_iret (w1 := (fun _ => (WX cI cJ cB cZ ad (Matrix_minor := 1)))) () B h hr rfl rfl dX0_bettiOf_38
set_option maxHeartbeats 4000000 in
set_option maxRecDepth 100000 in
theorem k125_X11_betti (l : Launch) (D : va_G) (cI cJ cB cZ : ClassId) (ad bd : Nat → Nat) (p1 : Int32) (p2 : Int32) : MetI l yX11_betti wsX11_betti 4 138 0 0 D (TYS cI cJ cB cZ) (WX cI cJ cB cZ ad) [.ref (ad 0), .int p1, .int p2] (fun (r : Int32) (u : Nat) => (u = 0 ∧ (p1 < 0) ∧ r = (-1)) ∨ (u = 1 ∧ (¬ p1 < 0) ∧ (5 ≤ p1) ∧ r = (-1)) ∨ (u = 2 ∧ (¬ p1 < 0) ∧ (¬ 5 ≤ p1) ∧ (p2 < 0) ∧ r = (-1)) ∨ (u = 3 ∧ p2 = 0 ∧ p1 = 0 ∧ r = 0) ∨ (u = 4 ∧ p2 = 0 ∧ p1 = 1 ∧ r = 0) ∨ (u = 5 ∧ p2 = 0 ∧ p1 = 2 ∧ r = 0) ∨ (u = 6 ∧ p2 = 0 ∧ p1 = 3 ∧ r = 0) ∨ (u = 7 ∧ p2 = 0 ∧ p1 = 4 ∧ r = 0) ∨ (u = 8 ∧ p2 = 1 ∧ p1 = 0 ∧ r = 0) ∨ (u = 9 ∧ p2 = 1 ∧ p1 = 1 ∧ r = 0) ∨ (u = 10 ∧ p2 = 1 ∧ p1 = 2 ∧ r = 0) ∨ (u = 11 ∧ p2 = 1 ∧ p1 = 3 ∧ r = 0) ∨ (u = 12 ∧ p2 = 1 ∧ p1 = 4 ∧ r = 0) ∨ (u = 13 ∧ (¬ p1 < 0) ∧ (¬ 5 ≤ p1) ∧ (¬ p2 < 0) ∧ (¬ p2 ≤ 1) ∧ r = (-1))) (fun u : Nat => match u with | 0 => (WX cI cJ cB cZ ad) | 1 => (WX cI cJ cB cZ ad) | 2 => (WX cI cJ cB cZ ad) | 3 => (WX cI cJ cB cZ ad (Matrix_minor := 1)) | 4 => (WX cI cJ cB cZ ad (Matrix_minor := 1)) | 5 => (WX cI cJ cB cZ ad (Matrix_minor := 1)) | 6 => (WX cI cJ cB cZ ad (Matrix_minor := 1)) | 7 => (WX cI cJ cB cZ ad (Matrix_minor := 1)) | 8 => (WX cI cJ cB cZ ad (Matrix_minor := 1)) | 9 => (WX cI cJ cB cZ ad (Matrix_minor := 1)) | 10 => (WX cI cJ cB cZ ad (Matrix_minor := 1)) | 11 => (WX cI cJ cB cZ ad (Matrix_minor := 1)) | 12 => (WX cI cJ cB cZ ad (Matrix_minor := 1)) | _ => (WX cI cJ cB cZ ad)) := by
  refine x_startI (ty := .int) (cc := cX11_betti) (by decide) rfl (Nat.le_of_ble_eq_true rfl) ?_
  intro p e s m args below meth c A ls B hr hnm h hl
  have hx := B.1.1
  have hb := B.1.2.1
  have hml := B.1.2.2.1
  have hts := B.1.2.2.2.2
  have hown : s.vm.findClass RX11 = some m.cls := B.1.2.2.2.1
  have hin11 : ∀ w ∈ u_ws RX11 TX11 11, w ∈ wsX11_betti := by decide +kernel
  have hl : lv_has ls 3 [(0, .ref (ad 0)), (1, .int p1), (2, .int p2)] := hl
  refine lv_iload_n hx hb dX11_betti_0 rfl (lv_at hl 1 rfl) ?_
  refine x_cSIE (n := 1) (As := [.int p1]) (rest := []) B h (k63_X11_isDim l D cI cJ cB cZ ad bd p1) ⟨⟨_, rfl⟩, by decide +kernel, Nat.le_of_ble_eq_true rfl, Nat.le_of_ble_eq_true rfl⟩ gX11_betti_X11_isDim rfl hl.1 rfl (Nat.le_of_ble_eq_true rfl) dX11_betti_1 ⟨Nat.le_of_ble_eq_true rfl, Nat.le_of_ble_eq_true rfl⟩ (fun r_1 u_1 H locs hp_1 h => ?_)
  rcases hp_1 with ⟨rfl, k_1_0, rfl⟩ | ⟨rfl, k_1_0, k_1_1, rfl⟩ | ⟨rfl, k_1_0, k_1_1, rfl⟩
  · skip
    have h : Hp D A s.heap (WX cI cJ cB cZ ad) H locs := h
    refine lv_if_eq (tgt := 16) hx hb dX11_betti_4 (by decide) (fun c_2 => ?_) (fun c_2 => absurd c_2 (by decide))
    refine lv_iconst (v := (-1)) hx hb dX11_betti_16 (by decide) ?_
    exact x_iret (w1 := (fun u : Nat => match u with | 0 => (WX cI cJ cB cZ ad) | 1 => (WX cI cJ cB cZ ad) | 2 => (WX cI cJ cB cZ ad) | 3 => (WX cI cJ cB cZ ad (Matrix_minor := 1)) | 4 => (WX cI cJ cB cZ ad (Matrix_minor := 1)) | 5 => (WX cI cJ cB cZ ad (Matrix_minor := 1)) | 6 => (WX cI cJ cB cZ ad (Matrix_minor := 1)) | 7 => (WX cI cJ cB cZ ad (Matrix_minor := 1)) | 8 => (WX cI cJ cB cZ ad (Matrix_minor := 1)) | 9 => (WX cI cJ cB cZ ad (Matrix_minor := 1)) | 10 => (WX cI cJ cB cZ ad (Matrix_minor := 1)) | 11 => (WX cI cJ cB cZ ad (Matrix_minor := 1)) | 12 => (WX cI cJ cB cZ ad (Matrix_minor := 1)) | _ => (WX cI cJ cB cZ ad))) 0 B h hr rfl (Or.inl ⟨rfl, k_1_0, rfl⟩) dX11_betti_17
  · skip
    have h : Hp D A s.heap (WX cI cJ cB cZ ad) H locs := h
    refine lv_if_eq (tgt := 16) hx hb dX11_betti_4 (by decide) (fun c_3 => ?_) (fun c_3 => absurd c_3 (by decide))
    refine lv_iconst (v := (-1)) hx hb dX11_betti_16 (by decide) ?_
    exact x_iret (w1 := (fun u : Nat => match u with | 0 => (WX cI cJ cB cZ ad) | 1 => (WX cI cJ cB cZ ad) | 2 => (WX cI cJ cB cZ ad) | 3 => (WX cI cJ cB cZ ad (Matrix_minor := 1)) | 4 => (WX cI cJ cB cZ ad (Matrix_minor := 1)) | 5 => (WX cI cJ cB cZ ad (Matrix_minor := 1)) | 6 => (WX cI cJ cB cZ ad (Matrix_minor := 1)) | 7 => (WX cI cJ cB cZ ad (Matrix_minor := 1)) | 8 => (WX cI cJ cB cZ ad (Matrix_minor := 1)) | 9 => (WX cI cJ cB cZ ad (Matrix_minor := 1)) | 10 => (WX cI cJ cB cZ ad (Matrix_minor := 1)) | 11 => (WX cI cJ cB cZ ad (Matrix_minor := 1)) | 12 => (WX cI cJ cB cZ ad (Matrix_minor := 1)) | _ => (WX cI cJ cB cZ ad))) 1 B h hr rfl (Or.inr (Or.inl ⟨rfl, k_1_0, k_1_1, rfl⟩)) dX11_betti_17
  · skip
    have h : Hp D A s.heap (WX cI cJ cB cZ ad) H locs := h
    refine lv_if_eq (tgt := 16) hx hb dX11_betti_4 (by decide) (fun c_4 => absurd c_4 (by decide)) (fun c_4 => ?_)
    refine lv_iload_n hx hb dX11_betti_7 rfl (lv_at hl 2 rfl) ?_
    refine lv_if_lt (tgt := 16) hx hb dX11_betti_8 (by decide) (fun c_5 => ?_) (fun c_5 => ?_)
    · skip
      refine lv_iconst (v := (-1)) hx hb dX11_betti_16 (by decide) ?_
      exact x_iret (w1 := (fun u : Nat => match u with | 0 => (WX cI cJ cB cZ ad) | 1 => (WX cI cJ cB cZ ad) | 2 => (WX cI cJ cB cZ ad) | 3 => (WX cI cJ cB cZ ad (Matrix_minor := 1)) | 4 => (WX cI cJ cB cZ ad (Matrix_minor := 1)) | 5 => (WX cI cJ cB cZ ad (Matrix_minor := 1)) | 6 => (WX cI cJ cB cZ ad (Matrix_minor := 1)) | 7 => (WX cI cJ cB cZ ad (Matrix_minor := 1)) | 8 => (WX cI cJ cB cZ ad (Matrix_minor := 1)) | 9 => (WX cI cJ cB cZ ad (Matrix_minor := 1)) | 10 => (WX cI cJ cB cZ ad (Matrix_minor := 1)) | 11 => (WX cI cJ cB cZ ad (Matrix_minor := 1)) | 12 => (WX cI cJ cB cZ ad (Matrix_minor := 1)) | _ => (WX cI cJ cB cZ ad))) 2 B h hr rfl (Or.inr (Or.inr (Or.inl ⟨rfl, k_1_0, k_1_1, c_5, rfl⟩))) dX11_betti_17
    · skip
      refine lv_iload_n hx hb dX11_betti_11 rfl (lv_at hl 2 rfl) ?_
      refine lv_iconst (v := 1) hx hb dX11_betti_12 (by decide) ?_
      refine lv_icmp_le (tgt := 18) hx hb dX11_betti_13 (by decide) (fun c_6 => ?_) (fun c_6 => ?_)
      · skip
        refine lv_aload_n hx hb dX11_betti_18 rfl (lv_at hl 0 rfl) ?_
        refine x_get (ci := 11) (C := RX11) (T := TX11) (N := 11) (v := .ref (ad 8)) B h hin11 0 7 rfl rfl (by decide) (by decide +kernel) rfl dX11_betti_19 ?_
        refine lv_aload_n hx hb dX11_betti_22 rfl (lv_at hl 0 rfl) ?_
        refine lv_iload_n hx hb dX11_betti_23 rfl (lv_at hl 2 rfl) ?_
        have k_7 : p2 = 0 ∨ p2 = 1 := by simp only [Int32.lt_iff_toInt_lt, Int32.le_iff_toInt_le, ← Int32.toInt_inj, show ((0 : Int32)).toInt = 0 from by decide, show ((1 : Int32)).toInt = 1 from by decide, show ((5 : Int32)).toInt = 5 from by decide] at k_1_0 k_1_1 c_5 c_6 ⊢; omega
        rcases k_7 with e_7 | e_7
        · skip
          obtain rfl : p2 = 0 := e_7.trans (by decide)
          refine x_cVLF (n := 1) (As := [.int 0]) (rest := [.ref (ad 8)]) B h (k87_X11_basis l D cI cJ cB cZ ad bd) ⟨⟨_, rfl⟩, by decide +kernel, Nat.le_of_ble_eq_true rfl, Nat.le_of_ble_eq_true rfl⟩ gX11_betti_X11_basis (show ((WX cI cJ cB cZ ad) : va_W)[0]? = some (_, .inr (11, _)) from rfl) rfl rfl hl.1 rfl (Nat.le_of_ble_eq_true rfl) dX11_betti_24 ⟨Nat.le_of_ble_eq_true rfl, Nat.le_of_ble_eq_true rfl⟩ (fun r_8 u_8 H locs hp_8 h => ?_)
          obtain rfl := hp_8
          have h : Hp D A s.heap (WX cI cJ cB cZ ad) H locs := h
          refine lv_iload_n hx hb dX11_betti_27 rfl (lv_at hl 1 rfl) ?_
          refine lv_iload_n hx hb dX11_betti_28 rfl (lv_at hl 2 rfl) ?_
          refine lv_iconst (v := 1) hx hb dX11_betti_29 (by decide) ?_
          refine lv_icmp_ne (tgt := 37) hx hb dX11_betti_30 (by decide) (fun c_9 => ?_) (fun c_9 => absurd c_9 (by decide))
          refine lv_iconst (v := 0) hx hb dX11_betti_37 (by decide) ?_
          have k_10 : p1 = 0 ∨ p1 = 1 ∨ p1 = 2 ∨ p1 = 3 ∨ p1 = 4 := by simp only [Int32.lt_iff_toInt_lt, Int32.le_iff_toInt_le, ← Int32.toInt_inj, show ((0 : Int32)).toInt = 0 from by decide, show ((1 : Int32)).toInt = 1 from by decide, show ((2 : Int32)).toInt = 2 from by decide, show ((3 : Int32)).toInt = 3 from by decide, show ((4 : Int32)).toInt = 4 from by decide, show ((5 : Int32)).toInt = 5 from by decide] at k_1_0 k_1_1 ⊢; omega
          rcases k_10 with e_10 | e_10 | e_10 | e_10 | e_10
          · skip
            obtain rfl : p1 = 0 := e_10.trans (by decide)
            refine x_cVIF (n := 3) (As := [.long 0, .int 0, .int 0]) (rest := []) B h (k93_X0_bettiOf l D cI cJ cB cZ ad bd) ⟨⟨_, rfl⟩, by decide +kernel, Nat.le_of_ble_eq_true rfl, Nat.le_of_ble_eq_true rfl⟩ gX11_betti_X0_bettiOf (show ((WX cI cJ cB cZ ad) : va_W)[8]? = some (_, .inr (0, _)) from rfl) rfl rfl hl.1 rfl (Nat.le_of_ble_eq_true rfl) dX11_betti_38 ⟨Nat.le_of_ble_eq_true rfl, Nat.le_of_ble_eq_true rfl⟩ (fun r_11 u_11 H locs hp_11 h => ?_)
            obtain rfl := hp_11
            have h : Hp D A s.heap (WX cI cJ cB cZ ad (Matrix_minor := 1)) H locs := h
            exact x_iret (w1 := (fun u : Nat => match u with | 0 => (WX cI cJ cB cZ ad) | 1 => (WX cI cJ cB cZ ad) | 2 => (WX cI cJ cB cZ ad) | 3 => (WX cI cJ cB cZ ad (Matrix_minor := 1)) | 4 => (WX cI cJ cB cZ ad (Matrix_minor := 1)) | 5 => (WX cI cJ cB cZ ad (Matrix_minor := 1)) | 6 => (WX cI cJ cB cZ ad (Matrix_minor := 1)) | 7 => (WX cI cJ cB cZ ad (Matrix_minor := 1)) | 8 => (WX cI cJ cB cZ ad (Matrix_minor := 1)) | 9 => (WX cI cJ cB cZ ad (Matrix_minor := 1)) | 10 => (WX cI cJ cB cZ ad (Matrix_minor := 1)) | 11 => (WX cI cJ cB cZ ad (Matrix_minor := 1)) | 12 => (WX cI cJ cB cZ ad (Matrix_minor := 1)) | _ => (WX cI cJ cB cZ ad))) 3 B h hr rfl (Or.inr (Or.inr (Or.inr (Or.inl ⟨rfl, rfl, rfl, rfl⟩)))) dX11_betti_41
          · skip
            obtain rfl : p1 = 1 := e_10.trans (by decide)
            refine x_cVIF (n := 3) (As := [.long 0, .int 1, .int 0]) (rest := []) B h (k98_X0_bettiOf l D cI cJ cB cZ ad bd) ⟨⟨_, rfl⟩, by decide +kernel, Nat.le_of_ble_eq_true rfl, Nat.le_of_ble_eq_true rfl⟩ gX11_betti_X0_bettiOf (show ((WX cI cJ cB cZ ad) : va_W)[8]? = some (_, .inr (0, _)) from rfl) rfl rfl hl.1 rfl (Nat.le_of_ble_eq_true rfl) dX11_betti_38 ⟨Nat.le_of_ble_eq_true rfl, Nat.le_of_ble_eq_true rfl⟩ (fun r_12 u_12 H locs hp_12 h => ?_)
            obtain rfl := hp_12
            have h : Hp D A s.heap (WX cI cJ cB cZ ad (Matrix_minor := 1)) H locs := h
            exact x_iret (w1 := (fun u : Nat => match u with | 0 => (WX cI cJ cB cZ ad) | 1 => (WX cI cJ cB cZ ad) | 2 => (WX cI cJ cB cZ ad) | 3 => (WX cI cJ cB cZ ad (Matrix_minor := 1)) | 4 => (WX cI cJ cB cZ ad (Matrix_minor := 1)) | 5 => (WX cI cJ cB cZ ad (Matrix_minor := 1)) | 6 => (WX cI cJ cB cZ ad (Matrix_minor := 1)) | 7 => (WX cI cJ cB cZ ad (Matrix_minor := 1)) | 8 => (WX cI cJ cB cZ ad (Matrix_minor := 1)) | 9 => (WX cI cJ cB cZ ad (Matrix_minor := 1)) | 10 => (WX cI cJ cB cZ ad (Matrix_minor := 1)) | 11 => (WX cI cJ cB cZ ad (Matrix_minor := 1)) | 12 => (WX cI cJ cB cZ ad (Matrix_minor := 1)) | _ => (WX cI cJ cB cZ ad))) 4 B h hr rfl (Or.inr (Or.inr (Or.inr (Or.inr (Or.inl ⟨rfl, rfl, rfl, rfl⟩))))) dX11_betti_41
          · skip
            obtain rfl : p1 = 2 := e_10.trans (by decide)
            refine x_cVIF (n := 3) (As := [.long 0, .int 2, .int 0]) (rest := []) B h (k101_X0_bettiOf l D cI cJ cB cZ ad bd) ⟨⟨_, rfl⟩, by decide +kernel, Nat.le_of_ble_eq_true rfl, Nat.le_of_ble_eq_true rfl⟩ gX11_betti_X0_bettiOf (show ((WX cI cJ cB cZ ad) : va_W)[8]? = some (_, .inr (0, _)) from rfl) rfl rfl hl.1 rfl (Nat.le_of_ble_eq_true rfl) dX11_betti_38 ⟨Nat.le_of_ble_eq_true rfl, Nat.le_of_ble_eq_true rfl⟩ (fun r_13 u_13 H locs hp_13 h => ?_)
            obtain rfl := hp_13
            have h : Hp D A s.heap (WX cI cJ cB cZ ad (Matrix_minor := 1)) H locs := h
            exact x_iret (w1 := (fun u : Nat => match u with | 0 => (WX cI cJ cB cZ ad) | 1 => (WX cI cJ cB cZ ad) | 2 => (WX cI cJ cB cZ ad) | 3 => (WX cI cJ cB cZ ad (Matrix_minor := 1)) | 4 => (WX cI cJ cB cZ ad (Matrix_minor := 1)) | 5 => (WX cI cJ cB cZ ad (Matrix_minor := 1)) | 6 => (WX cI cJ cB cZ ad (Matrix_minor := 1)) | 7 => (WX cI cJ cB cZ ad (Matrix_minor := 1)) | 8 => (WX cI cJ cB cZ ad (Matrix_minor := 1)) | 9 => (WX cI cJ cB cZ ad (Matrix_minor := 1)) | 10 => (WX cI cJ cB cZ ad (Matrix_minor := 1)) | 11 => (WX cI cJ cB cZ ad (Matrix_minor := 1)) | 12 => (WX cI cJ cB cZ ad (Matrix_minor := 1)) | _ => (WX cI cJ cB cZ ad))) 5 B h hr rfl (Or.inr (Or.inr (Or.inr (Or.inr (Or.inr (Or.inl ⟨rfl, rfl, rfl, rfl⟩)))))) dX11_betti_41
          · skip
            obtain rfl : p1 = 3 := e_10.trans (by decide)
            refine x_cVIF (n := 3) (As := [.long 0, .int 3, .int 0]) (rest := []) B h (k104_X0_bettiOf l D cI cJ cB cZ ad bd) ⟨⟨_, rfl⟩, by decide +kernel, Nat.le_of_ble_eq_true rfl, Nat.le_of_ble_eq_true rfl⟩ gX11_betti_X0_bettiOf (show ((WX cI cJ cB cZ ad) : va_W)[8]? = some (_, .inr (0, _)) from rfl) rfl rfl hl.1 rfl (Nat.le_of_ble_eq_true rfl) dX11_betti_38 ⟨Nat.le_of_ble_eq_true rfl, Nat.le_of_ble_eq_true rfl⟩ (fun r_14 u_14 H locs hp_14 h => ?_)
            obtain rfl := hp_14
            have h : Hp D A s.heap (WX cI cJ cB cZ ad (Matrix_minor := 1)) H locs := h
            exact x_iret (w1 := (fun u : Nat => match u with | 0 => (WX cI cJ cB cZ ad) | 1 => (WX cI cJ cB cZ ad) | 2 => (WX cI cJ cB cZ ad) | 3 => (WX cI cJ cB cZ ad (Matrix_minor := 1)) | 4 => (WX cI cJ cB cZ ad (Matrix_minor := 1)) | 5 => (WX cI cJ cB cZ ad (Matrix_minor := 1)) | 6 => (WX cI cJ cB cZ ad (Matrix_minor := 1)) | 7 => (WX cI cJ cB cZ ad (Matrix_minor := 1)) | 8 => (WX cI cJ cB cZ ad (Matrix_minor := 1)) | 9 => (WX cI cJ cB cZ ad (Matrix_minor := 1)) | 10 => (WX cI cJ cB cZ ad (Matrix_minor := 1)) | 11 => (WX cI cJ cB cZ ad (Matrix_minor := 1)) | 12 => (WX cI cJ cB cZ ad (Matrix_minor := 1)) | _ => (WX cI cJ cB cZ ad))) 6 B h hr rfl (Or.inr (Or.inr (Or.inr (Or.inr (Or.inr (Or.inr (Or.inl ⟨rfl, rfl, rfl, rfl⟩))))))) dX11_betti_41
          · skip
            obtain rfl : p1 = 4 := e_10.trans (by decide)
            refine x_cVIF (n := 3) (As := [.long 0, .int 4, .int 0]) (rest := []) B h (k107_X0_bettiOf l D cI cJ cB cZ ad bd) ⟨⟨_, rfl⟩, by decide +kernel, Nat.le_of_ble_eq_true rfl, Nat.le_of_ble_eq_true rfl⟩ gX11_betti_X0_bettiOf (show ((WX cI cJ cB cZ ad) : va_W)[8]? = some (_, .inr (0, _)) from rfl) rfl rfl hl.1 rfl (Nat.le_of_ble_eq_true rfl) dX11_betti_38 ⟨Nat.le_of_ble_eq_true rfl, Nat.le_of_ble_eq_true rfl⟩ (fun r_15 u_15 H locs hp_15 h => ?_)
            obtain rfl := hp_15
            have h : Hp D A s.heap (WX cI cJ cB cZ ad (Matrix_minor := 1)) H locs := h
            exact x_iret (w1 := (fun u : Nat => match u with | 0 => (WX cI cJ cB cZ ad) | 1 => (WX cI cJ cB cZ ad) | 2 => (WX cI cJ cB cZ ad) | 3 => (WX cI cJ cB cZ ad (Matrix_minor := 1)) | 4 => (WX cI cJ cB cZ ad (Matrix_minor := 1)) | 5 => (WX cI cJ cB cZ ad (Matrix_minor := 1)) | 6 => (WX cI cJ cB cZ ad (Matrix_minor := 1)) | 7 => (WX cI cJ cB cZ ad (Matrix_minor := 1)) | 8 => (WX cI cJ cB cZ ad (Matrix_minor := 1)) | 9 => (WX cI cJ cB cZ ad (Matrix_minor := 1)) | 10 => (WX cI cJ cB cZ ad (Matrix_minor := 1)) | 11 => (WX cI cJ cB cZ ad (Matrix_minor := 1)) | 12 => (WX cI cJ cB cZ ad (Matrix_minor := 1)) | _ => (WX cI cJ cB cZ ad))) 7 B h hr rfl (Or.inr (Or.inr (Or.inr (Or.inr (Or.inr (Or.inr (Or.inr (Or.inl ⟨rfl, rfl, rfl, rfl⟩)))))))) dX11_betti_41
        · skip
          obtain rfl : p2 = 1 := e_7.trans (by decide)
          refine x_cVLF (n := 1) (As := [.int 1]) (rest := [.ref (ad 8)]) B h (k108_X11_basis l D cI cJ cB cZ ad bd) ⟨⟨_, rfl⟩, by decide +kernel, Nat.le_of_ble_eq_true rfl, Nat.le_of_ble_eq_true rfl⟩ gX11_betti_X11_basis (show ((WX cI cJ cB cZ ad) : va_W)[0]? = some (_, .inr (11, _)) from rfl) rfl rfl hl.1 rfl (Nat.le_of_ble_eq_true rfl) dX11_betti_24 ⟨Nat.le_of_ble_eq_true rfl, Nat.le_of_ble_eq_true rfl⟩ (fun r_16 u_16 H locs hp_16 h => ?_)
          obtain rfl := hp_16
          have h : Hp D A s.heap (WX cI cJ cB cZ ad) H locs := h
          refine lv_iload_n hx hb dX11_betti_27 rfl (lv_at hl 1 rfl) ?_
          refine lv_iload_n hx hb dX11_betti_28 rfl (lv_at hl 2 rfl) ?_
          refine lv_iconst (v := 1) hx hb dX11_betti_29 (by decide) ?_
          refine lv_icmp_ne (tgt := 37) hx hb dX11_betti_30 (by decide) (fun c_17 => absurd c_17 (by decide)) (fun c_17 => ?_)
          refine lv_iconst (v := 1) hx hb dX11_betti_33 (by decide) ?_
          refine lv_goto (tgt := 38) hx hb dX11_betti_34 (by decide) ?_
          have k_18 : p1 = 0 ∨ p1 = 1 ∨ p1 = 2 ∨ p1 = 3 ∨ p1 = 4 := by simp only [Int32.lt_iff_toInt_lt, Int32.le_iff_toInt_le, ← Int32.toInt_inj, show ((0 : Int32)).toInt = 0 from by decide, show ((1 : Int32)).toInt = 1 from by decide, show ((2 : Int32)).toInt = 2 from by decide, show ((3 : Int32)).toInt = 3 from by decide, show ((4 : Int32)).toInt = 4 from by decide, show ((5 : Int32)).toInt = 5 from by decide] at k_1_0 k_1_1 ⊢; omega
          rcases k_18 with e_18 | e_18 | e_18 | e_18 | e_18
          · skip
            obtain rfl : p1 = 0 := e_18.trans (by decide)
            refine x_cVIF (n := 3) (As := [.long 0, .int 0, .int 1]) (rest := []) B h (k112_X0_bettiOf l D cI cJ cB cZ ad bd) ⟨⟨_, rfl⟩, by decide +kernel, Nat.le_of_ble_eq_true rfl, Nat.le_of_ble_eq_true rfl⟩ gX11_betti_X0_bettiOf (show ((WX cI cJ cB cZ ad) : va_W)[8]? = some (_, .inr (0, _)) from rfl) rfl rfl hl.1 rfl (Nat.le_of_ble_eq_true rfl) dX11_betti_38 ⟨Nat.le_of_ble_eq_true rfl, Nat.le_of_ble_eq_true rfl⟩ (fun r_19 u_19 H locs hp_19 h => ?_)
            obtain rfl := hp_19
            have h : Hp D A s.heap (WX cI cJ cB cZ ad (Matrix_minor := 1)) H locs := h
            exact x_iret (w1 := (fun u : Nat => match u with | 0 => (WX cI cJ cB cZ ad) | 1 => (WX cI cJ cB cZ ad) | 2 => (WX cI cJ cB cZ ad) | 3 => (WX cI cJ cB cZ ad (Matrix_minor := 1)) | 4 => (WX cI cJ cB cZ ad (Matrix_minor := 1)) | 5 => (WX cI cJ cB cZ ad (Matrix_minor := 1)) | 6 => (WX cI cJ cB cZ ad (Matrix_minor := 1)) | 7 => (WX cI cJ cB cZ ad (Matrix_minor := 1)) | 8 => (WX cI cJ cB cZ ad (Matrix_minor := 1)) | 9 => (WX cI cJ cB cZ ad (Matrix_minor := 1)) | 10 => (WX cI cJ cB cZ ad (Matrix_minor := 1)) | 11 => (WX cI cJ cB cZ ad (Matrix_minor := 1)) | 12 => (WX cI cJ cB cZ ad (Matrix_minor := 1)) | _ => (WX cI cJ cB cZ ad))) 8 B h hr rfl (Or.inr (Or.inr (Or.inr (Or.inr (Or.inr (Or.inr (Or.inr (Or.inr (Or.inl ⟨rfl, rfl, rfl, rfl⟩))))))))) dX11_betti_41
          · skip
            obtain rfl : p1 = 1 := e_18.trans (by decide)
            refine x_cVIF (n := 3) (As := [.long 0, .int 1, .int 1]) (rest := []) B h (k115_X0_bettiOf l D cI cJ cB cZ ad bd) ⟨⟨_, rfl⟩, by decide +kernel, Nat.le_of_ble_eq_true rfl, Nat.le_of_ble_eq_true rfl⟩ gX11_betti_X0_bettiOf (show ((WX cI cJ cB cZ ad) : va_W)[8]? = some (_, .inr (0, _)) from rfl) rfl rfl hl.1 rfl (Nat.le_of_ble_eq_true rfl) dX11_betti_38 ⟨Nat.le_of_ble_eq_true rfl, Nat.le_of_ble_eq_true rfl⟩ (fun r_20 u_20 H locs hp_20 h => ?_)
            obtain rfl := hp_20
            have h : Hp D A s.heap (WX cI cJ cB cZ ad (Matrix_minor := 1)) H locs := h
            exact x_iret (w1 := (fun u : Nat => match u with | 0 => (WX cI cJ cB cZ ad) | 1 => (WX cI cJ cB cZ ad) | 2 => (WX cI cJ cB cZ ad) | 3 => (WX cI cJ cB cZ ad (Matrix_minor := 1)) | 4 => (WX cI cJ cB cZ ad (Matrix_minor := 1)) | 5 => (WX cI cJ cB cZ ad (Matrix_minor := 1)) | 6 => (WX cI cJ cB cZ ad (Matrix_minor := 1)) | 7 => (WX cI cJ cB cZ ad (Matrix_minor := 1)) | 8 => (WX cI cJ cB cZ ad (Matrix_minor := 1)) | 9 => (WX cI cJ cB cZ ad (Matrix_minor := 1)) | 10 => (WX cI cJ cB cZ ad (Matrix_minor := 1)) | 11 => (WX cI cJ cB cZ ad (Matrix_minor := 1)) | 12 => (WX cI cJ cB cZ ad (Matrix_minor := 1)) | _ => (WX cI cJ cB cZ ad))) 9 B h hr rfl (Or.inr (Or.inr (Or.inr (Or.inr (Or.inr (Or.inr (Or.inr (Or.inr (Or.inr (Or.inl ⟨rfl, rfl, rfl, rfl⟩)))))))))) dX11_betti_41
          · skip
            obtain rfl : p1 = 2 := e_18.trans (by decide)
            refine x_cVIF (n := 3) (As := [.long 0, .int 2, .int 1]) (rest := []) B h (k118_X0_bettiOf l D cI cJ cB cZ ad bd) ⟨⟨_, rfl⟩, by decide +kernel, Nat.le_of_ble_eq_true rfl, Nat.le_of_ble_eq_true rfl⟩ gX11_betti_X0_bettiOf (show ((WX cI cJ cB cZ ad) : va_W)[8]? = some (_, .inr (0, _)) from rfl) rfl rfl hl.1 rfl (Nat.le_of_ble_eq_true rfl) dX11_betti_38 ⟨Nat.le_of_ble_eq_true rfl, Nat.le_of_ble_eq_true rfl⟩ (fun r_21 u_21 H locs hp_21 h => ?_)
            obtain rfl := hp_21
            have h : Hp D A s.heap (WX cI cJ cB cZ ad (Matrix_minor := 1)) H locs := h
            exact x_iret (w1 := (fun u : Nat => match u with | 0 => (WX cI cJ cB cZ ad) | 1 => (WX cI cJ cB cZ ad) | 2 => (WX cI cJ cB cZ ad) | 3 => (WX cI cJ cB cZ ad (Matrix_minor := 1)) | 4 => (WX cI cJ cB cZ ad (Matrix_minor := 1)) | 5 => (WX cI cJ cB cZ ad (Matrix_minor := 1)) | 6 => (WX cI cJ cB cZ ad (Matrix_minor := 1)) | 7 => (WX cI cJ cB cZ ad (Matrix_minor := 1)) | 8 => (WX cI cJ cB cZ ad (Matrix_minor := 1)) | 9 => (WX cI cJ cB cZ ad (Matrix_minor := 1)) | 10 => (WX cI cJ cB cZ ad (Matrix_minor := 1)) | 11 => (WX cI cJ cB cZ ad (Matrix_minor := 1)) | 12 => (WX cI cJ cB cZ ad (Matrix_minor := 1)) | _ => (WX cI cJ cB cZ ad))) 10 B h hr rfl (Or.inr (Or.inr (Or.inr (Or.inr (Or.inr (Or.inr (Or.inr (Or.inr (Or.inr (Or.inr (Or.inl ⟨rfl, rfl, rfl, rfl⟩))))))))))) dX11_betti_41
          · skip
            obtain rfl : p1 = 3 := e_18.trans (by decide)
            refine x_cVIF (n := 3) (As := [.long 0, .int 3, .int 1]) (rest := []) B h (k121_X0_bettiOf l D cI cJ cB cZ ad bd) ⟨⟨_, rfl⟩, by decide +kernel, Nat.le_of_ble_eq_true rfl, Nat.le_of_ble_eq_true rfl⟩ gX11_betti_X0_bettiOf (show ((WX cI cJ cB cZ ad) : va_W)[8]? = some (_, .inr (0, _)) from rfl) rfl rfl hl.1 rfl (Nat.le_of_ble_eq_true rfl) dX11_betti_38 ⟨Nat.le_of_ble_eq_true rfl, Nat.le_of_ble_eq_true rfl⟩ (fun r_22 u_22 H locs hp_22 h => ?_)
            obtain rfl := hp_22
            have h : Hp D A s.heap (WX cI cJ cB cZ ad (Matrix_minor := 1)) H locs := h
            exact x_iret (w1 := (fun u : Nat => match u with | 0 => (WX cI cJ cB cZ ad) | 1 => (WX cI cJ cB cZ ad) | 2 => (WX cI cJ cB cZ ad) | 3 => (WX cI cJ cB cZ ad (Matrix_minor := 1)) | 4 => (WX cI cJ cB cZ ad (Matrix_minor := 1)) | 5 => (WX cI cJ cB cZ ad (Matrix_minor := 1)) | 6 => (WX cI cJ cB cZ ad (Matrix_minor := 1)) | 7 => (WX cI cJ cB cZ ad (Matrix_minor := 1)) | 8 => (WX cI cJ cB cZ ad (Matrix_minor := 1)) | 9 => (WX cI cJ cB cZ ad (Matrix_minor := 1)) | 10 => (WX cI cJ cB cZ ad (Matrix_minor := 1)) | 11 => (WX cI cJ cB cZ ad (Matrix_minor := 1)) | 12 => (WX cI cJ cB cZ ad (Matrix_minor := 1)) | _ => (WX cI cJ cB cZ ad))) 11 B h hr rfl (Or.inr (Or.inr (Or.inr (Or.inr (Or.inr (Or.inr (Or.inr (Or.inr (Or.inr (Or.inr (Or.inr (Or.inl ⟨rfl, rfl, rfl, rfl⟩)))))))))))) dX11_betti_41
          · skip
            obtain rfl : p1 = 4 := e_18.trans (by decide)
            refine x_cVIF (n := 3) (As := [.long 0, .int 4, .int 1]) (rest := []) B h (k124_X0_bettiOf l D cI cJ cB cZ ad bd) ⟨⟨_, rfl⟩, by decide +kernel, Nat.le_of_ble_eq_true rfl, Nat.le_of_ble_eq_true rfl⟩ gX11_betti_X0_bettiOf (show ((WX cI cJ cB cZ ad) : va_W)[8]? = some (_, .inr (0, _)) from rfl) rfl rfl hl.1 rfl (Nat.le_of_ble_eq_true rfl) dX11_betti_38 ⟨Nat.le_of_ble_eq_true rfl, Nat.le_of_ble_eq_true rfl⟩ (fun r_23 u_23 H locs hp_23 h => ?_)
            obtain rfl := hp_23
            have h : Hp D A s.heap (WX cI cJ cB cZ ad (Matrix_minor := 1)) H locs := h
            exact x_iret (w1 := (fun u : Nat => match u with | 0 => (WX cI cJ cB cZ ad) | 1 => (WX cI cJ cB cZ ad) | 2 => (WX cI cJ cB cZ ad) | 3 => (WX cI cJ cB cZ ad (Matrix_minor := 1)) | 4 => (WX cI cJ cB cZ ad (Matrix_minor := 1)) | 5 => (WX cI cJ cB cZ ad (Matrix_minor := 1)) | 6 => (WX cI cJ cB cZ ad (Matrix_minor := 1)) | 7 => (WX cI cJ cB cZ ad (Matrix_minor := 1)) | 8 => (WX cI cJ cB cZ ad (Matrix_minor := 1)) | 9 => (WX cI cJ cB cZ ad (Matrix_minor := 1)) | 10 => (WX cI cJ cB cZ ad (Matrix_minor := 1)) | 11 => (WX cI cJ cB cZ ad (Matrix_minor := 1)) | 12 => (WX cI cJ cB cZ ad (Matrix_minor := 1)) | _ => (WX cI cJ cB cZ ad))) 12 B h hr rfl (Or.inr (Or.inr (Or.inr (Or.inr (Or.inr (Or.inr (Or.inr (Or.inr (Or.inr (Or.inr (Or.inr (Or.inr (Or.inl ⟨rfl, rfl, rfl, rfl⟩))))))))))))) dX11_betti_41
      · skip
        refine lv_iconst (v := (-1)) hx hb dX11_betti_16 (by decide) ?_
        exact x_iret (w1 := (fun u : Nat => match u with | 0 => (WX cI cJ cB cZ ad) | 1 => (WX cI cJ cB cZ ad) | 2 => (WX cI cJ cB cZ ad) | 3 => (WX cI cJ cB cZ ad (Matrix_minor := 1)) | 4 => (WX cI cJ cB cZ ad (Matrix_minor := 1)) | 5 => (WX cI cJ cB cZ ad (Matrix_minor := 1)) | 6 => (WX cI cJ cB cZ ad (Matrix_minor := 1)) | 7 => (WX cI cJ cB cZ ad (Matrix_minor := 1)) | 8 => (WX cI cJ cB cZ ad (Matrix_minor := 1)) | 9 => (WX cI cJ cB cZ ad (Matrix_minor := 1)) | 10 => (WX cI cJ cB cZ ad (Matrix_minor := 1)) | 11 => (WX cI cJ cB cZ ad (Matrix_minor := 1)) | 12 => (WX cI cJ cB cZ ad (Matrix_minor := 1)) | _ => (WX cI cJ cB cZ ad))) 13 B h hr rfl (Or.inr (Or.inr (Or.inr (Or.inr (Or.inr (Or.inr (Or.inr (Or.inr (Or.inr (Or.inr (Or.inr (Or.inr (Or.inr (⟨rfl, k_1_0, k_1_1, c_5, c_6, rfl⟩)))))))))))))) dX11_betti_17
