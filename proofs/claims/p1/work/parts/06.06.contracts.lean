set_option maxHeartbeats 4000000 in
set_option maxRecDepth 100000 in
theorem k163_X12_laysTable (l : Launch) (D : va_G) (cI cJ cB cZ : ClassId) (ad bd : Nat → Nat) : MetV l yX12_laysTable wsX12_laysTable 1 23 0 0 D (TYS cI cJ cB cZ) (WM cI cJ cB cZ bd) [.ref (bd 0), .int 3, .int 1] (fun _ : Unit => True) (fun _ => (WM cI cJ cB cZ bd)) := by
  refine x_startV (ty := .int) (cc := cX12_laysTable) (by decide) rfl (Nat.le_of_ble_eq_true rfl) ?_
  intro p e s m args below meth c A ls B hr hnm h hl
  have hx := B.1.1
  have hb := B.1.2.1
  have hml := B.1.2.2.1
  have hts := B.1.2.2.2.2
  have hown : s.vm.findClass RX12 = some m.cls := B.1.2.2.2.1
  have hin12 : ∀ w ∈ u_ws RX12 TX12 31, w ∈ wsX12_laysTable := by decide +kernel
  have hl : lv_has ls 7 [(0, .ref (bd 0)), (1, .int 3), (2, .int 1)] := hl
  refine lv_aload_n hx hb dX12_laysTable_0 rfl (lv_at hl 0 rfl) ?_
  refine lv_aload_n hx hb dX12_laysTable_1 rfl (lv_at hl 0 rfl) ?_
  refine lv_iload_n hx hb dX12_laysTable_2 rfl (lv_at hl 1 rfl) ?_
  refine x_cVIF (n := 1) (As := [.int 3]) (rest := [.ref (bd 0)]) B h (k143_X12_takenOf l D cI cJ cB cZ ad bd) ⟨⟨_, rfl⟩, by decide +kernel, Nat.le_of_ble_eq_true rfl, Nat.le_of_ble_eq_true rfl⟩ gX12_laysTable_X12_takenOf (show ((WM cI cJ cB cZ bd) : va_W)[0]? = some (_, .inr (12, _)) from rfl) rfl rfl hl.1 rfl (Nat.le_of_ble_eq_true rfl) dX12_laysTable_3 ⟨Nat.le_of_ble_eq_true rfl, Nat.le_of_ble_eq_true rfl⟩ (fun r_1 u_1 H locs hp_1 h => ?_)
  obtain rfl := hp_1
  have h : Hp D A s.heap (WM cI cJ cB cZ bd) H locs := h
  refine x_put (ci := 12) (C := RX12) (T := TX12) (N := 31) (v := .int 0) (ty := .int) B h hin12 tyX12 tyX12_ok nmX12 0 23 rfl rfl (by decide) (by decide +kernel) rfl rfl rfl rfl (Nat.le_of_ble_eq_true rfl) dX12_laysTable_6 (fun H locs h => ?_)
  have h : Hp D A s.heap (WM cI cJ cB cZ bd) H locs := h
  refine lv_aload_n hx hb dX12_laysTable_9 rfl (lv_at hl 0 rfl) ?_
  refine lv_aload_n hx hb dX12_laysTable_10 rfl (lv_at hl 0 rfl) ?_
  refine lv_iload_n hx hb dX12_laysTable_11 rfl (lv_at hl 1 rfl) ?_
  refine lv_iconst (v := 1) hx hb dX12_laysTable_12 (by decide) ?_
  refine lv_isub hx hb dX12_laysTable_13 ?_
  refine lv_topi (fun v_2 ev_2 => ?_)
  obtain rfl : v_2 = 2 := ev_2.trans (by decide)
  refine x_cVIF (n := 1) (As := [.int 2]) (rest := [.ref (bd 0)]) B h (k138_X12_takenOf l D cI cJ cB cZ ad bd) ⟨⟨_, rfl⟩, by decide +kernel, Nat.le_of_ble_eq_true rfl, Nat.le_of_ble_eq_true rfl⟩ gX12_laysTable_X12_takenOf (show ((WM cI cJ cB cZ bd) : va_W)[0]? = some (_, .inr (12, _)) from rfl) rfl rfl hl.1 rfl (Nat.le_of_ble_eq_true rfl) dX12_laysTable_14 ⟨Nat.le_of_ble_eq_true rfl, Nat.le_of_ble_eq_true rfl⟩ (fun r_3 u_3 H locs hp_3 h => ?_)
  obtain rfl := hp_3
  have h : Hp D A s.heap (WM cI cJ cB cZ bd) H locs := h
  refine x_put (ci := 12) (C := RX12) (T := TX12) (N := 31) (v := .int 0) (ty := .int) B h hin12 tyX12 tyX12_ok nmX12 0 24 rfl rfl (by decide) (by decide +kernel) rfl rfl rfl rfl (Nat.le_of_ble_eq_true rfl) dX12_laysTable_17 (fun H locs h => ?_)
  have h : Hp D A s.heap (WM cI cJ cB cZ bd) H locs := h
  refine lv_iconst (v := 0) hx hb dX12_laysTable_20 (by decide) ?_
  refine lv_istore_n (lv' := [(3, .int 0), (0, .ref (bd 0)), (1, .int 3), (2, .int 1)]) hx hb dX12_laysTable_21 rfl hl (by decide) rfl (fun ls hl => ?_)
  refine lv_iconst (v := 0) hx hb dX12_laysTable_22 (by decide) ?_
  refine lv_istore (lv' := [(4, .int 0), (3, .int 0), (0, .ref (bd 0)), (1, .int 3), (2, .int 1)]) hx hb dX12_laysTable_23 hl (by decide) rfl (fun ls hl => ?_)
  refine lv_iload hx hb dX12_laysTable_25 (lv_at hl 0 rfl) ?_
  refine lv_aload_n hx hb dX12_laysTable_27 rfl (lv_at hl 2 rfl) ?_
  refine x_get (ci := 12) (C := RX12) (T := TX12) (N := 31) (v := .int 0) B h hin12 0 5 rfl rfl (by decide) (by decide +kernel) rfl dX12_laysTable_28 ?_
  refine lv_icmp_ge (tgt := 164) hx hb dX12_laysTable_31 (by decide) (fun c_4 => ?_) (fun c_4 => absurd c_4 (by decide))
  exact x_vret (w1 := (fun _ => (WM cI cJ cB cZ bd))) () B h hr trivial dX12_laysTable_164
set_option maxHeartbeats 4000000 in
set_option maxRecDepth 100000 in
theorem k164_X12_rankOf (l : Launch) (D : va_G) (cI cJ cB cZ : ClassId) (ad bd : Nat → Nat) : MetI l yX12_rankOf wsX12_rankOf 2 49 0 0 D (TYS cI cJ cB cZ) (WM cI cJ cB cZ bd) [.ref (bd 0), .int 3, .int 1] (fun (r : Int32) (_ : Unit) => r = 0) (fun _ => (WM cI cJ cB cZ bd)) := by
  refine x_startI (ty := .int) (cc := cX12_rankOf) (by decide) rfl (Nat.le_of_ble_eq_true rfl) ?_
  intro p e s m args below meth c A ls B hr hnm h hl
  have hx := B.1.1
  have hb := B.1.2.1
  have hml := B.1.2.2.1
  have hts := B.1.2.2.2.2
  have hown : s.vm.findClass RX12 = some m.cls := B.1.2.2.2.1
  have hl : lv_has ls 3 [(0, .ref (bd 0)), (1, .int 3), (2, .int 1)] := hl
  refine lv_iload_n hx hb dX12_rankOf_0 rfl (lv_at hl 1 rfl) ?_
  refine lv_iconst (v := 1) hx hb dX12_rankOf_1 (by decide) ?_
  refine lv_iconst (v := 4) hx hb dX12_rankOf_2 (by decide) ?_
  refine x_cSIE (n := 3) (As := [.int 3, .int 1, .int 4]) (rest := []) B h (k142_X12_in l D cI cJ cB cZ ad bd) ⟨⟨_, rfl⟩, by decide +kernel, Nat.le_of_ble_eq_true rfl, Nat.le_of_ble_eq_true rfl⟩ gX12_rankOf_X12_in rfl hl.1 rfl (Nat.le_of_ble_eq_true rfl) dX12_rankOf_3 ⟨Nat.le_of_ble_eq_true rfl, Nat.le_of_ble_eq_true rfl⟩ (fun r_1 u_1 H locs hp_1 h => ?_)
  obtain rfl := hp_1
  have h : Hp D A s.heap (WM cI cJ cB cZ bd) H locs := h
  refine lv_if_ne (tgt := 11) hx hb dX12_rankOf_6 (by decide) (fun c_2 => ?_) (fun c_2 => absurd c_2 (by decide))
  refine lv_aload_n hx hb dX12_rankOf_11 rfl (lv_at hl 0 rfl) ?_
  refine lv_iload_n hx hb dX12_rankOf_12 rfl (lv_at hl 1 rfl) ?_
  refine lv_iload_n hx hb dX12_rankOf_13 rfl (lv_at hl 2 rfl) ?_
  refine x_cVVF (n := 2) (As := [.int 3, .int 1]) (rest := []) B h (k163_X12_laysTable l D cI cJ cB cZ ad bd) ⟨⟨_, rfl⟩, by decide +kernel, Nat.le_of_ble_eq_true rfl, Nat.le_of_ble_eq_true rfl⟩ gX12_rankOf_X12_laysTable (show ((WM cI cJ cB cZ bd) : va_W)[0]? = some (_, .inr (12, _)) from rfl) rfl rfl hl.1 rfl (Nat.le_of_ble_eq_true rfl) dX12_rankOf_14 ⟨Nat.le_of_ble_eq_true rfl, Nat.le_of_ble_eq_true rfl⟩ (fun u_3 H locs hp_3 h => ?_)
  have h : Hp D A s.heap (WM cI cJ cB cZ bd) H locs := h
  refine lv_aload_n hx hb dX12_rankOf_17 rfl (lv_at hl 0 rfl) ?_
  refine x_cVIF (n := 0) (As := []) (rest := []) B h (k134_X12_laysSteps l D cI cJ cB cZ ad bd) ⟨⟨_, rfl⟩, by decide +kernel, Nat.le_of_ble_eq_true rfl, Nat.le_of_ble_eq_true rfl⟩ gX12_rankOf_X12_laysSteps (show ((WM cI cJ cB cZ bd) : va_W)[0]? = some (_, .inr (12, _)) from rfl) rfl rfl hl.1 rfl (Nat.le_of_ble_eq_true rfl) dX12_rankOf_18 ⟨Nat.le_of_ble_eq_true rfl, Nat.le_of_ble_eq_true rfl⟩ (fun r_4 u_4 H locs hp_4 h => ?_)
  obtain rfl := hp_4
  have h : Hp D A s.heap (WM cI cJ cB cZ bd) H locs := h
  exact x_iret (w1 := (fun _ => (WM cI cJ cB cZ bd))) () B h hr rfl rfl dX12_rankOf_21
set_option maxHeartbeats 4000000 in
set_option maxRecDepth 100000 in
theorem k165_X12_bettiTaken (l : Launch) (D : va_G) (cI cJ cB cZ : ClassId) (ad bd : Nat → Nat) : MetI l yX12_bettiTaken wsX12_bettiTaken 3 71 0 0 D (TYS cI cJ cB cZ) (WM cI cJ cB cZ bd) [.ref (bd 0), .int 2, .int 1] (fun (r : Int32) (_ : Unit) => r = 0) (fun _ => (WM cI cJ cB cZ bd)) := by
  refine x_startI (ty := .int) (cc := cX12_bettiTaken) (by decide) rfl (Nat.le_of_ble_eq_true rfl) ?_
  intro p e s m args below meth c A ls B hr hnm h hl
  have hx := B.1.1
  have hb := B.1.2.1
  have hml := B.1.2.2.1
  have hts := B.1.2.2.2.2
  have hown : s.vm.findClass RX12 = some m.cls := B.1.2.2.2.1
  have hl : lv_has ls 3 [(0, .ref (bd 0)), (1, .int 2), (2, .int 1)] := hl
  refine lv_aload_n hx hb dX12_bettiTaken_0 rfl (lv_at hl 0 rfl) ?_
  refine lv_iload_n hx hb dX12_bettiTaken_1 rfl (lv_at hl 1 rfl) ?_
  refine x_cVIF (n := 1) (As := [.int 2]) (rest := []) B h (k138_X12_takenOf l D cI cJ cB cZ ad bd) ⟨⟨_, rfl⟩, by decide +kernel, Nat.le_of_ble_eq_true rfl, Nat.le_of_ble_eq_true rfl⟩ gX12_bettiTaken_X12_takenOf (show ((WM cI cJ cB cZ bd) : va_W)[0]? = some (_, .inr (12, _)) from rfl) rfl rfl hl.1 rfl (Nat.le_of_ble_eq_true rfl) dX12_bettiTaken_2 ⟨Nat.le_of_ble_eq_true rfl, Nat.le_of_ble_eq_true rfl⟩ (fun r_1 u_1 H locs hp_1 h => ?_)
  obtain rfl := hp_1
  have h : Hp D A s.heap (WM cI cJ cB cZ bd) H locs := h
  refine lv_aload_n hx hb dX12_bettiTaken_5 rfl (lv_at hl 0 rfl) ?_
  refine lv_iload_n hx hb dX12_bettiTaken_6 rfl (lv_at hl 1 rfl) ?_
  refine lv_iload_n hx hb dX12_bettiTaken_7 rfl (lv_at hl 2 rfl) ?_
  refine x_cVIF (n := 2) (As := [.int 2, .int 1]) (rest := [.int 0]) B h (k161_X12_rankOf l D cI cJ cB cZ ad bd) ⟨⟨_, rfl⟩, by decide +kernel, Nat.le_of_ble_eq_true rfl, Nat.le_of_ble_eq_true rfl⟩ gX12_bettiTaken_X12_rankOf (show ((WM cI cJ cB cZ bd) : va_W)[0]? = some (_, .inr (12, _)) from rfl) rfl rfl hl.1 rfl (Nat.le_of_ble_eq_true rfl) dX12_bettiTaken_8 ⟨Nat.le_of_ble_eq_true rfl, Nat.le_of_ble_eq_true rfl⟩ (fun r_2 u_2 H locs hp_2 h => ?_)
  obtain rfl := hp_2
  have h : Hp D A s.heap (WM cI cJ cB cZ bd) H locs := h
  refine lv_isub hx hb dX12_bettiTaken_11 ?_
  refine lv_topi (fun v_3 ev_3 => ?_)
  obtain rfl : v_3 = 0 := ev_3.trans (by decide)
  refine lv_aload_n hx hb dX12_bettiTaken_12 rfl (lv_at hl 0 rfl) ?_
  refine lv_iload_n hx hb dX12_bettiTaken_13 rfl (lv_at hl 1 rfl) ?_
  refine lv_iconst (v := 1) hx hb dX12_bettiTaken_14 (by decide) ?_
  refine lv_iadd hx hb dX12_bettiTaken_15 ?_
  refine lv_topi (fun v_4 ev_4 => ?_)
  obtain rfl : v_4 = 3 := ev_4.trans (by decide)
  refine lv_iload_n hx hb dX12_bettiTaken_16 rfl (lv_at hl 2 rfl) ?_
  refine x_cVIF (n := 2) (As := [.int 3, .int 1]) (rest := [.int 0]) B h (k164_X12_rankOf l D cI cJ cB cZ ad bd) ⟨⟨_, rfl⟩, by decide +kernel, Nat.le_of_ble_eq_true rfl, Nat.le_of_ble_eq_true rfl⟩ gX12_bettiTaken_X12_rankOf (show ((WM cI cJ cB cZ bd) : va_W)[0]? = some (_, .inr (12, _)) from rfl) rfl rfl hl.1 rfl (Nat.le_of_ble_eq_true rfl) dX12_bettiTaken_17 ⟨Nat.le_of_ble_eq_true rfl, Nat.le_of_ble_eq_true rfl⟩ (fun r_5 u_5 H locs hp_5 h => ?_)
  obtain rfl := hp_5
  have h : Hp D A s.heap (WM cI cJ cB cZ bd) H locs := h
  refine lv_isub hx hb dX12_bettiTaken_20 ?_
  refine lv_topi (fun v_6 ev_6 => ?_)
  obtain rfl : v_6 = 0 := ev_6.trans (by decide)
  exact x_iret (w1 := (fun _ => (WM cI cJ cB cZ bd))) () B h hr rfl rfl dX12_bettiTaken_21
set_option maxHeartbeats 4000000 in
set_option maxRecDepth 100000 in
theorem k166_X12_laysTable (l : Launch) (D : va_G) (cI cJ cB cZ : ClassId) (ad bd : Nat → Nat) : MetV l yX12_laysTable wsX12_laysTable 1 23 0 0 D (TYS cI cJ cB cZ) (WM cI cJ cB cZ bd) [.ref (bd 0), .int 4, .int 1] (fun _ : Unit => True) (fun _ => (WM cI cJ cB cZ bd)) := by
  refine x_startV (ty := .int) (cc := cX12_laysTable) (by decide) rfl (Nat.le_of_ble_eq_true rfl) ?_
  intro p e s m args below meth c A ls B hr hnm h hl
  have hx := B.1.1
  have hb := B.1.2.1
  have hml := B.1.2.2.1
  have hts := B.1.2.2.2.2
  have hown : s.vm.findClass RX12 = some m.cls := B.1.2.2.2.1
  have hin12 : ∀ w ∈ u_ws RX12 TX12 31, w ∈ wsX12_laysTable := by decide +kernel
  have hl : lv_has ls 7 [(0, .ref (bd 0)), (1, .int 4), (2, .int 1)] := hl
  refine lv_aload_n hx hb dX12_laysTable_0 rfl (lv_at hl 0 rfl) ?_
  refine lv_aload_n hx hb dX12_laysTable_1 rfl (lv_at hl 0 rfl) ?_
  refine lv_iload_n hx hb dX12_laysTable_2 rfl (lv_at hl 1 rfl) ?_
  refine x_cVIF (n := 1) (As := [.int 4]) (rest := [.ref (bd 0)]) B h (k148_X12_takenOf l D cI cJ cB cZ ad bd) ⟨⟨_, rfl⟩, by decide +kernel, Nat.le_of_ble_eq_true rfl, Nat.le_of_ble_eq_true rfl⟩ gX12_laysTable_X12_takenOf (show ((WM cI cJ cB cZ bd) : va_W)[0]? = some (_, .inr (12, _)) from rfl) rfl rfl hl.1 rfl (Nat.le_of_ble_eq_true rfl) dX12_laysTable_3 ⟨Nat.le_of_ble_eq_true rfl, Nat.le_of_ble_eq_true rfl⟩ (fun r_1 u_1 H locs hp_1 h => ?_)
  obtain rfl := hp_1
  have h : Hp D A s.heap (WM cI cJ cB cZ bd) H locs := h
  refine x_put (ci := 12) (C := RX12) (T := TX12) (N := 31) (v := .int 0) (ty := .int) B h hin12 tyX12 tyX12_ok nmX12 0 23 rfl rfl (by decide) (by decide +kernel) rfl rfl rfl rfl (Nat.le_of_ble_eq_true rfl) dX12_laysTable_6 (fun H locs h => ?_)
  have h : Hp D A s.heap (WM cI cJ cB cZ bd) H locs := h
  refine lv_aload_n hx hb dX12_laysTable_9 rfl (lv_at hl 0 rfl) ?_
  refine lv_aload_n hx hb dX12_laysTable_10 rfl (lv_at hl 0 rfl) ?_
  refine lv_iload_n hx hb dX12_laysTable_11 rfl (lv_at hl 1 rfl) ?_
  refine lv_iconst (v := 1) hx hb dX12_laysTable_12 (by decide) ?_
  refine lv_isub hx hb dX12_laysTable_13 ?_
  refine lv_topi (fun v_2 ev_2 => ?_)
  obtain rfl : v_2 = 3 := ev_2.trans (by decide)
  refine x_cVIF (n := 1) (As := [.int 3]) (rest := [.ref (bd 0)]) B h (k143_X12_takenOf l D cI cJ cB cZ ad bd) ⟨⟨_, rfl⟩, by decide +kernel, Nat.le_of_ble_eq_true rfl, Nat.le_of_ble_eq_true rfl⟩ gX12_laysTable_X12_takenOf (show ((WM cI cJ cB cZ bd) : va_W)[0]? = some (_, .inr (12, _)) from rfl) rfl rfl hl.1 rfl (Nat.le_of_ble_eq_true rfl) dX12_laysTable_14 ⟨Nat.le_of_ble_eq_true rfl, Nat.le_of_ble_eq_true rfl⟩ (fun r_3 u_3 H locs hp_3 h => ?_)
  obtain rfl := hp_3
  have h : Hp D A s.heap (WM cI cJ cB cZ bd) H locs := h
  refine x_put (ci := 12) (C := RX12) (T := TX12) (N := 31) (v := .int 0) (ty := .int) B h hin12 tyX12 tyX12_ok nmX12 0 24 rfl rfl (by decide) (by decide +kernel) rfl rfl rfl rfl (Nat.le_of_ble_eq_true rfl) dX12_laysTable_17 (fun H locs h => ?_)
  have h : Hp D A s.heap (WM cI cJ cB cZ bd) H locs := h
  refine lv_iconst (v := 0) hx hb dX12_laysTable_20 (by decide) ?_
  refine lv_istore_n (lv' := [(3, .int 0), (0, .ref (bd 0)), (1, .int 4), (2, .int 1)]) hx hb dX12_laysTable_21 rfl hl (by decide) rfl (fun ls hl => ?_)
  refine lv_iconst (v := 0) hx hb dX12_laysTable_22 (by decide) ?_
  refine lv_istore (lv' := [(4, .int 0), (3, .int 0), (0, .ref (bd 0)), (1, .int 4), (2, .int 1)]) hx hb dX12_laysTable_23 hl (by decide) rfl (fun ls hl => ?_)
  refine lv_iload hx hb dX12_laysTable_25 (lv_at hl 0 rfl) ?_
  refine lv_aload_n hx hb dX12_laysTable_27 rfl (lv_at hl 2 rfl) ?_
  refine x_get (ci := 12) (C := RX12) (T := TX12) (N := 31) (v := .int 0) B h hin12 0 5 rfl rfl (by decide) (by decide +kernel) rfl dX12_laysTable_28 ?_
  refine lv_icmp_ge (tgt := 164) hx hb dX12_laysTable_31 (by decide) (fun c_4 => ?_) (fun c_4 => absurd c_4 (by decide))
  exact x_vret (w1 := (fun _ => (WM cI cJ cB cZ bd))) () B h hr trivial dX12_laysTable_164
set_option maxHeartbeats 4000000 in
set_option maxRecDepth 100000 in
theorem k167_X12_rankOf (l : Launch) (D : va_G) (cI cJ cB cZ : ClassId) (ad bd : Nat → Nat) : MetI l yX12_rankOf wsX12_rankOf 2 49 0 0 D (TYS cI cJ cB cZ) (WM cI cJ cB cZ bd) [.ref (bd 0), .int 4, .int 1] (fun (r : Int32) (_ : Unit) => r = 0) (fun _ => (WM cI cJ cB cZ bd)) := by
  refine x_startI (ty := .int) (cc := cX12_rankOf) (by decide) rfl (Nat.le_of_ble_eq_true rfl) ?_
  intro p e s m args below meth c A ls B hr hnm h hl
  have hx := B.1.1
  have hb := B.1.2.1
  have hml := B.1.2.2.1
  have hts := B.1.2.2.2.2
  have hown : s.vm.findClass RX12 = some m.cls := B.1.2.2.2.1
  have hl : lv_has ls 3 [(0, .ref (bd 0)), (1, .int 4), (2, .int 1)] := hl
  refine lv_iload_n hx hb dX12_rankOf_0 rfl (lv_at hl 1 rfl) ?_
  refine lv_iconst (v := 1) hx hb dX12_rankOf_1 (by decide) ?_
  refine lv_iconst (v := 4) hx hb dX12_rankOf_2 (by decide) ?_
  refine x_cSIE (n := 3) (As := [.int 4, .int 1, .int 4]) (rest := []) B h (k147_X12_in l D cI cJ cB cZ ad bd) ⟨⟨_, rfl⟩, by decide +kernel, Nat.le_of_ble_eq_true rfl, Nat.le_of_ble_eq_true rfl⟩ gX12_rankOf_X12_in rfl hl.1 rfl (Nat.le_of_ble_eq_true rfl) dX12_rankOf_3 ⟨Nat.le_of_ble_eq_true rfl, Nat.le_of_ble_eq_true rfl⟩ (fun r_1 u_1 H locs hp_1 h => ?_)
  obtain rfl := hp_1
  have h : Hp D A s.heap (WM cI cJ cB cZ bd) H locs := h
  refine lv_if_ne (tgt := 11) hx hb dX12_rankOf_6 (by decide) (fun c_2 => ?_) (fun c_2 => absurd c_2 (by decide))
  refine lv_aload_n hx hb dX12_rankOf_11 rfl (lv_at hl 0 rfl) ?_
  refine lv_iload_n hx hb dX12_rankOf_12 rfl (lv_at hl 1 rfl) ?_
  refine lv_iload_n hx hb dX12_rankOf_13 rfl (lv_at hl 2 rfl) ?_
  refine x_cVVF (n := 2) (As := [.int 4, .int 1]) (rest := []) B h (k166_X12_laysTable l D cI cJ cB cZ ad bd) ⟨⟨_, rfl⟩, by decide +kernel, Nat.le_of_ble_eq_true rfl, Nat.le_of_ble_eq_true rfl⟩ gX12_rankOf_X12_laysTable (show ((WM cI cJ cB cZ bd) : va_W)[0]? = some (_, .inr (12, _)) from rfl) rfl rfl hl.1 rfl (Nat.le_of_ble_eq_true rfl) dX12_rankOf_14 ⟨Nat.le_of_ble_eq_true rfl, Nat.le_of_ble_eq_true rfl⟩ (fun u_3 H locs hp_3 h => ?_)
  have h : Hp D A s.heap (WM cI cJ cB cZ bd) H locs := h
  refine lv_aload_n hx hb dX12_rankOf_17 rfl (lv_at hl 0 rfl) ?_
  refine x_cVIF (n := 0) (As := []) (rest := []) B h (k134_X12_laysSteps l D cI cJ cB cZ ad bd) ⟨⟨_, rfl⟩, by decide +kernel, Nat.le_of_ble_eq_true rfl, Nat.le_of_ble_eq_true rfl⟩ gX12_rankOf_X12_laysSteps (show ((WM cI cJ cB cZ bd) : va_W)[0]? = some (_, .inr (12, _)) from rfl) rfl rfl hl.1 rfl (Nat.le_of_ble_eq_true rfl) dX12_rankOf_18 ⟨Nat.le_of_ble_eq_true rfl, Nat.le_of_ble_eq_true rfl⟩ (fun r_4 u_4 H locs hp_4 h => ?_)
  obtain rfl := hp_4
  have h : Hp D A s.heap (WM cI cJ cB cZ bd) H locs := h
  exact x_iret (w1 := (fun _ => (WM cI cJ cB cZ bd))) () B h hr rfl rfl dX12_rankOf_21
set_option maxHeartbeats 4000000 in
set_option maxRecDepth 100000 in
theorem k168_X12_bettiTaken (l : Launch) (D : va_G) (cI cJ cB cZ : ClassId) (ad bd : Nat → Nat) : MetI l yX12_bettiTaken wsX12_bettiTaken 3 71 0 0 D (TYS cI cJ cB cZ) (WM cI cJ cB cZ bd) [.ref (bd 0), .int 3, .int 1] (fun (r : Int32) (_ : Unit) => r = 0) (fun _ => (WM cI cJ cB cZ bd)) := by
  refine x_startI (ty := .int) (cc := cX12_bettiTaken) (by decide) rfl (Nat.le_of_ble_eq_true rfl) ?_
  intro p e s m args below meth c A ls B hr hnm h hl
  have hx := B.1.1
  have hb := B.1.2.1
  have hml := B.1.2.2.1
  have hts := B.1.2.2.2.2
  have hown : s.vm.findClass RX12 = some m.cls := B.1.2.2.2.1
  have hl : lv_has ls 3 [(0, .ref (bd 0)), (1, .int 3), (2, .int 1)] := hl
  refine lv_aload_n hx hb dX12_bettiTaken_0 rfl (lv_at hl 0 rfl) ?_
  refine lv_iload_n hx hb dX12_bettiTaken_1 rfl (lv_at hl 1 rfl) ?_
  refine x_cVIF (n := 1) (As := [.int 3]) (rest := []) B h (k143_X12_takenOf l D cI cJ cB cZ ad bd) ⟨⟨_, rfl⟩, by decide +kernel, Nat.le_of_ble_eq_true rfl, Nat.le_of_ble_eq_true rfl⟩ gX12_bettiTaken_X12_takenOf (show ((WM cI cJ cB cZ bd) : va_W)[0]? = some (_, .inr (12, _)) from rfl) rfl rfl hl.1 rfl (Nat.le_of_ble_eq_true rfl) dX12_bettiTaken_2 ⟨Nat.le_of_ble_eq_true rfl, Nat.le_of_ble_eq_true rfl⟩ (fun r_1 u_1 H locs hp_1 h => ?_)
  obtain rfl := hp_1
  have h : Hp D A s.heap (WM cI cJ cB cZ bd) H locs := h
  refine lv_aload_n hx hb dX12_bettiTaken_5 rfl (lv_at hl 0 rfl) ?_
  refine lv_iload_n hx hb dX12_bettiTaken_6 rfl (lv_at hl 1 rfl) ?_
  refine lv_iload_n hx hb dX12_bettiTaken_7 rfl (lv_at hl 2 rfl) ?_
  refine x_cVIF (n := 2) (As := [.int 3, .int 1]) (rest := [.int 0]) B h (k164_X12_rankOf l D cI cJ cB cZ ad bd) ⟨⟨_, rfl⟩, by decide +kernel, Nat.le_of_ble_eq_true rfl, Nat.le_of_ble_eq_true rfl⟩ gX12_bettiTaken_X12_rankOf (show ((WM cI cJ cB cZ bd) : va_W)[0]? = some (_, .inr (12, _)) from rfl) rfl rfl hl.1 rfl (Nat.le_of_ble_eq_true rfl) dX12_bettiTaken_8 ⟨Nat.le_of_ble_eq_true rfl, Nat.le_of_ble_eq_true rfl⟩ (fun r_2 u_2 H locs hp_2 h => ?_)
  obtain rfl := hp_2
  have h : Hp D A s.heap (WM cI cJ cB cZ bd) H locs := h
  refine lv_isub hx hb dX12_bettiTaken_11 ?_
  refine lv_topi (fun v_3 ev_3 => ?_)
  obtain rfl : v_3 = 0 := ev_3.trans (by decide)
  refine lv_aload_n hx hb dX12_bettiTaken_12 rfl (lv_at hl 0 rfl) ?_
  refine lv_iload_n hx hb dX12_bettiTaken_13 rfl (lv_at hl 1 rfl) ?_
  refine lv_iconst (v := 1) hx hb dX12_bettiTaken_14 (by decide) ?_
  refine lv_iadd hx hb dX12_bettiTaken_15 ?_
  refine lv_topi (fun v_4 ev_4 => ?_)
  obtain rfl : v_4 = 4 := ev_4.trans (by decide)
  refine lv_iload_n hx hb dX12_bettiTaken_16 rfl (lv_at hl 2 rfl) ?_
  refine x_cVIF (n := 2) (As := [.int 4, .int 1]) (rest := [.int 0]) B h (k167_X12_rankOf l D cI cJ cB cZ ad bd) ⟨⟨_, rfl⟩, by decide +kernel, Nat.le_of_ble_eq_true rfl, Nat.le_of_ble_eq_true rfl⟩ gX12_bettiTaken_X12_rankOf (show ((WM cI cJ cB cZ bd) : va_W)[0]? = some (_, .inr (12, _)) from rfl) rfl rfl hl.1 rfl (Nat.le_of_ble_eq_true rfl) dX12_bettiTaken_17 ⟨Nat.le_of_ble_eq_true rfl, Nat.le_of_ble_eq_true rfl⟩ (fun r_5 u_5 H locs hp_5 h => ?_)
  obtain rfl := hp_5
  have h : Hp D A s.heap (WM cI cJ cB cZ bd) H locs := h
  refine lv_isub hx hb dX12_bettiTaken_20 ?_
  refine lv_topi (fun v_6 ev_6 => ?_)
  obtain rfl : v_6 = 0 := ev_6.trans (by decide)
  exact x_iret (w1 := (fun _ => (WM cI cJ cB cZ bd))) () B h hr rfl rfl dX12_bettiTaken_21
set_option maxHeartbeats 4000000 in
set_option maxRecDepth 100000 in
theorem k169_X12_rankOf (l : Launch) (D : va_G) (cI cJ cB cZ : ClassId) (ad bd : Nat → Nat) : MetI l yX12_rankOf wsX12_rankOf 1 22 0 0 D (TYS cI cJ cB cZ) (WM cI cJ cB cZ bd) [.ref (bd 0), .int 5, .int 1] (fun (r : Int32) (_ : Unit) => r = 0) (fun _ => (WM cI cJ cB cZ bd)) := by
  refine x_startI (ty := .int) (cc := cX12_rankOf) (by decide) rfl (Nat.le_of_ble_eq_true rfl) ?_
  intro p e s m args below meth c A ls B hr hnm h hl
  have hx := B.1.1
  have hb := B.1.2.1
  have hml := B.1.2.2.1
  have hts := B.1.2.2.2.2
  have hown : s.vm.findClass RX12 = some m.cls := B.1.2.2.2.1
  have hl : lv_has ls 3 [(0, .ref (bd 0)), (1, .int 5), (2, .int 1)] := hl
  refine lv_iload_n hx hb dX12_rankOf_0 rfl (lv_at hl 1 rfl) ?_
  refine lv_iconst (v := 1) hx hb dX12_rankOf_1 (by decide) ?_
  refine lv_iconst (v := 4) hx hb dX12_rankOf_2 (by decide) ?_
  refine x_cSIE (n := 3) (As := [.int 5, .int 1, .int 4]) (rest := []) B h (k152_X12_in l D cI cJ cB cZ ad bd) ⟨⟨_, rfl⟩, by decide +kernel, Nat.le_of_ble_eq_true rfl, Nat.le_of_ble_eq_true rfl⟩ gX12_rankOf_X12_in rfl hl.1 rfl (Nat.le_of_ble_eq_true rfl) dX12_rankOf_3 ⟨Nat.le_of_ble_eq_true rfl, Nat.le_of_ble_eq_true rfl⟩ (fun r_1 u_1 H locs hp_1 h => ?_)
  obtain rfl := hp_1
  have h : Hp D A s.heap (WM cI cJ cB cZ bd) H locs := h
  refine lv_if_ne (tgt := 11) hx hb dX12_rankOf_6 (by decide) (fun c_2 => absurd c_2 (by decide)) (fun c_2 => ?_)
  refine lv_iconst (v := 0) hx hb dX12_rankOf_9 (by decide) ?_
  exact x_iret (w1 := (fun _ => (WM cI cJ cB cZ bd))) () B h hr rfl rfl dX12_rankOf_10
set_option maxHeartbeats 4000000 in
set_option maxRecDepth 100000 in
theorem k170_X12_bettiTaken (l : Launch) (D : va_G) (cI cJ cB cZ : ClassId) (ad bd : Nat → Nat) : MetI l yX12_bettiTaken wsX12_bettiTaken 3 71 0 0 D (TYS cI cJ cB cZ) (WM cI cJ cB cZ bd) [.ref (bd 0), .int 4, .int 1] (fun (r : Int32) (_ : Unit) => r = 0) (fun _ => (WM cI cJ cB cZ bd)) := by
  refine x_startI (ty := .int) (cc := cX12_bettiTaken) (by decide) rfl (Nat.le_of_ble_eq_true rfl) ?_
  intro p e s m args below meth c A ls B hr hnm h hl
  have hx := B.1.1
  have hb := B.1.2.1
  have hml := B.1.2.2.1
  have hts := B.1.2.2.2.2
  have hown : s.vm.findClass RX12 = some m.cls := B.1.2.2.2.1
  have hl : lv_has ls 3 [(0, .ref (bd 0)), (1, .int 4), (2, .int 1)] := hl
  refine lv_aload_n hx hb dX12_bettiTaken_0 rfl (lv_at hl 0 rfl) ?_
  refine lv_iload_n hx hb dX12_bettiTaken_1 rfl (lv_at hl 1 rfl) ?_
  refine x_cVIF (n := 1) (As := [.int 4]) (rest := []) B h (k148_X12_takenOf l D cI cJ cB cZ ad bd) ⟨⟨_, rfl⟩, by decide +kernel, Nat.le_of_ble_eq_true rfl, Nat.le_of_ble_eq_true rfl⟩ gX12_bettiTaken_X12_takenOf (show ((WM cI cJ cB cZ bd) : va_W)[0]? = some (_, .inr (12, _)) from rfl) rfl rfl hl.1 rfl (Nat.le_of_ble_eq_true rfl) dX12_bettiTaken_2 ⟨Nat.le_of_ble_eq_true rfl, Nat.le_of_ble_eq_true rfl⟩ (fun r_1 u_1 H locs hp_1 h => ?_)
  obtain rfl := hp_1
  have h : Hp D A s.heap (WM cI cJ cB cZ bd) H locs := h
  refine lv_aload_n hx hb dX12_bettiTaken_5 rfl (lv_at hl 0 rfl) ?_
  refine lv_iload_n hx hb dX12_bettiTaken_6 rfl (lv_at hl 1 rfl) ?_
  refine lv_iload_n hx hb dX12_bettiTaken_7 rfl (lv_at hl 2 rfl) ?_
  refine x_cVIF (n := 2) (As := [.int 4, .int 1]) (rest := [.int 0]) B h (k167_X12_rankOf l D cI cJ cB cZ ad bd) ⟨⟨_, rfl⟩, by decide +kernel, Nat.le_of_ble_eq_true rfl, Nat.le_of_ble_eq_true rfl⟩ gX12_bettiTaken_X12_rankOf (show ((WM cI cJ cB cZ bd) : va_W)[0]? = some (_, .inr (12, _)) from rfl) rfl rfl hl.1 rfl (Nat.le_of_ble_eq_true rfl) dX12_bettiTaken_8 ⟨Nat.le_of_ble_eq_true rfl, Nat.le_of_ble_eq_true rfl⟩ (fun r_2 u_2 H locs hp_2 h => ?_)
  obtain rfl := hp_2
  have h : Hp D A s.heap (WM cI cJ cB cZ bd) H locs := h
  refine lv_isub hx hb dX12_bettiTaken_11 ?_
  refine lv_topi (fun v_3 ev_3 => ?_)
  obtain rfl : v_3 = 0 := ev_3.trans (by decide)
  refine lv_aload_n hx hb dX12_bettiTaken_12 rfl (lv_at hl 0 rfl) ?_
  refine lv_iload_n hx hb dX12_bettiTaken_13 rfl (lv_at hl 1 rfl) ?_
  refine lv_iconst (v := 1) hx hb dX12_bettiTaken_14 (by decide) ?_
  refine lv_iadd hx hb dX12_bettiTaken_15 ?_
  refine lv_topi (fun v_4 ev_4 => ?_)
  obtain rfl : v_4 = 5 := ev_4.trans (by decide)
  refine lv_iload_n hx hb dX12_bettiTaken_16 rfl (lv_at hl 2 rfl) ?_
  refine x_cVIF (n := 2) (As := [.int 5, .int 1]) (rest := [.int 0]) B h (k169_X12_rankOf l D cI cJ cB cZ ad bd) ⟨⟨_, rfl⟩, by decide +kernel, Nat.le_of_ble_eq_true rfl, Nat.le_of_ble_eq_true rfl⟩ gX12_bettiTaken_X12_rankOf (show ((WM cI cJ cB cZ bd) : va_W)[0]? = some (_, .inr (12, _)) from rfl) rfl rfl hl.1 rfl (Nat.le_of_ble_eq_true rfl) dX12_bettiTaken_17 ⟨Nat.le_of_ble_eq_true rfl, Nat.le_of_ble_eq_true rfl⟩ (fun r_5 u_5 H locs hp_5 h => ?_)
  obtain rfl := hp_5
  have h : Hp D A s.heap (WM cI cJ cB cZ bd) H locs := h
  refine lv_isub hx hb dX12_bettiTaken_20 ?_
  refine lv_topi (fun v_6 ev_6 => ?_)
  obtain rfl : v_6 = 0 := ev_6.trans (by decide)
  exact x_iret (w1 := (fun _ => (WM cI cJ cB cZ bd))) () B h hr rfl rfl dX12_bettiTaken_21
set_option maxHeartbeats 4000000 in
set_option maxRecDepth 100000 in
theorem k171_X12_betti (l : Launch) (D : va_G) (cI cJ cB cZ : ClassId) (ad bd : Nat → Nat) (p1 : Int32) (p2 : Int32) : MetI l yX12_betti wsX12_betti 4 93 0 0 D (TYS cI cJ cB cZ) (WM cI cJ cB cZ bd) [.ref (bd 0), .int p1, .int p2] (fun (r : Int32) (u : Nat) => (u = 0 ∧ (p1 < 0) ∧ r = (-1)) ∨ (u = 1 ∧ (¬ p1 < 0) ∧ (4 < p1) ∧ r = (-1)) ∨ (u = 2 ∧ (¬ p1 < 0) ∧ (¬ 4 < p1) ∧ (p2 < 0) ∧ r = (-1)) ∨ (u = 3 ∧ (¬ p1 < 0) ∧ (¬ 4 < p1) ∧ (¬ p2 < 0) ∧ (1 < p2) ∧ r = (-1)) ∨ (u = 4 ∧ p2 = 0 ∧ p1 = 0 ∧ r = 0) ∨ (u = 5 ∧ p2 = 0 ∧ p1 = 1 ∧ r = 0) ∨ (u = 6 ∧ p2 = 0 ∧ p1 = 2 ∧ r = 0) ∨ (u = 7 ∧ p2 = 0 ∧ p1 = 3 ∧ r = 0) ∨ (u = 8 ∧ p2 = 0 ∧ p1 = 4 ∧ r = 0) ∨ (u = 9 ∧ p2 = 1 ∧ p1 = 0 ∧ r = 0) ∨ (u = 10 ∧ p2 = 1 ∧ p1 = 1 ∧ r = 0) ∨ (u = 11 ∧ p2 = 1 ∧ p1 = 2 ∧ r = 0) ∨ (u = 12 ∧ p2 = 1 ∧ p1 = 3 ∧ r = 0) ∨ (u = 13 ∧ p2 = 1 ∧ p1 = 4 ∧ r = 0)) (fun _ => (WM cI cJ cB cZ bd)) := by
  refine x_startI (ty := .int) (cc := cX12_betti) (by decide) rfl (Nat.le_of_ble_eq_true rfl) ?_
  intro p e s m args below meth c A ls B hr hnm h hl
  have hx := B.1.1
  have hb := B.1.2.1
  have hml := B.1.2.2.1
  have hts := B.1.2.2.2.2
  have hown : s.vm.findClass RX12 = some m.cls := B.1.2.2.2.1
  have hl : lv_has ls 3 [(0, .ref (bd 0)), (1, .int p1), (2, .int p2)] := hl
  refine lv_iload_n hx hb dX12_betti_0 rfl (lv_at hl 1 rfl) ?_
  refine lv_iconst (v := 0) hx hb dX12_betti_1 (by decide) ?_
  refine lv_iconst (v := 4) hx hb dX12_betti_2 (by decide) ?_
  refine x_cSIE (n := 3) (As := [.int p1, .int 0, .int 4]) (rest := []) B h (k71_X12_in l D cI cJ cB cZ ad bd p1) ⟨⟨_, rfl⟩, by decide +kernel, Nat.le_of_ble_eq_true rfl, Nat.le_of_ble_eq_true rfl⟩ gX12_betti_X12_in rfl hl.1 rfl (Nat.le_of_ble_eq_true rfl) dX12_betti_3 ⟨Nat.le_of_ble_eq_true rfl, Nat.le_of_ble_eq_true rfl⟩ (fun r_1 u_1 H locs hp_1 h => ?_)
  rcases hp_1 with ⟨rfl, k_1_0, rfl⟩ | ⟨rfl, k_1_0, k_1_1, rfl⟩ | ⟨rfl, k_1_0, k_1_1, rfl⟩
  · skip
    have h : Hp D A s.heap (WM cI cJ cB cZ bd) H locs := h
    refine lv_if_eq (tgt := 18) hx hb dX12_betti_6 (by decide) (fun c_2 => ?_) (fun c_2 => absurd c_2 (by decide))
    refine lv_iconst (v := (-1)) hx hb dX12_betti_18 (by decide) ?_
    exact x_iret (w1 := (fun _ => (WM cI cJ cB cZ bd))) 0 B h hr rfl (Or.inl ⟨rfl, k_1_0, rfl⟩) dX12_betti_19
  · skip
    have h : Hp D A s.heap (WM cI cJ cB cZ bd) H locs := h
    refine lv_if_eq (tgt := 18) hx hb dX12_betti_6 (by decide) (fun c_3 => ?_) (fun c_3 => absurd c_3 (by decide))
    refine lv_iconst (v := (-1)) hx hb dX12_betti_18 (by decide) ?_
    exact x_iret (w1 := (fun _ => (WM cI cJ cB cZ bd))) 1 B h hr rfl (Or.inr (Or.inl ⟨rfl, k_1_0, k_1_1, rfl⟩)) dX12_betti_19
  · skip
    have h : Hp D A s.heap (WM cI cJ cB cZ bd) H locs := h
    refine lv_if_eq (tgt := 18) hx hb dX12_betti_6 (by decide) (fun c_4 => absurd c_4 (by decide)) (fun c_4 => ?_)
    refine lv_iload_n hx hb dX12_betti_9 rfl (lv_at hl 2 rfl) ?_
    refine lv_iconst (v := 0) hx hb dX12_betti_10 (by decide) ?_
    refine lv_iconst (v := 1) hx hb dX12_betti_11 (by decide) ?_
    refine x_cSIE (n := 3) (As := [.int p2, .int 0, .int 1]) (rest := []) B h (k126_X12_in l D cI cJ cB cZ ad bd p2) ⟨⟨_, rfl⟩, by decide +kernel, Nat.le_of_ble_eq_true rfl, Nat.le_of_ble_eq_true rfl⟩ gX12_betti_X12_in rfl hl.1 rfl (Nat.le_of_ble_eq_true rfl) dX12_betti_12 ⟨Nat.le_of_ble_eq_true rfl, Nat.le_of_ble_eq_true rfl⟩ (fun r_5 u_5 H locs hp_5 h => ?_)
    rcases hp_5 with ⟨rfl, k_5_0, rfl⟩ | ⟨rfl, k_5_0, k_5_1, rfl⟩ | ⟨rfl, k_5_0, k_5_1, rfl⟩
    · skip
      have h : Hp D A s.heap (WM cI cJ cB cZ bd) H locs := h
      refine lv_if_ne (tgt := 20) hx hb dX12_betti_15 (by decide) (fun c_6 => absurd c_6 (by decide)) (fun c_6 => ?_)
      refine lv_iconst (v := (-1)) hx hb dX12_betti_18 (by decide) ?_
      exact x_iret (w1 := (fun _ => (WM cI cJ cB cZ bd))) 2 B h hr rfl (Or.inr (Or.inr (Or.inl ⟨rfl, k_1_0, k_1_1, k_5_0, rfl⟩))) dX12_betti_19
    · skip
      have h : Hp D A s.heap (WM cI cJ cB cZ bd) H locs := h
      refine lv_if_ne (tgt := 20) hx hb dX12_betti_15 (by decide) (fun c_7 => absurd c_7 (by decide)) (fun c_7 => ?_)
      refine lv_iconst (v := (-1)) hx hb dX12_betti_18 (by decide) ?_
      exact x_iret (w1 := (fun _ => (WM cI cJ cB cZ bd))) 3 B h hr rfl (Or.inr (Or.inr (Or.inr (Or.inl ⟨rfl, k_1_0, k_1_1, k_5_0, k_5_1, rfl⟩)))) dX12_betti_19
    · skip
      have h : Hp D A s.heap (WM cI cJ cB cZ bd) H locs := h
      refine lv_if_ne (tgt := 20) hx hb dX12_betti_15 (by decide) (fun c_8 => ?_) (fun c_8 => absurd c_8 (by decide))
      refine lv_aload_n hx hb dX12_betti_20 rfl (lv_at hl 0 rfl) ?_
      refine lv_iload_n hx hb dX12_betti_21 rfl (lv_at hl 2 rfl) ?_
      have k_9 : p2 = 0 ∨ p2 = 1 := by simp only [Int32.lt_iff_toInt_lt, Int32.le_iff_toInt_le, ← Int32.toInt_inj, show ((0 : Int32)).toInt = 0 from by decide, show ((1 : Int32)).toInt = 1 from by decide, show ((4 : Int32)).toInt = 4 from by decide] at k_1_0 k_1_1 k_5_0 k_5_1 ⊢; omega
      rcases k_9 with e_9 | e_9
      · skip
        obtain rfl : p2 = 0 := e_9.trans (by decide)
        refine x_cVVF (n := 1) (As := [.int 0]) (rest := []) B h (k127_X12_takes l D cI cJ cB cZ ad bd) ⟨⟨_, rfl⟩, by decide +kernel, Nat.le_of_ble_eq_true rfl, Nat.le_of_ble_eq_true rfl⟩ gX12_betti_X12_takes (show ((WM cI cJ cB cZ bd) : va_W)[0]? = some (_, .inr (12, _)) from rfl) rfl rfl hl.1 rfl (Nat.le_of_ble_eq_true rfl) dX12_betti_22 ⟨Nat.le_of_ble_eq_true rfl, Nat.le_of_ble_eq_true rfl⟩ (fun u_10 H locs hp_10 h => ?_)
        have h : Hp D A s.heap (WM cI cJ cB cZ bd) H locs := h
        refine lv_aload_n hx hb dX12_betti_25 rfl (lv_at hl 0 rfl) ?_
        refine lv_iload_n hx hb dX12_betti_26 rfl (lv_at hl 1 rfl) ?_
        refine lv_iload_n hx hb dX12_betti_27 rfl (lv_at hl 2 rfl) ?_
        have k_11 : p1 = 0 ∨ p1 = 1 ∨ p1 = 2 ∨ p1 = 3 ∨ p1 = 4 := by simp only [Int32.lt_iff_toInt_lt, Int32.le_iff_toInt_le, ← Int32.toInt_inj, show ((0 : Int32)).toInt = 0 from by decide, show ((1 : Int32)).toInt = 1 from by decide, show ((2 : Int32)).toInt = 2 from by decide, show ((3 : Int32)).toInt = 3 from by decide, show ((4 : Int32)).toInt = 4 from by decide] at k_1_0 k_1_1 ⊢; omega
        rcases k_11 with e_11 | e_11 | e_11 | e_11 | e_11
        · skip
          obtain rfl : p1 = 0 := e_11.trans (by decide)
          refine x_cVIF (n := 2) (As := [.int 0, .int 0]) (rest := []) B h (k136_X12_bettiTaken l D cI cJ cB cZ ad bd) ⟨⟨_, rfl⟩, by decide +kernel, Nat.le_of_ble_eq_true rfl, Nat.le_of_ble_eq_true rfl⟩ gX12_betti_X12_bettiTaken (show ((WM cI cJ cB cZ bd) : va_W)[0]? = some (_, .inr (12, _)) from rfl) rfl rfl hl.1 rfl (Nat.le_of_ble_eq_true rfl) dX12_betti_28 ⟨Nat.le_of_ble_eq_true rfl, Nat.le_of_ble_eq_true rfl⟩ (fun r_12 u_12 H locs hp_12 h => ?_)
          obtain rfl := hp_12
          have h : Hp D A s.heap (WM cI cJ cB cZ bd) H locs := h
          exact x_iret (w1 := (fun _ => (WM cI cJ cB cZ bd))) 4 B h hr rfl (Or.inr (Or.inr (Or.inr (Or.inr (Or.inl ⟨rfl, rfl, rfl, rfl⟩))))) dX12_betti_31
        · skip
          obtain rfl : p1 = 1 := e_11.trans (by decide)
          refine x_cVIF (n := 2) (As := [.int 1, .int 0]) (rest := []) B h (k141_X12_bettiTaken l D cI cJ cB cZ ad bd) ⟨⟨_, rfl⟩, by decide +kernel, Nat.le_of_ble_eq_true rfl, Nat.le_of_ble_eq_true rfl⟩ gX12_betti_X12_bettiTaken (show ((WM cI cJ cB cZ bd) : va_W)[0]? = some (_, .inr (12, _)) from rfl) rfl rfl hl.1 rfl (Nat.le_of_ble_eq_true rfl) dX12_betti_28 ⟨Nat.le_of_ble_eq_true rfl, Nat.le_of_ble_eq_true rfl⟩ (fun r_13 u_13 H locs hp_13 h => ?_)
          obtain rfl := hp_13
          have h : Hp D A s.heap (WM cI cJ cB cZ bd) H locs := h
          exact x_iret (w1 := (fun _ => (WM cI cJ cB cZ bd))) 5 B h hr rfl (Or.inr (Or.inr (Or.inr (Or.inr (Or.inr (Or.inl ⟨rfl, rfl, rfl, rfl⟩)))))) dX12_betti_31
        · skip
          obtain rfl : p1 = 2 := e_11.trans (by decide)
          refine x_cVIF (n := 2) (As := [.int 2, .int 0]) (rest := []) B h (k146_X12_bettiTaken l D cI cJ cB cZ ad bd) ⟨⟨_, rfl⟩, by decide +kernel, Nat.le_of_ble_eq_true rfl, Nat.le_of_ble_eq_true rfl⟩ gX12_betti_X12_bettiTaken (show ((WM cI cJ cB cZ bd) : va_W)[0]? = some (_, .inr (12, _)) from rfl) rfl rfl hl.1 rfl (Nat.le_of_ble_eq_true rfl) dX12_betti_28 ⟨Nat.le_of_ble_eq_true rfl, Nat.le_of_ble_eq_true rfl⟩ (fun r_14 u_14 H locs hp_14 h => ?_)
          obtain rfl := hp_14
          have h : Hp D A s.heap (WM cI cJ cB cZ bd) H locs := h
          exact x_iret (w1 := (fun _ => (WM cI cJ cB cZ bd))) 6 B h hr rfl (Or.inr (Or.inr (Or.inr (Or.inr (Or.inr (Or.inr (Or.inl ⟨rfl, rfl, rfl, rfl⟩))))))) dX12_betti_31
        · skip
          obtain rfl : p1 = 3 := e_11.trans (by decide)
          refine x_cVIF (n := 2) (As := [.int 3, .int 0]) (rest := []) B h (k151_X12_bettiTaken l D cI cJ cB cZ ad bd) ⟨⟨_, rfl⟩, by decide +kernel, Nat.le_of_ble_eq_true rfl, Nat.le_of_ble_eq_true rfl⟩ gX12_betti_X12_bettiTaken (show ((WM cI cJ cB cZ bd) : va_W)[0]? = some (_, .inr (12, _)) from rfl) rfl rfl hl.1 rfl (Nat.le_of_ble_eq_true rfl) dX12_betti_28 ⟨Nat.le_of_ble_eq_true rfl, Nat.le_of_ble_eq_true rfl⟩ (fun r_15 u_15 H locs hp_15 h => ?_)
          obtain rfl := hp_15
          have h : Hp D A s.heap (WM cI cJ cB cZ bd) H locs := h
          exact x_iret (w1 := (fun _ => (WM cI cJ cB cZ bd))) 7 B h hr rfl (Or.inr (Or.inr (Or.inr (Or.inr (Or.inr (Or.inr (Or.inr (Or.inl ⟨rfl, rfl, rfl, rfl⟩)))))))) dX12_betti_31
        · skip
          obtain rfl : p1 = 4 := e_11.trans (by decide)
          refine x_cVIF (n := 2) (As := [.int 4, .int 0]) (rest := []) B h (k154_X12_bettiTaken l D cI cJ cB cZ ad bd) ⟨⟨_, rfl⟩, by decide +kernel, Nat.le_of_ble_eq_true rfl, Nat.le_of_ble_eq_true rfl⟩ gX12_betti_X12_bettiTaken (show ((WM cI cJ cB cZ bd) : va_W)[0]? = some (_, .inr (12, _)) from rfl) rfl rfl hl.1 rfl (Nat.le_of_ble_eq_true rfl) dX12_betti_28 ⟨Nat.le_of_ble_eq_true rfl, Nat.le_of_ble_eq_true rfl⟩ (fun r_16 u_16 H locs hp_16 h => ?_)
          obtain rfl := hp_16
          have h : Hp D A s.heap (WM cI cJ cB cZ bd) H locs := h
          exact x_iret (w1 := (fun _ => (WM cI cJ cB cZ bd))) 8 B h hr rfl (Or.inr (Or.inr (Or.inr (Or.inr (Or.inr (Or.inr (Or.inr (Or.inr (Or.inl ⟨rfl, rfl, rfl, rfl⟩))))))))) dX12_betti_31
      · skip
        obtain rfl : p2 = 1 := e_9.trans (by decide)
        refine x_cVVF (n := 1) (As := [.int 1]) (rest := []) B h (k155_X12_takes l D cI cJ cB cZ ad bd) ⟨⟨_, rfl⟩, by decide +kernel, Nat.le_of_ble_eq_true rfl, Nat.le_of_ble_eq_true rfl⟩ gX12_betti_X12_takes (show ((WM cI cJ cB cZ bd) : va_W)[0]? = some (_, .inr (12, _)) from rfl) rfl rfl hl.1 rfl (Nat.le_of_ble_eq_true rfl) dX12_betti_22 ⟨Nat.le_of_ble_eq_true rfl, Nat.le_of_ble_eq_true rfl⟩ (fun u_17 H locs hp_17 h => ?_)
        have h : Hp D A s.heap (WM cI cJ cB cZ bd) H locs := h
        refine lv_aload_n hx hb dX12_betti_25 rfl (lv_at hl 0 rfl) ?_
        refine lv_iload_n hx hb dX12_betti_26 rfl (lv_at hl 1 rfl) ?_
        refine lv_iload_n hx hb dX12_betti_27 rfl (lv_at hl 2 rfl) ?_
        have k_18 : p1 = 0 ∨ p1 = 1 ∨ p1 = 2 ∨ p1 = 3 ∨ p1 = 4 := by simp only [Int32.lt_iff_toInt_lt, Int32.le_iff_toInt_le, ← Int32.toInt_inj, show ((0 : Int32)).toInt = 0 from by decide, show ((1 : Int32)).toInt = 1 from by decide, show ((2 : Int32)).toInt = 2 from by decide, show ((3 : Int32)).toInt = 3 from by decide, show ((4 : Int32)).toInt = 4 from by decide] at k_1_0 k_1_1 ⊢; omega
        rcases k_18 with e_18 | e_18 | e_18 | e_18 | e_18
        · skip
          obtain rfl : p1 = 0 := e_18.trans (by decide)
          refine x_cVIF (n := 2) (As := [.int 0, .int 1]) (rest := []) B h (k159_X12_bettiTaken l D cI cJ cB cZ ad bd) ⟨⟨_, rfl⟩, by decide +kernel, Nat.le_of_ble_eq_true rfl, Nat.le_of_ble_eq_true rfl⟩ gX12_betti_X12_bettiTaken (show ((WM cI cJ cB cZ bd) : va_W)[0]? = some (_, .inr (12, _)) from rfl) rfl rfl hl.1 rfl (Nat.le_of_ble_eq_true rfl) dX12_betti_28 ⟨Nat.le_of_ble_eq_true rfl, Nat.le_of_ble_eq_true rfl⟩ (fun r_19 u_19 H locs hp_19 h => ?_)
          obtain rfl := hp_19
          have h : Hp D A s.heap (WM cI cJ cB cZ bd) H locs := h
          exact x_iret (w1 := (fun _ => (WM cI cJ cB cZ bd))) 9 B h hr rfl (Or.inr (Or.inr (Or.inr (Or.inr (Or.inr (Or.inr (Or.inr (Or.inr (Or.inr (Or.inl ⟨rfl, rfl, rfl, rfl⟩)))))))))) dX12_betti_31
        · skip
          obtain rfl : p1 = 1 := e_18.trans (by decide)
          refine x_cVIF (n := 2) (As := [.int 1, .int 1]) (rest := []) B h (k162_X12_bettiTaken l D cI cJ cB cZ ad bd) ⟨⟨_, rfl⟩, by decide +kernel, Nat.le_of_ble_eq_true rfl, Nat.le_of_ble_eq_true rfl⟩ gX12_betti_X12_bettiTaken (show ((WM cI cJ cB cZ bd) : va_W)[0]? = some (_, .inr (12, _)) from rfl) rfl rfl hl.1 rfl (Nat.le_of_ble_eq_true rfl) dX12_betti_28 ⟨Nat.le_of_ble_eq_true rfl, Nat.le_of_ble_eq_true rfl⟩ (fun r_20 u_20 H locs hp_20 h => ?_)
          obtain rfl := hp_20
          have h : Hp D A s.heap (WM cI cJ cB cZ bd) H locs := h
          exact x_iret (w1 := (fun _ => (WM cI cJ cB cZ bd))) 10 B h hr rfl (Or.inr (Or.inr (Or.inr (Or.inr (Or.inr (Or.inr (Or.inr (Or.inr (Or.inr (Or.inr (Or.inl ⟨rfl, rfl, rfl, rfl⟩))))))))))) dX12_betti_31
        · skip
          obtain rfl : p1 = 2 := e_18.trans (by decide)
          refine x_cVIF (n := 2) (As := [.int 2, .int 1]) (rest := []) B h (k165_X12_bettiTaken l D cI cJ cB cZ ad bd) ⟨⟨_, rfl⟩, by decide +kernel, Nat.le_of_ble_eq_true rfl, Nat.le_of_ble_eq_true rfl⟩ gX12_betti_X12_bettiTaken (show ((WM cI cJ cB cZ bd) : va_W)[0]? = some (_, .inr (12, _)) from rfl) rfl rfl hl.1 rfl (Nat.le_of_ble_eq_true rfl) dX12_betti_28 ⟨Nat.le_of_ble_eq_true rfl, Nat.le_of_ble_eq_true rfl⟩ (fun r_21 u_21 H locs hp_21 h => ?_)
          obtain rfl := hp_21
          have h : Hp D A s.heap (WM cI cJ cB cZ bd) H locs := h
          exact x_iret (w1 := (fun _ => (WM cI cJ cB cZ bd))) 11 B h hr rfl (Or.inr (Or.inr (Or.inr (Or.inr (Or.inr (Or.inr (Or.inr (Or.inr (Or.inr (Or.inr (Or.inr (Or.inl ⟨rfl, rfl, rfl, rfl⟩)))))))))))) dX12_betti_31
        · skip
          obtain rfl : p1 = 3 := e_18.trans (by decide)
          refine x_cVIF (n := 2) (As := [.int 3, .int 1]) (rest := []) B h (k168_X12_bettiTaken l D cI cJ cB cZ ad bd) ⟨⟨_, rfl⟩, by decide +kernel, Nat.le_of_ble_eq_true rfl, Nat.le_of_ble_eq_true rfl⟩ gX12_betti_X12_bettiTaken (show ((WM cI cJ cB cZ bd) : va_W)[0]? = some (_, .inr (12, _)) from rfl) rfl rfl hl.1 rfl (Nat.le_of_ble_eq_true rfl) dX12_betti_28 ⟨Nat.le_of_ble_eq_true rfl, Nat.le_of_ble_eq_true rfl⟩ (fun r_22 u_22 H locs hp_22 h => ?_)
          obtain rfl := hp_22
          have h : Hp D A s.heap (WM cI cJ cB cZ bd) H locs := h
          exact x_iret (w1 := (fun _ => (WM cI cJ cB cZ bd))) 12 B h hr rfl (Or.inr (Or.inr (Or.inr (Or.inr (Or.inr (Or.inr (Or.inr (Or.inr (Or.inr (Or.inr (Or.inr (Or.inr (Or.inl ⟨rfl, rfl, rfl, rfl⟩))))))))))))) dX12_betti_31
        · skip
          obtain rfl : p1 = 4 := e_18.trans (by decide)
          refine x_cVIF (n := 2) (As := [.int 4, .int 1]) (rest := []) B h (k170_X12_bettiTaken l D cI cJ cB cZ ad bd) ⟨⟨_, rfl⟩, by decide +kernel, Nat.le_of_ble_eq_true rfl, Nat.le_of_ble_eq_true rfl⟩ gX12_betti_X12_bettiTaken (show ((WM cI cJ cB cZ bd) : va_W)[0]? = some (_, .inr (12, _)) from rfl) rfl rfl hl.1 rfl (Nat.le_of_ble_eq_true rfl) dX12_betti_28 ⟨Nat.le_of_ble_eq_true rfl, Nat.le_of_ble_eq_true rfl⟩ (fun r_23 u_23 H locs hp_23 h => ?_)
          obtain rfl := hp_23
          have h : Hp D A s.heap (WM cI cJ cB cZ bd) H locs := h
          exact x_iret (w1 := (fun _ => (WM cI cJ cB cZ bd))) 13 B h hr rfl (Or.inr (Or.inr (Or.inr (Or.inr (Or.inr (Or.inr (Or.inr (Or.inr (Or.inr (Or.inr (Or.inr (Or.inr (Or.inr (⟨rfl, rfl, rfl, rfl⟩)))))))))))))) dX12_betti_31
set_option maxHeartbeats 4000000 in
set_option maxRecDepth 100000 in
theorem k172_X0_torsionsOf (l : Launch) (D : va_G) (cI cJ cB cZ : ClassId) (ad bd : Nat → Nat) : MetI l yX0_torsionsOf wsX0_torsionsOf 3 113 0 0 D (TYS cI cJ cB cZ) (WX cI cJ cB cZ ad) [.ref (ad 8), .long 0, .int 0, .int 0] (fun (r : Int32) (_ : Unit) => r = 0) (fun _ => (WX cI cJ cB cZ ad (Matrix_minor := 1))) := by
  refine x_startI (ty := .int) (cc := cX0_torsionsOf) (by decide) rfl (Nat.le_of_ble_eq_true rfl) ?_
  intro p e s m args below meth c A ls B hr hnm h hl
  have hx := B.1.1
  have hb := B.1.2.1
  have hml := B.1.2.2.1
  have hts := B.1.2.2.2.2
  have hown : s.vm.findClass RX0 = some m.cls := B.1.2.2.2.1
  have hl : lv_has ls 8 [(0, .ref (ad 8)), (1, .long 0), (3, .int 0), (4, .int 0)] := hl
  refine lv_aload_n hx hb dX0_torsionsOf_0 rfl (lv_at hl 0 rfl) ?_
  refine lv_lload_n hx hb dX0_torsionsOf_1 rfl (lv_at hl 1 rfl) ?_
  refine lv_iload_n hx hb dX0_torsionsOf_2 rfl (lv_at hl 2 rfl) ?_
  refine lv_iconst (v := 1) hx hb dX0_torsionsOf_3 (by decide) ?_
  refine lv_iadd hx hb dX0_torsionsOf_4 ?_
  refine lv_topi (fun v_1 ev_1 => ?_)
  obtain rfl : v_1 = 1 := ev_1.trans (by decide)
  refine lv_iload hx hb dX0_torsionsOf_5 (lv_at hl 3 rfl) ?_
  refine x_cVIF (n := 3) (As := [.long 0, .int 1, .int 0]) (rest := []) B h (k92_X0_rankOf l D cI cJ cB cZ ad bd) ⟨⟨_, rfl⟩, by decide +kernel, Nat.le_of_ble_eq_true rfl, Nat.le_of_ble_eq_true rfl⟩ gX0_torsionsOf_X0_rankOf (show ((WX cI cJ cB cZ ad) : va_W)[8]? = some (_, .inr (0, _)) from rfl) rfl rfl hl.1 rfl (Nat.le_of_ble_eq_true rfl) dX0_torsionsOf_7 ⟨Nat.le_of_ble_eq_true rfl, Nat.le_of_ble_eq_true rfl⟩ (fun r_2 u_2 H locs hp_2 h => ?_)
  obtain rfl := hp_2
  have h : Hp D A s.heap (WX cI cJ cB cZ ad (Matrix_minor := 1)) H locs := h
  refine lv_istore (lv' := [(5, .int 0), (0, .ref (ad 8)), (1, .long 0), (3, .int 0), (4, .int 0)]) hx hb dX0_torsionsOf_10 hl (by decide) rfl (fun ls hl => ?_)
  refine lv_iload hx hb dX0_torsionsOf_12 (lv_at hl 0 rfl) ?_
  refine lv_if_eq (tgt := 29) hx hb dX0_torsionsOf_14 (by decide) (fun c_3 => ?_) (fun c_3 => absurd c_3 (by decide))
  refine lv_iconst (v := 0) hx hb dX0_torsionsOf_29 (by decide) ?_
  exact x_iret (w1 := (fun _ => (WX cI cJ cB cZ ad (Matrix_minor := 1)))) () B h hr rfl rfl dX0_torsionsOf_30
set_option maxHeartbeats 4000000 in
set_option maxRecDepth 100000 in
theorem k173_X0_torsionsOf (l : Launch) (D : va_G) (cI cJ cB cZ : ClassId) (ad bd : Nat → Nat) : MetI l yX0_torsionsOf wsX0_torsionsOf 3 113 0 0 D (TYS cI cJ cB cZ) (WX cI cJ cB cZ ad) [.ref (ad 8), .long 0, .int 1, .int 0] (fun (r : Int32) (_ : Unit) => r = 0) (fun _ => (WX cI cJ cB cZ ad (Matrix_minor := 1))) := by
  refine x_startI (ty := .int) (cc := cX0_torsionsOf) (by decide) rfl (Nat.le_of_ble_eq_true rfl) ?_
  intro p e s m args below meth c A ls B hr hnm h hl
  have hx := B.1.1
  have hb := B.1.2.1
  have hml := B.1.2.2.1
  have hts := B.1.2.2.2.2
  have hown : s.vm.findClass RX0 = some m.cls := B.1.2.2.2.1
  have hl : lv_has ls 8 [(0, .ref (ad 8)), (1, .long 0), (3, .int 1), (4, .int 0)] := hl
  refine lv_aload_n hx hb dX0_torsionsOf_0 rfl (lv_at hl 0 rfl) ?_
  refine lv_lload_n hx hb dX0_torsionsOf_1 rfl (lv_at hl 1 rfl) ?_
  refine lv_iload_n hx hb dX0_torsionsOf_2 rfl (lv_at hl 2 rfl) ?_
  refine lv_iconst (v := 1) hx hb dX0_torsionsOf_3 (by decide) ?_
  refine lv_iadd hx hb dX0_torsionsOf_4 ?_
  refine lv_topi (fun v_1 ev_1 => ?_)
  obtain rfl : v_1 = 2 := ev_1.trans (by decide)
  refine lv_iload hx hb dX0_torsionsOf_5 (lv_at hl 3 rfl) ?_
  refine x_cVIF (n := 3) (As := [.long 0, .int 2, .int 0]) (rest := []) B h (k99_X0_rankOf l D cI cJ cB cZ ad bd) ⟨⟨_, rfl⟩, by decide +kernel, Nat.le_of_ble_eq_true rfl, Nat.le_of_ble_eq_true rfl⟩ gX0_torsionsOf_X0_rankOf (show ((WX cI cJ cB cZ ad) : va_W)[8]? = some (_, .inr (0, _)) from rfl) rfl rfl hl.1 rfl (Nat.le_of_ble_eq_true rfl) dX0_torsionsOf_7 ⟨Nat.le_of_ble_eq_true rfl, Nat.le_of_ble_eq_true rfl⟩ (fun r_2 u_2 H locs hp_2 h => ?_)
  obtain rfl := hp_2
  have h : Hp D A s.heap (WX cI cJ cB cZ ad (Matrix_minor := 1)) H locs := h
  refine lv_istore (lv' := [(5, .int 0), (0, .ref (ad 8)), (1, .long 0), (3, .int 1), (4, .int 0)]) hx hb dX0_torsionsOf_10 hl (by decide) rfl (fun ls hl => ?_)
  refine lv_iload hx hb dX0_torsionsOf_12 (lv_at hl 0 rfl) ?_
  refine lv_if_eq (tgt := 29) hx hb dX0_torsionsOf_14 (by decide) (fun c_3 => ?_) (fun c_3 => absurd c_3 (by decide))
  refine lv_iconst (v := 0) hx hb dX0_torsionsOf_29 (by decide) ?_
  exact x_iret (w1 := (fun _ => (WX cI cJ cB cZ ad (Matrix_minor := 1)))) () B h hr rfl rfl dX0_torsionsOf_30
set_option maxHeartbeats 4000000 in
set_option maxRecDepth 100000 in
theorem k174_X0_torsionsOf (l : Launch) (D : va_G) (cI cJ cB cZ : ClassId) (ad bd : Nat → Nat) : MetI l yX0_torsionsOf wsX0_torsionsOf 3 113 0 0 D (TYS cI cJ cB cZ) (WX cI cJ cB cZ ad) [.ref (ad 8), .long 0, .int 2, .int 0] (fun (r : Int32) (_ : Unit) => r = 0) (fun _ => (WX cI cJ cB cZ ad (Matrix_minor := 1))) := by
  refine x_startI (ty := .int) (cc := cX0_torsionsOf) (by decide) rfl (Nat.le_of_ble_eq_true rfl) ?_
  intro p e s m args below meth c A ls B hr hnm h hl
  have hx := B.1.1
  have hb := B.1.2.1
  have hml := B.1.2.2.1
  have hts := B.1.2.2.2.2
  have hown : s.vm.findClass RX0 = some m.cls := B.1.2.2.2.1
  have hl : lv_has ls 8 [(0, .ref (ad 8)), (1, .long 0), (3, .int 2), (4, .int 0)] := hl
  refine lv_aload_n hx hb dX0_torsionsOf_0 rfl (lv_at hl 0 rfl) ?_
  refine lv_lload_n hx hb dX0_torsionsOf_1 rfl (lv_at hl 1 rfl) ?_
  refine lv_iload_n hx hb dX0_torsionsOf_2 rfl (lv_at hl 2 rfl) ?_
  refine lv_iconst (v := 1) hx hb dX0_torsionsOf_3 (by decide) ?_
  refine lv_iadd hx hb dX0_torsionsOf_4 ?_
  refine lv_topi (fun v_1 ev_1 => ?_)
  obtain rfl : v_1 = 3 := ev_1.trans (by decide)
  refine lv_iload hx hb dX0_torsionsOf_5 (lv_at hl 3 rfl) ?_
  refine x_cVIF (n := 3) (As := [.long 0, .int 3, .int 0]) (rest := []) B h (k102_X0_rankOf l D cI cJ cB cZ ad bd) ⟨⟨_, rfl⟩, by decide +kernel, Nat.le_of_ble_eq_true rfl, Nat.le_of_ble_eq_true rfl⟩ gX0_torsionsOf_X0_rankOf (show ((WX cI cJ cB cZ ad) : va_W)[8]? = some (_, .inr (0, _)) from rfl) rfl rfl hl.1 rfl (Nat.le_of_ble_eq_true rfl) dX0_torsionsOf_7 ⟨Nat.le_of_ble_eq_true rfl, Nat.le_of_ble_eq_true rfl⟩ (fun r_2 u_2 H locs hp_2 h => ?_)
  obtain rfl := hp_2
  have h : Hp D A s.heap (WX cI cJ cB cZ ad (Matrix_minor := 1)) H locs := h
  refine lv_istore (lv' := [(5, .int 0), (0, .ref (ad 8)), (1, .long 0), (3, .int 2), (4, .int 0)]) hx hb dX0_torsionsOf_10 hl (by decide) rfl (fun ls hl => ?_)
  refine lv_iload hx hb dX0_torsionsOf_12 (lv_at hl 0 rfl) ?_
  refine lv_if_eq (tgt := 29) hx hb dX0_torsionsOf_14 (by decide) (fun c_3 => ?_) (fun c_3 => absurd c_3 (by decide))
  refine lv_iconst (v := 0) hx hb dX0_torsionsOf_29 (by decide) ?_
  exact x_iret (w1 := (fun _ => (WX cI cJ cB cZ ad (Matrix_minor := 1)))) () B h hr rfl rfl dX0_torsionsOf_30
set_option maxHeartbeats 4000000 in
set_option maxRecDepth 100000 in
theorem k175_X0_torsionsOf (l : Launch) (D : va_G) (cI cJ cB cZ : ClassId) (ad bd : Nat → Nat) : MetI l yX0_torsionsOf wsX0_torsionsOf 3 113 0 0 D (TYS cI cJ cB cZ) (WX cI cJ cB cZ ad) [.ref (ad 8), .long 0, .int 3, .int 0] (fun (r : Int32) (_ : Unit) => r = 0) (fun _ => (WX cI cJ cB cZ ad (Matrix_minor := 1))) := by
  refine x_startI (ty := .int) (cc := cX0_torsionsOf) (by decide) rfl (Nat.le_of_ble_eq_true rfl) ?_
  intro p e s m args below meth c A ls B hr hnm h hl
  have hx := B.1.1
  have hb := B.1.2.1
  have hml := B.1.2.2.1
  have hts := B.1.2.2.2.2
  have hown : s.vm.findClass RX0 = some m.cls := B.1.2.2.2.1
  have hl : lv_has ls 8 [(0, .ref (ad 8)), (1, .long 0), (3, .int 3), (4, .int 0)] := hl
  refine lv_aload_n hx hb dX0_torsionsOf_0 rfl (lv_at hl 0 rfl) ?_
  refine lv_lload_n hx hb dX0_torsionsOf_1 rfl (lv_at hl 1 rfl) ?_
  refine lv_iload_n hx hb dX0_torsionsOf_2 rfl (lv_at hl 2 rfl) ?_
  refine lv_iconst (v := 1) hx hb dX0_torsionsOf_3 (by decide) ?_
  refine lv_iadd hx hb dX0_torsionsOf_4 ?_
  refine lv_topi (fun v_1 ev_1 => ?_)
  obtain rfl : v_1 = 4 := ev_1.trans (by decide)
  refine lv_iload hx hb dX0_torsionsOf_5 (lv_at hl 3 rfl) ?_
  refine x_cVIF (n := 3) (As := [.long 0, .int 4, .int 0]) (rest := []) B h (k105_X0_rankOf l D cI cJ cB cZ ad bd) ⟨⟨_, rfl⟩, by decide +kernel, Nat.le_of_ble_eq_true rfl, Nat.le_of_ble_eq_true rfl⟩ gX0_torsionsOf_X0_rankOf (show ((WX cI cJ cB cZ ad) : va_W)[8]? = some (_, .inr (0, _)) from rfl) rfl rfl hl.1 rfl (Nat.le_of_ble_eq_true rfl) dX0_torsionsOf_7 ⟨Nat.le_of_ble_eq_true rfl, Nat.le_of_ble_eq_true rfl⟩ (fun r_2 u_2 H locs hp_2 h => ?_)
  obtain rfl := hp_2
  have h : Hp D A s.heap (WX cI cJ cB cZ ad (Matrix_minor := 1)) H locs := h
  refine lv_istore (lv' := [(5, .int 0), (0, .ref (ad 8)), (1, .long 0), (3, .int 3), (4, .int 0)]) hx hb dX0_torsionsOf_10 hl (by decide) rfl (fun ls hl => ?_)
  refine lv_iload hx hb dX0_torsionsOf_12 (lv_at hl 0 rfl) ?_
  refine lv_if_eq (tgt := 29) hx hb dX0_torsionsOf_14 (by decide) (fun c_3 => ?_) (fun c_3 => absurd c_3 (by decide))
  refine lv_iconst (v := 0) hx hb dX0_torsionsOf_29 (by decide) ?_
  exact x_iret (w1 := (fun _ => (WX cI cJ cB cZ ad (Matrix_minor := 1)))) () B h hr rfl rfl dX0_torsionsOf_30
set_option maxHeartbeats 4000000 in
set_option maxRecDepth 100000 in
theorem k176_X0_rankOf (l : Launch) (D : va_G) (cI cJ cB cZ : ClassId) (ad bd : Nat → Nat) : MetI l yX0_rankOf wsX0_rankOf 0 0 0 0 D (TYS cI cJ cB cZ) (WX cI cJ cB cZ ad) [.ref (ad 8), .long 0, .int 5, .int 0] (fun (r : Int32) (_ : Unit) => r = 0) (fun _ => (WX cI cJ cB cZ ad)) := by
  refine x_startI (ty := .int) (cc := cX0_rankOf) (by decide) rfl (Nat.le_of_ble_eq_true rfl) ?_
  intro p e s m args below meth c A ls B hr hnm h hl
  have hx := B.1.1
  have hb := B.1.2.1
  have hml := B.1.2.2.1
  have hts := B.1.2.2.2.2
  have hown : s.vm.findClass RX0 = some m.cls := B.1.2.2.2.1
  have hl : lv_has ls 5 [(0, .ref (ad 8)), (1, .long 0), (3, .int 5), (4, .int 0)] := hl
  refine lv_iload_n hx hb dX0_rankOf_0 rfl (lv_at hl 2 rfl) ?_
  refine lv_iconst (v := 1) hx hb dX0_rankOf_1 (by decide) ?_
  refine lv_icmp_lt (tgt := 10) hx hb dX0_rankOf_2 (by decide) (fun c_1 => absurd c_1 (by decide)) (fun c_1 => ?_)
  refine lv_iload_n hx hb dX0_rankOf_5 rfl (lv_at hl 2 rfl) ?_
  refine lv_iconst (v := 5) hx hb dX0_rankOf_6 (by decide) ?_
  refine lv_icmp_lt (tgt := 12) hx hb dX0_rankOf_7 (by decide) (fun c_2 => absurd c_2 (by decide)) (fun c_2 => ?_)
  refine lv_iconst (v := 0) hx hb dX0_rankOf_10 (by decide) ?_
  exact x_iret (w1 := (fun _ => (WX cI cJ cB cZ ad))) () B h hr rfl rfl dX0_rankOf_11
set_option maxHeartbeats 4000000 in
set_option maxRecDepth 100000 in
theorem k177_X0_torsionsOf (l : Launch) (D : va_G) (cI cJ cB cZ : ClassId) (ad bd : Nat → Nat) : MetI l yX0_torsionsOf wsX0_torsionsOf 1 24 0 0 D (TYS cI cJ cB cZ) (WX cI cJ cB cZ ad) [.ref (ad 8), .long 0, .int 4, .int 0] (fun (r : Int32) (_ : Unit) => r = 0) (fun _ => (WX cI cJ cB cZ ad)) := by
  refine x_startI (ty := .int) (cc := cX0_torsionsOf) (by decide) rfl (Nat.le_of_ble_eq_true rfl) ?_
  intro p e s m args below meth c A ls B hr hnm h hl
  have hx := B.1.1
  have hb := B.1.2.1
  have hml := B.1.2.2.1
  have hts := B.1.2.2.2.2
  have hown : s.vm.findClass RX0 = some m.cls := B.1.2.2.2.1
  have hl : lv_has ls 8 [(0, .ref (ad 8)), (1, .long 0), (3, .int 4), (4, .int 0)] := hl
  refine lv_aload_n hx hb dX0_torsionsOf_0 rfl (lv_at hl 0 rfl) ?_
  refine lv_lload_n hx hb dX0_torsionsOf_1 rfl (lv_at hl 1 rfl) ?_
  refine lv_iload_n hx hb dX0_torsionsOf_2 rfl (lv_at hl 2 rfl) ?_
  refine lv_iconst (v := 1) hx hb dX0_torsionsOf_3 (by decide) ?_
  refine lv_iadd hx hb dX0_torsionsOf_4 ?_
  refine lv_topi (fun v_1 ev_1 => ?_)
  obtain rfl : v_1 = 5 := ev_1.trans (by decide)
  refine lv_iload hx hb dX0_torsionsOf_5 (lv_at hl 3 rfl) ?_
  refine x_cVIF (n := 3) (As := [.long 0, .int 5, .int 0]) (rest := []) B h (k176_X0_rankOf l D cI cJ cB cZ ad bd) ⟨⟨_, rfl⟩, by decide +kernel, Nat.le_of_ble_eq_true rfl, Nat.le_of_ble_eq_true rfl⟩ gX0_torsionsOf_X0_rankOf (show ((WX cI cJ cB cZ ad) : va_W)[8]? = some (_, .inr (0, _)) from rfl) rfl rfl hl.1 rfl (Nat.le_of_ble_eq_true rfl) dX0_torsionsOf_7 ⟨Nat.le_of_ble_eq_true rfl, Nat.le_of_ble_eq_true rfl⟩ (fun r_2 u_2 H locs hp_2 h => ?_)
  obtain rfl := hp_2
  have h : Hp D A s.heap (WX cI cJ cB cZ ad) H locs := h
  refine lv_istore (lv' := [(5, .int 0), (0, .ref (ad 8)), (1, .long 0), (3, .int 4), (4, .int 0)]) hx hb dX0_torsionsOf_10 hl (by decide) rfl (fun ls hl => ?_)
  refine lv_iload hx hb dX0_torsionsOf_12 (lv_at hl 0 rfl) ?_
  refine lv_if_eq (tgt := 29) hx hb dX0_torsionsOf_14 (by decide) (fun c_3 => ?_) (fun c_3 => absurd c_3 (by decide))
  refine lv_iconst (v := 0) hx hb dX0_torsionsOf_29 (by decide) ?_
  exact x_iret (w1 := (fun _ => (WX cI cJ cB cZ ad))) () B h hr rfl rfl dX0_torsionsOf_30
set_option maxHeartbeats 4000000 in
set_option maxRecDepth 100000 in
theorem k178_X0_torsionsOf (l : Launch) (D : va_G) (cI cJ cB cZ : ClassId) (ad bd : Nat → Nat) : MetI l yX0_torsionsOf wsX0_torsionsOf 3 113 0 0 D (TYS cI cJ cB cZ) (WX cI cJ cB cZ ad) [.ref (ad 8), .long 0, .int 0, .int 1] (fun (r : Int32) (_ : Unit) => r = 0) (fun _ => (WX cI cJ cB cZ ad (Matrix_minor := 1))) := by
  refine x_startI (ty := .int) (cc := cX0_torsionsOf) (by decide) rfl (Nat.le_of_ble_eq_true rfl) ?_
  intro p e s m args below meth c A ls B hr hnm h hl
  have hx := B.1.1
  have hb := B.1.2.1
  have hml := B.1.2.2.1
  have hts := B.1.2.2.2.2
  have hown : s.vm.findClass RX0 = some m.cls := B.1.2.2.2.1
  have hl : lv_has ls 8 [(0, .ref (ad 8)), (1, .long 0), (3, .int 0), (4, .int 1)] := hl
  refine lv_aload_n hx hb dX0_torsionsOf_0 rfl (lv_at hl 0 rfl) ?_
  refine lv_lload_n hx hb dX0_torsionsOf_1 rfl (lv_at hl 1 rfl) ?_
  refine lv_iload_n hx hb dX0_torsionsOf_2 rfl (lv_at hl 2 rfl) ?_
  refine lv_iconst (v := 1) hx hb dX0_torsionsOf_3 (by decide) ?_
  refine lv_iadd hx hb dX0_torsionsOf_4 ?_
  refine lv_topi (fun v_1 ev_1 => ?_)
  obtain rfl : v_1 = 1 := ev_1.trans (by decide)
  refine lv_iload hx hb dX0_torsionsOf_5 (lv_at hl 3 rfl) ?_
  refine x_cVIF (n := 3) (As := [.long 0, .int 1, .int 1]) (rest := []) B h (k111_X0_rankOf l D cI cJ cB cZ ad bd) ⟨⟨_, rfl⟩, by decide +kernel, Nat.le_of_ble_eq_true rfl, Nat.le_of_ble_eq_true rfl⟩ gX0_torsionsOf_X0_rankOf (show ((WX cI cJ cB cZ ad) : va_W)[8]? = some (_, .inr (0, _)) from rfl) rfl rfl hl.1 rfl (Nat.le_of_ble_eq_true rfl) dX0_torsionsOf_7 ⟨Nat.le_of_ble_eq_true rfl, Nat.le_of_ble_eq_true rfl⟩ (fun r_2 u_2 H locs hp_2 h => ?_)
  obtain rfl := hp_2
  have h : Hp D A s.heap (WX cI cJ cB cZ ad (Matrix_minor := 1)) H locs := h
  refine lv_istore (lv' := [(5, .int 0), (0, .ref (ad 8)), (1, .long 0), (3, .int 0), (4, .int 1)]) hx hb dX0_torsionsOf_10 hl (by decide) rfl (fun ls hl => ?_)
  refine lv_iload hx hb dX0_torsionsOf_12 (lv_at hl 0 rfl) ?_
  refine lv_if_eq (tgt := 29) hx hb dX0_torsionsOf_14 (by decide) (fun c_3 => ?_) (fun c_3 => absurd c_3 (by decide))
  refine lv_iconst (v := 0) hx hb dX0_torsionsOf_29 (by decide) ?_
  exact x_iret (w1 := (fun _ => (WX cI cJ cB cZ ad (Matrix_minor := 1)))) () B h hr rfl rfl dX0_torsionsOf_30
set_option maxHeartbeats 4000000 in
set_option maxRecDepth 100000 in
theorem k179_X0_torsionsOf (l : Launch) (D : va_G) (cI cJ cB cZ : ClassId) (ad bd : Nat → Nat) : MetI l yX0_torsionsOf wsX0_torsionsOf 3 113 0 0 D (TYS cI cJ cB cZ) (WX cI cJ cB cZ ad) [.ref (ad 8), .long 0, .int 1, .int 1] (fun (r : Int32) (_ : Unit) => r = 0) (fun _ => (WX cI cJ cB cZ ad (Matrix_minor := 1))) := by
  refine x_startI (ty := .int) (cc := cX0_torsionsOf) (by decide) rfl (Nat.le_of_ble_eq_true rfl) ?_
  intro p e s m args below meth c A ls B hr hnm h hl
  have hx := B.1.1
  have hb := B.1.2.1
  have hml := B.1.2.2.1
  have hts := B.1.2.2.2.2
  have hown : s.vm.findClass RX0 = some m.cls := B.1.2.2.2.1
  have hl : lv_has ls 8 [(0, .ref (ad 8)), (1, .long 0), (3, .int 1), (4, .int 1)] := hl
  refine lv_aload_n hx hb dX0_torsionsOf_0 rfl (lv_at hl 0 rfl) ?_
  refine lv_lload_n hx hb dX0_torsionsOf_1 rfl (lv_at hl 1 rfl) ?_
  refine lv_iload_n hx hb dX0_torsionsOf_2 rfl (lv_at hl 2 rfl) ?_
  refine lv_iconst (v := 1) hx hb dX0_torsionsOf_3 (by decide) ?_
  refine lv_iadd hx hb dX0_torsionsOf_4 ?_
  refine lv_topi (fun v_1 ev_1 => ?_)
  obtain rfl : v_1 = 2 := ev_1.trans (by decide)
  refine lv_iload hx hb dX0_torsionsOf_5 (lv_at hl 3 rfl) ?_
  refine x_cVIF (n := 3) (As := [.long 0, .int 2, .int 1]) (rest := []) B h (k116_X0_rankOf l D cI cJ cB cZ ad bd) ⟨⟨_, rfl⟩, by decide +kernel, Nat.le_of_ble_eq_true rfl, Nat.le_of_ble_eq_true rfl⟩ gX0_torsionsOf_X0_rankOf (show ((WX cI cJ cB cZ ad) : va_W)[8]? = some (_, .inr (0, _)) from rfl) rfl rfl hl.1 rfl (Nat.le_of_ble_eq_true rfl) dX0_torsionsOf_7 ⟨Nat.le_of_ble_eq_true rfl, Nat.le_of_ble_eq_true rfl⟩ (fun r_2 u_2 H locs hp_2 h => ?_)
  obtain rfl := hp_2
  have h : Hp D A s.heap (WX cI cJ cB cZ ad (Matrix_minor := 1)) H locs := h
  refine lv_istore (lv' := [(5, .int 0), (0, .ref (ad 8)), (1, .long 0), (3, .int 1), (4, .int 1)]) hx hb dX0_torsionsOf_10 hl (by decide) rfl (fun ls hl => ?_)
  refine lv_iload hx hb dX0_torsionsOf_12 (lv_at hl 0 rfl) ?_
  refine lv_if_eq (tgt := 29) hx hb dX0_torsionsOf_14 (by decide) (fun c_3 => ?_) (fun c_3 => absurd c_3 (by decide))
  refine lv_iconst (v := 0) hx hb dX0_torsionsOf_29 (by decide) ?_
  exact x_iret (w1 := (fun _ => (WX cI cJ cB cZ ad (Matrix_minor := 1)))) () B h hr rfl rfl dX0_torsionsOf_30
set_option maxHeartbeats 4000000 in
set_option maxRecDepth 100000 in
theorem k180_X0_torsionsOf (l : Launch) (D : va_G) (cI cJ cB cZ : ClassId) (ad bd : Nat → Nat) : MetI l yX0_torsionsOf wsX0_torsionsOf 3 113 0 0 D (TYS cI cJ cB cZ) (WX cI cJ cB cZ ad) [.ref (ad 8), .long 0, .int 2, .int 1] (fun (r : Int32) (_ : Unit) => r = 0) (fun _ => (WX cI cJ cB cZ ad (Matrix_minor := 1))) := by
  refine x_startI (ty := .int) (cc := cX0_torsionsOf) (by decide) rfl (Nat.le_of_ble_eq_true rfl) ?_
  intro p e s m args below meth c A ls B hr hnm h hl
  have hx := B.1.1
  have hb := B.1.2.1
  have hml := B.1.2.2.1
  have hts := B.1.2.2.2.2
  have hown : s.vm.findClass RX0 = some m.cls := B.1.2.2.2.1
  have hl : lv_has ls 8 [(0, .ref (ad 8)), (1, .long 0), (3, .int 2), (4, .int 1)] := hl
  refine lv_aload_n hx hb dX0_torsionsOf_0 rfl (lv_at hl 0 rfl) ?_
  refine lv_lload_n hx hb dX0_torsionsOf_1 rfl (lv_at hl 1 rfl) ?_
  refine lv_iload_n hx hb dX0_torsionsOf_2 rfl (lv_at hl 2 rfl) ?_
  refine lv_iconst (v := 1) hx hb dX0_torsionsOf_3 (by decide) ?_
  refine lv_iadd hx hb dX0_torsionsOf_4 ?_
  refine lv_topi (fun v_1 ev_1 => ?_)
  obtain rfl : v_1 = 3 := ev_1.trans (by decide)
  refine lv_iload hx hb dX0_torsionsOf_5 (lv_at hl 3 rfl) ?_
  refine x_cVIF (n := 3) (As := [.long 0, .int 3, .int 1]) (rest := []) B h (k119_X0_rankOf l D cI cJ cB cZ ad bd) ⟨⟨_, rfl⟩, by decide +kernel, Nat.le_of_ble_eq_true rfl, Nat.le_of_ble_eq_true rfl⟩ gX0_torsionsOf_X0_rankOf (show ((WX cI cJ cB cZ ad) : va_W)[8]? = some (_, .inr (0, _)) from rfl) rfl rfl hl.1 rfl (Nat.le_of_ble_eq_true rfl) dX0_torsionsOf_7 ⟨Nat.le_of_ble_eq_true rfl, Nat.le_of_ble_eq_true rfl⟩ (fun r_2 u_2 H locs hp_2 h => ?_)
  obtain rfl := hp_2
  have h : Hp D A s.heap (WX cI cJ cB cZ ad (Matrix_minor := 1)) H locs := h
  refine lv_istore (lv' := [(5, .int 0), (0, .ref (ad 8)), (1, .long 0), (3, .int 2), (4, .int 1)]) hx hb dX0_torsionsOf_10 hl (by decide) rfl (fun ls hl => ?_)
  refine lv_iload hx hb dX0_torsionsOf_12 (lv_at hl 0 rfl) ?_
  refine lv_if_eq (tgt := 29) hx hb dX0_torsionsOf_14 (by decide) (fun c_3 => ?_) (fun c_3 => absurd c_3 (by decide))
  refine lv_iconst (v := 0) hx hb dX0_torsionsOf_29 (by decide) ?_
  exact x_iret (w1 := (fun _ => (WX cI cJ cB cZ ad (Matrix_minor := 1)))) () B h hr rfl rfl dX0_torsionsOf_30
set_option maxHeartbeats 4000000 in
set_option maxRecDepth 100000 in
theorem k181_X0_torsionsOf (l : Launch) (D : va_G) (cI cJ cB cZ : ClassId) (ad bd : Nat → Nat) : MetI l yX0_torsionsOf wsX0_torsionsOf 3 113 0 0 D (TYS cI cJ cB cZ) (WX cI cJ cB cZ ad) [.ref (ad 8), .long 0, .int 3, .int 1] (fun (r : Int32) (_ : Unit) => r = 0) (fun _ => (WX cI cJ cB cZ ad (Matrix_minor := 1))) := by
  refine x_startI (ty := .int) (cc := cX0_torsionsOf) (by decide) rfl (Nat.le_of_ble_eq_true rfl) ?_
  intro p e s m args below meth c A ls B hr hnm h hl
  have hx := B.1.1
  have hb := B.1.2.1
  have hml := B.1.2.2.1
  have hts := B.1.2.2.2.2
  have hown : s.vm.findClass RX0 = some m.cls := B.1.2.2.2.1
  have hl : lv_has ls 8 [(0, .ref (ad 8)), (1, .long 0), (3, .int 3), (4, .int 1)] := hl
  refine lv_aload_n hx hb dX0_torsionsOf_0 rfl (lv_at hl 0 rfl) ?_
  refine lv_lload_n hx hb dX0_torsionsOf_1 rfl (lv_at hl 1 rfl) ?_
  refine lv_iload_n hx hb dX0_torsionsOf_2 rfl (lv_at hl 2 rfl) ?_
  refine lv_iconst (v := 1) hx hb dX0_torsionsOf_3 (by decide) ?_
  refine lv_iadd hx hb dX0_torsionsOf_4 ?_
  refine lv_topi (fun v_1 ev_1 => ?_)
  obtain rfl : v_1 = 4 := ev_1.trans (by decide)
  refine lv_iload hx hb dX0_torsionsOf_5 (lv_at hl 3 rfl) ?_
  refine x_cVIF (n := 3) (As := [.long 0, .int 4, .int 1]) (rest := []) B h (k122_X0_rankOf l D cI cJ cB cZ ad bd) ⟨⟨_, rfl⟩, by decide +kernel, Nat.le_of_ble_eq_true rfl, Nat.le_of_ble_eq_true rfl⟩ gX0_torsionsOf_X0_rankOf (show ((WX cI cJ cB cZ ad) : va_W)[8]? = some (_, .inr (0, _)) from rfl) rfl rfl hl.1 rfl (Nat.le_of_ble_eq_true rfl) dX0_torsionsOf_7 ⟨Nat.le_of_ble_eq_true rfl, Nat.le_of_ble_eq_true rfl⟩ (fun r_2 u_2 H locs hp_2 h => ?_)
  obtain rfl := hp_2
  have h : Hp D A s.heap (WX cI cJ cB cZ ad (Matrix_minor := 1)) H locs := h
  refine lv_istore (lv' := [(5, .int 0), (0, .ref (ad 8)), (1, .long 0), (3, .int 3), (4, .int 1)]) hx hb dX0_torsionsOf_10 hl (by decide) rfl (fun ls hl => ?_)
  refine lv_iload hx hb dX0_torsionsOf_12 (lv_at hl 0 rfl) ?_
  refine lv_if_eq (tgt := 29) hx hb dX0_torsionsOf_14 (by decide) (fun c_3 => ?_) (fun c_3 => absurd c_3 (by decide))
  refine lv_iconst (v := 0) hx hb dX0_torsionsOf_29 (by decide) ?_
  exact x_iret (w1 := (fun _ => (WX cI cJ cB cZ ad (Matrix_minor := 1)))) () B h hr rfl rfl dX0_torsionsOf_30
set_option maxHeartbeats 4000000 in
set_option maxRecDepth 100000 in
theorem k182_X0_rankOf (l : Launch) (D : va_G) (cI cJ cB cZ : ClassId) (ad bd : Nat → Nat) : MetI l yX0_rankOf wsX0_rankOf 0 0 0 0 D (TYS cI cJ cB cZ) (WX cI cJ cB cZ ad) [.ref (ad 8), .long 0, .int 5, .int 1] (fun (r : Int32) (_ : Unit) => r = 0) (fun _ => (WX cI cJ cB cZ ad)) := by
  refine x_startI (ty := .int) (cc := cX0_rankOf) (by decide) rfl (Nat.le_of_ble_eq_true rfl) ?_
  intro p e s m args below meth c A ls B hr hnm h hl
  have hx := B.1.1
  have hb := B.1.2.1
  have hml := B.1.2.2.1
  have hts := B.1.2.2.2.2
  have hown : s.vm.findClass RX0 = some m.cls := B.1.2.2.2.1
  have hl : lv_has ls 5 [(0, .ref (ad 8)), (1, .long 0), (3, .int 5), (4, .int 1)] := hl
  refine lv_iload_n hx hb dX0_rankOf_0 rfl (lv_at hl 2 rfl) ?_
  refine lv_iconst (v := 1) hx hb dX0_rankOf_1 (by decide) ?_
  refine lv_icmp_lt (tgt := 10) hx hb dX0_rankOf_2 (by decide) (fun c_1 => absurd c_1 (by decide)) (fun c_1 => ?_)
  refine lv_iload_n hx hb dX0_rankOf_5 rfl (lv_at hl 2 rfl) ?_
  refine lv_iconst (v := 5) hx hb dX0_rankOf_6 (by decide) ?_
  refine lv_icmp_lt (tgt := 12) hx hb dX0_rankOf_7 (by decide) (fun c_2 => absurd c_2 (by decide)) (fun c_2 => ?_)
  refine lv_iconst (v := 0) hx hb dX0_rankOf_10 (by decide) ?_
  exact x_iret (w1 := (fun _ => (WX cI cJ cB cZ ad))) () B h hr rfl rfl dX0_rankOf_11
set_option maxHeartbeats 4000000 in
set_option maxRecDepth 100000 in
theorem k183_X0_torsionsOf (l : Launch) (D : va_G) (cI cJ cB cZ : ClassId) (ad bd : Nat → Nat) : MetI l yX0_torsionsOf wsX0_torsionsOf 1 24 0 0 D (TYS cI cJ cB cZ) (WX cI cJ cB cZ ad) [.ref (ad 8), .long 0, .int 4, .int 1] (fun (r : Int32) (_ : Unit) => r = 0) (fun _ => (WX cI cJ cB cZ ad)) := by
  refine x_startI (ty := .int) (cc := cX0_torsionsOf) (by decide) rfl (Nat.le_of_ble_eq_true rfl) ?_
  intro p e s m args below meth c A ls B hr hnm h hl
  have hx := B.1.1
  have hb := B.1.2.1
  have hml := B.1.2.2.1
  have hts := B.1.2.2.2.2
  have hown : s.vm.findClass RX0 = some m.cls := B.1.2.2.2.1
  have hl : lv_has ls 8 [(0, .ref (ad 8)), (1, .long 0), (3, .int 4), (4, .int 1)] := hl
  refine lv_aload_n hx hb dX0_torsionsOf_0 rfl (lv_at hl 0 rfl) ?_
  refine lv_lload_n hx hb dX0_torsionsOf_1 rfl (lv_at hl 1 rfl) ?_
  refine lv_iload_n hx hb dX0_torsionsOf_2 rfl (lv_at hl 2 rfl) ?_
  refine lv_iconst (v := 1) hx hb dX0_torsionsOf_3 (by decide) ?_
  refine lv_iadd hx hb dX0_torsionsOf_4 ?_
  refine lv_topi (fun v_1 ev_1 => ?_)
  obtain rfl : v_1 = 5 := ev_1.trans (by decide)
  refine lv_iload hx hb dX0_torsionsOf_5 (lv_at hl 3 rfl) ?_
  refine x_cVIF (n := 3) (As := [.long 0, .int 5, .int 1]) (rest := []) B h (k182_X0_rankOf l D cI cJ cB cZ ad bd) ⟨⟨_, rfl⟩, by decide +kernel, Nat.le_of_ble_eq_true rfl, Nat.le_of_ble_eq_true rfl⟩ gX0_torsionsOf_X0_rankOf (show ((WX cI cJ cB cZ ad) : va_W)[8]? = some (_, .inr (0, _)) from rfl) rfl rfl hl.1 rfl (Nat.le_of_ble_eq_true rfl) dX0_torsionsOf_7 ⟨Nat.le_of_ble_eq_true rfl, Nat.le_of_ble_eq_true rfl⟩ (fun r_2 u_2 H locs hp_2 h => ?_)
  obtain rfl := hp_2
  have h : Hp D A s.heap (WX cI cJ cB cZ ad) H locs := h
  refine lv_istore (lv' := [(5, .int 0), (0, .ref (ad 8)), (1, .long 0), (3, .int 4), (4, .int 1)]) hx hb dX0_torsionsOf_10 hl (by decide) rfl (fun ls hl => ?_)
  refine lv_iload hx hb dX0_torsionsOf_12 (lv_at hl 0 rfl) ?_
  refine lv_if_eq (tgt := 29) hx hb dX0_torsionsOf_14 (by decide) (fun c_3 => ?_) (fun c_3 => absurd c_3 (by decide))
  refine lv_iconst (v := 0) hx hb dX0_torsionsOf_29 (by decide) ?_
  exact x_iret (w1 := (fun _ => (WX cI cJ cB cZ ad))) () B h hr rfl rfl dX0_torsionsOf_30
set_option maxHeartbeats 4000000 in
set_option maxRecDepth 100000 in
theorem k184_X11_torsion (l : Launch) (D : va_G) (cI cJ cB cZ : ClassId) (ad bd : Nat → Nat) (p1 : Int32) (p2 : Int32) (p3 : Int32) : MetL l yX11_torsion wsX11_torsion 4 140 0 0 D (TYS cI cJ cB cZ) (WX cI cJ cB cZ ad) [.ref (ad 0), .int p1, .int p2, .int p3] (fun (r : Int64) (u : Nat) => (u = 0 ∧ (p1 < 0) ∧ r = (-1)) ∨ (u = 1 ∧ (¬ p1 < 0) ∧ (5 ≤ p1) ∧ r = (-1)) ∨ (u = 2 ∧ (¬ p1 < 0) ∧ (¬ 5 ≤ p1) ∧ (p3 < 0) ∧ r = (-1)) ∨ (u = 3 ∧ (¬ p1 < 0) ∧ (¬ 5 ≤ p1) ∧ (¬ p3 < 0) ∧ (1 < p3) ∧ r = (-1)) ∨ (u = 4 ∧ ((-1) ≤ p2) ∧ p3 = 0 ∧ p1 = 0 ∧ (¬ p2 = (-1)) ∧ (0 ≤ p2) ∧ r = (-2)) ∨ (u = 5 ∧ ((-1) ≤ p2) ∧ p3 = 0 ∧ p1 = 0 ∧ (p2 = (-1)) ∧ r = 0) ∨ (u = 6 ∧ ((-1) ≤ p2) ∧ p3 = 0 ∧ p1 = 1 ∧ (¬ p2 = (-1)) ∧ (0 ≤ p2) ∧ r = (-2)) ∨ (u = 7 ∧ ((-1) ≤ p2) ∧ p3 = 0 ∧ p1 = 1 ∧ (p2 = (-1)) ∧ r = 0) ∨ (u = 8 ∧ ((-1) ≤ p2) ∧ p3 = 0 ∧ p1 = 2 ∧ (¬ p2 = (-1)) ∧ (0 ≤ p2) ∧ r = (-2)) ∨ (u = 9 ∧ ((-1) ≤ p2) ∧ p3 = 0 ∧ p1 = 2 ∧ (p2 = (-1)) ∧ r = 0) ∨ (u = 10 ∧ ((-1) ≤ p2) ∧ p3 = 0 ∧ p1 = 3 ∧ (¬ p2 = (-1)) ∧ (0 ≤ p2) ∧ r = (-2)) ∨ (u = 11 ∧ ((-1) ≤ p2) ∧ p3 = 0 ∧ p1 = 3 ∧ (p2 = (-1)) ∧ r = 0) ∨ (u = 12 ∧ ((-1) ≤ p2) ∧ p3 = 0 ∧ p1 = 4 ∧ (¬ p2 = (-1)) ∧ (0 ≤ p2) ∧ r = (-2)) ∨ (u = 13 ∧ ((-1) ≤ p2) ∧ p3 = 0 ∧ p1 = 4 ∧ (p2 = (-1)) ∧ r = 0) ∨ (u = 14 ∧ ((-1) ≤ p2) ∧ p3 = 1 ∧ p1 = 0 ∧ (¬ p2 = (-1)) ∧ (0 ≤ p2) ∧ r = (-2)) ∨ (u = 15 ∧ ((-1) ≤ p2) ∧ p3 = 1 ∧ p1 = 0 ∧ (p2 = (-1)) ∧ r = 0) ∨ (u = 16 ∧ ((-1) ≤ p2) ∧ p3 = 1 ∧ p1 = 1 ∧ (¬ p2 = (-1)) ∧ (0 ≤ p2) ∧ r = (-2)) ∨ (u = 17 ∧ ((-1) ≤ p2) ∧ p3 = 1 ∧ p1 = 1 ∧ (p2 = (-1)) ∧ r = 0) ∨ (u = 18 ∧ ((-1) ≤ p2) ∧ p3 = 1 ∧ p1 = 2 ∧ (¬ p2 = (-1)) ∧ (0 ≤ p2) ∧ r = (-2)) ∨ (u = 19 ∧ ((-1) ≤ p2) ∧ p3 = 1 ∧ p1 = 2 ∧ (p2 = (-1)) ∧ r = 0) ∨ (u = 20 ∧ ((-1) ≤ p2) ∧ p3 = 1 ∧ p1 = 3 ∧ (¬ p2 = (-1)) ∧ (0 ≤ p2) ∧ r = (-2)) ∨ (u = 21 ∧ ((-1) ≤ p2) ∧ p3 = 1 ∧ p1 = 3 ∧ (p2 = (-1)) ∧ r = 0) ∨ (u = 22 ∧ ((-1) ≤ p2) ∧ p3 = 1 ∧ p1 = 4 ∧ (¬ p2 = (-1)) ∧ (0 ≤ p2) ∧ r = (-2)) ∨ (u = 23 ∧ ((-1) ≤ p2) ∧ p3 = 1 ∧ p1 = 4 ∧ (p2 = (-1)) ∧ r = 0) ∨ (u = 24 ∧ (¬ p1 < 0) ∧ (¬ 5 ≤ p1) ∧ (¬ p3 < 0) ∧ (¬ 1 < p3) ∧ (¬ (-1) ≤ p2) ∧ r = (-1))) (fun u : Nat => match u with | 0 => (WX cI cJ cB cZ ad) | 1 => (WX cI cJ cB cZ ad) | 2 => (WX cI cJ cB cZ ad) | 3 => (WX cI cJ cB cZ ad) | 4 => (WX cI cJ cB cZ ad (Matrix_minor := 1)) | 5 => (WX cI cJ cB cZ ad (Matrix_minor := 1)) | 6 => (WX cI cJ cB cZ ad (Matrix_minor := 1)) | 7 => (WX cI cJ cB cZ ad (Matrix_minor := 1)) | 8 => (WX cI cJ cB cZ ad (Matrix_minor := 1)) | 9 => (WX cI cJ cB cZ ad (Matrix_minor := 1)) | 10 => (WX cI cJ cB cZ ad (Matrix_minor := 1)) | 11 => (WX cI cJ cB cZ ad (Matrix_minor := 1)) | 12 => (WX cI cJ cB cZ ad) | 13 => (WX cI cJ cB cZ ad) | 14 => (WX cI cJ cB cZ ad (Matrix_minor := 1)) | 15 => (WX cI cJ cB cZ ad (Matrix_minor := 1)) | 16 => (WX cI cJ cB cZ ad (Matrix_minor := 1)) | 17 => (WX cI cJ cB cZ ad (Matrix_minor := 1)) | 18 => (WX cI cJ cB cZ ad (Matrix_minor := 1)) | 19 => (WX cI cJ cB cZ ad (Matrix_minor := 1)) | 20 => (WX cI cJ cB cZ ad (Matrix_minor := 1)) | 21 => (WX cI cJ cB cZ ad (Matrix_minor := 1)) | 22 => (WX cI cJ cB cZ ad) | 23 => (WX cI cJ cB cZ ad) | _ => (WX cI cJ cB cZ ad)) := by
  refine x_startL (ty := .long) (cc := cX11_torsion) (by decide) rfl (Nat.le_of_ble_eq_true rfl) ?_
  intro p e s m args below meth c A ls B hr hnm h hl
  have hx := B.1.1
  have hb := B.1.2.1
  have hml := B.1.2.2.1
  have hts := B.1.2.2.2.2
  have hown : s.vm.findClass RX11 = some m.cls := B.1.2.2.2.1
  have hin11 : ∀ w ∈ u_ws RX11 TX11 11, w ∈ wsX11_torsion := by decide +kernel
  have hl : lv_has ls 5 [(0, .ref (ad 0)), (1, .int p1), (2, .int p2), (3, .int p3)] := hl
  refine lv_iload_n hx hb dX11_torsion_0 rfl (lv_at hl 1 rfl) ?_
  refine x_cSIE (n := 1) (As := [.int p1]) (rest := []) B h (k63_X11_isDim l D cI cJ cB cZ ad bd p1) ⟨⟨_, rfl⟩, by decide +kernel, Nat.le_of_ble_eq_true rfl, Nat.le_of_ble_eq_true rfl⟩ gX11_torsion_X11_isDim rfl hl.1 rfl (Nat.le_of_ble_eq_true rfl) dX11_torsion_1 ⟨Nat.le_of_ble_eq_true rfl, Nat.le_of_ble_eq_true rfl⟩ (fun r_1 u_1 H locs hp_1 h => ?_)
  rcases hp_1 with ⟨rfl, k_1_0, rfl⟩ | ⟨rfl, k_1_0, k_1_1, rfl⟩ | ⟨rfl, k_1_0, k_1_1, rfl⟩
  · skip
    have h : Hp D A s.heap (WX cI cJ cB cZ ad) H locs := h
    refine lv_if_eq (tgt := 21) hx hb dX11_torsion_4 (by decide) (fun c_2 => ?_) (fun c_2 => absurd c_2 (by decide))
    refine lv_ldc2 (v := (-1)) hx hb hown (hts (.constantLong RX11 242 (-1)) (by decide +kernel)) dX11_torsion_21 ?_
    exact x_lret (w1 := (fun u : Nat => match u with | 0 => (WX cI cJ cB cZ ad) | 1 => (WX cI cJ cB cZ ad) | 2 => (WX cI cJ cB cZ ad) | 3 => (WX cI cJ cB cZ ad) | 4 => (WX cI cJ cB cZ ad (Matrix_minor := 1)) | 5 => (WX cI cJ cB cZ ad (Matrix_minor := 1)) | 6 => (WX cI cJ cB cZ ad (Matrix_minor := 1)) | 7 => (WX cI cJ cB cZ ad (Matrix_minor := 1)) | 8 => (WX cI cJ cB cZ ad (Matrix_minor := 1)) | 9 => (WX cI cJ cB cZ ad (Matrix_minor := 1)) | 10 => (WX cI cJ cB cZ ad (Matrix_minor := 1)) | 11 => (WX cI cJ cB cZ ad (Matrix_minor := 1)) | 12 => (WX cI cJ cB cZ ad) | 13 => (WX cI cJ cB cZ ad) | 14 => (WX cI cJ cB cZ ad (Matrix_minor := 1)) | 15 => (WX cI cJ cB cZ ad (Matrix_minor := 1)) | 16 => (WX cI cJ cB cZ ad (Matrix_minor := 1)) | 17 => (WX cI cJ cB cZ ad (Matrix_minor := 1)) | 18 => (WX cI cJ cB cZ ad (Matrix_minor := 1)) | 19 => (WX cI cJ cB cZ ad (Matrix_minor := 1)) | 20 => (WX cI cJ cB cZ ad (Matrix_minor := 1)) | 21 => (WX cI cJ cB cZ ad (Matrix_minor := 1)) | 22 => (WX cI cJ cB cZ ad) | 23 => (WX cI cJ cB cZ ad) | _ => (WX cI cJ cB cZ ad))) 0 B h hr (Or.inl ⟨rfl, k_1_0, rfl⟩) dX11_torsion_24
  · skip
    have h : Hp D A s.heap (WX cI cJ cB cZ ad) H locs := h
    refine lv_if_eq (tgt := 21) hx hb dX11_torsion_4 (by decide) (fun c_3 => ?_) (fun c_3 => absurd c_3 (by decide))
    refine lv_ldc2 (v := (-1)) hx hb hown (hts (.constantLong RX11 242 (-1)) (by decide +kernel)) dX11_torsion_21 ?_
    exact x_lret (w1 := (fun u : Nat => match u with | 0 => (WX cI cJ cB cZ ad) | 1 => (WX cI cJ cB cZ ad) | 2 => (WX cI cJ cB cZ ad) | 3 => (WX cI cJ cB cZ ad) | 4 => (WX cI cJ cB cZ ad (Matrix_minor := 1)) | 5 => (WX cI cJ cB cZ ad (Matrix_minor := 1)) | 6 => (WX cI cJ cB cZ ad (Matrix_minor := 1)) | 7 => (WX cI cJ cB cZ ad (Matrix_minor := 1)) | 8 => (WX cI cJ cB cZ ad (Matrix_minor := 1)) | 9 => (WX cI cJ cB cZ ad (Matrix_minor := 1)) | 10 => (WX cI cJ cB cZ ad (Matrix_minor := 1)) | 11 => (WX cI cJ cB cZ ad (Matrix_minor := 1)) | 12 => (WX cI cJ cB cZ ad) | 13 => (WX cI cJ cB cZ ad) | 14 => (WX cI cJ cB cZ ad (Matrix_minor := 1)) | 15 => (WX cI cJ cB cZ ad (Matrix_minor := 1)) | 16 => (WX cI cJ cB cZ ad (Matrix_minor := 1)) | 17 => (WX cI cJ cB cZ ad (Matrix_minor := 1)) | 18 => (WX cI cJ cB cZ ad (Matrix_minor := 1)) | 19 => (WX cI cJ cB cZ ad (Matrix_minor := 1)) | 20 => (WX cI cJ cB cZ ad (Matrix_minor := 1)) | 21 => (WX cI cJ cB cZ ad (Matrix_minor := 1)) | 22 => (WX cI cJ cB cZ ad) | 23 => (WX cI cJ cB cZ ad) | _ => (WX cI cJ cB cZ ad))) 1 B h hr (Or.inr (Or.inl ⟨rfl, k_1_0, k_1_1, rfl⟩)) dX11_torsion_24
  · skip
    have h : Hp D A s.heap (WX cI cJ cB cZ ad) H locs := h
    refine lv_if_eq (tgt := 21) hx hb dX11_torsion_4 (by decide) (fun c_4 => absurd c_4 (by decide)) (fun c_4 => ?_)
    refine lv_iload_n hx hb dX11_torsion_7 rfl (lv_at hl 3 rfl) ?_
    refine lv_if_lt (tgt := 21) hx hb dX11_torsion_8 (by decide) (fun c_5 => ?_) (fun c_5 => ?_)
    · skip
      refine lv_ldc2 (v := (-1)) hx hb hown (hts (.constantLong RX11 242 (-1)) (by decide +kernel)) dX11_torsion_21 ?_
      exact x_lret (w1 := (fun u : Nat => match u with | 0 => (WX cI cJ cB cZ ad) | 1 => (WX cI cJ cB cZ ad) | 2 => (WX cI cJ cB cZ ad) | 3 => (WX cI cJ cB cZ ad) | 4 => (WX cI cJ cB cZ ad (Matrix_minor := 1)) | 5 => (WX cI cJ cB cZ ad (Matrix_minor := 1)) | 6 => (WX cI cJ cB cZ ad (Matrix_minor := 1)) | 7 => (WX cI cJ cB cZ ad (Matrix_minor := 1)) | 8 => (WX cI cJ cB cZ ad (Matrix_minor := 1)) | 9 => (WX cI cJ cB cZ ad (Matrix_minor := 1)) | 10 => (WX cI cJ cB cZ ad (Matrix_minor := 1)) | 11 => (WX cI cJ cB cZ ad (Matrix_minor := 1)) | 12 => (WX cI cJ cB cZ ad) | 13 => (WX cI cJ cB cZ ad) | 14 => (WX cI cJ cB cZ ad (Matrix_minor := 1)) | 15 => (WX cI cJ cB cZ ad (Matrix_minor := 1)) | 16 => (WX cI cJ cB cZ ad (Matrix_minor := 1)) | 17 => (WX cI cJ cB cZ ad (Matrix_minor := 1)) | 18 => (WX cI cJ cB cZ ad (Matrix_minor := 1)) | 19 => (WX cI cJ cB cZ ad (Matrix_minor := 1)) | 20 => (WX cI cJ cB cZ ad (Matrix_minor := 1)) | 21 => (WX cI cJ cB cZ ad (Matrix_minor := 1)) | 22 => (WX cI cJ cB cZ ad) | 23 => (WX cI cJ cB cZ ad) | _ => (WX cI cJ cB cZ ad))) 2 B h hr (Or.inr (Or.inr (Or.inl ⟨rfl, k_1_0, k_1_1, c_5, rfl⟩))) dX11_torsion_24
    · skip
      refine lv_iload_n hx hb dX11_torsion_11 rfl (lv_at hl 3 rfl) ?_
      refine lv_iconst (v := 1) hx hb dX11_torsion_12 (by decide) ?_
      refine lv_icmp_gt (tgt := 21) hx hb dX11_torsion_13 (by decide) (fun c_6 => ?_) (fun c_6 => ?_)
      · skip
        refine lv_ldc2 (v := (-1)) hx hb hown (hts (.constantLong RX11 242 (-1)) (by decide +kernel)) dX11_torsion_21 ?_
        exact x_lret (w1 := (fun u : Nat => match u with | 0 => (WX cI cJ cB cZ ad) | 1 => (WX cI cJ cB cZ ad) | 2 => (WX cI cJ cB cZ ad) | 3 => (WX cI cJ cB cZ ad) | 4 => (WX cI cJ cB cZ ad (Matrix_minor := 1)) | 5 => (WX cI cJ cB cZ ad (Matrix_minor := 1)) | 6 => (WX cI cJ cB cZ ad (Matrix_minor := 1)) | 7 => (WX cI cJ cB cZ ad (Matrix_minor := 1)) | 8 => (WX cI cJ cB cZ ad (Matrix_minor := 1)) | 9 => (WX cI cJ cB cZ ad (Matrix_minor := 1)) | 10 => (WX cI cJ cB cZ ad (Matrix_minor := 1)) | 11 => (WX cI cJ cB cZ ad (Matrix_minor := 1)) | 12 => (WX cI cJ cB cZ ad) | 13 => (WX cI cJ cB cZ ad) | 14 => (WX cI cJ cB cZ ad (Matrix_minor := 1)) | 15 => (WX cI cJ cB cZ ad (Matrix_minor := 1)) | 16 => (WX cI cJ cB cZ ad (Matrix_minor := 1)) | 17 => (WX cI cJ cB cZ ad (Matrix_minor := 1)) | 18 => (WX cI cJ cB cZ ad (Matrix_minor := 1)) | 19 => (WX cI cJ cB cZ ad (Matrix_minor := 1)) | 20 => (WX cI cJ cB cZ ad (Matrix_minor := 1)) | 21 => (WX cI cJ cB cZ ad (Matrix_minor := 1)) | 22 => (WX cI cJ cB cZ ad) | 23 => (WX cI cJ cB cZ ad) | _ => (WX cI cJ cB cZ ad))) 3 B h hr (Or.inr (Or.inr (Or.inr (Or.inl ⟨rfl, k_1_0, k_1_1, c_5, c_6, rfl⟩)))) dX11_torsion_24
      · skip
        refine lv_iload_n hx hb dX11_torsion_16 rfl (lv_at hl 2 rfl) ?_
        refine lv_iconst (v := (-1)) hx hb dX11_torsion_17 (by decide) ?_
        refine lv_icmp_ge (tgt := 25) hx hb dX11_torsion_18 (by decide) (fun c_7 => ?_) (fun c_7 => ?_)
        · skip
          refine lv_aload_n hx hb dX11_torsion_25 rfl (lv_at hl 0 rfl) ?_
          refine x_get (ci := 11) (C := RX11) (T := TX11) (N := 11) (v := .ref (ad 8)) B h hin11 0 7 rfl rfl (by decide) (by decide +kernel) rfl dX11_torsion_26 ?_
          refine lv_aload_n hx hb dX11_torsion_29 rfl (lv_at hl 0 rfl) ?_
          refine lv_iload_n hx hb dX11_torsion_30 rfl (lv_at hl 3 rfl) ?_
          have k_8 : p3 = 0 ∨ p3 = 1 := by simp only [Int32.lt_iff_toInt_lt, Int32.le_iff_toInt_le, ← Int32.toInt_inj, show ((-1 : Int32)).toInt = -1 from by decide, show ((0 : Int32)).toInt = 0 from by decide, show ((1 : Int32)).toInt = 1 from by decide, show ((5 : Int32)).toInt = 5 from by decide] at k_1_0 k_1_1 c_5 c_6 c_7 ⊢; omega
          rcases k_8 with e_8 | e_8
          · skip
            obtain rfl : p3 = 0 := e_8.trans (by decide)
            refine x_cVLF (n := 1) (As := [.int 0]) (rest := [.ref (ad 8)]) B h (k87_X11_basis l D cI cJ cB cZ ad bd) ⟨⟨_, rfl⟩, by decide +kernel, Nat.le_of_ble_eq_true rfl, Nat.le_of_ble_eq_true rfl⟩ gX11_torsion_X11_basis (show ((WX cI cJ cB cZ ad) : va_W)[0]? = some (_, .inr (11, _)) from rfl) rfl rfl hl.1 rfl (Nat.le_of_ble_eq_true rfl) dX11_torsion_31 ⟨Nat.le_of_ble_eq_true rfl, Nat.le_of_ble_eq_true rfl⟩ (fun r_9 u_9 H locs hp_9 h => ?_)
            obtain rfl := hp_9
            have h : Hp D A s.heap (WX cI cJ cB cZ ad) H locs := h
            refine lv_iload_n hx hb dX11_torsion_34 rfl (lv_at hl 1 rfl) ?_
            refine lv_iload_n hx hb dX11_torsion_35 rfl (lv_at hl 3 rfl) ?_
            refine lv_iconst (v := 1) hx hb dX11_torsion_36 (by decide) ?_
            refine lv_icmp_ne (tgt := 44) hx hb dX11_torsion_37 (by decide) (fun c_10 => ?_) (fun c_10 => absurd c_10 (by decide))
            refine lv_iconst (v := 0) hx hb dX11_torsion_44 (by decide) ?_
            have k_11 : p1 = 0 ∨ p1 = 1 ∨ p1 = 2 ∨ p1 = 3 ∨ p1 = 4 := by simp only [Int32.lt_iff_toInt_lt, Int32.le_iff_toInt_le, ← Int32.toInt_inj, show ((-1 : Int32)).toInt = -1 from by decide, show ((0 : Int32)).toInt = 0 from by decide, show ((1 : Int32)).toInt = 1 from by decide, show ((2 : Int32)).toInt = 2 from by decide, show ((3 : Int32)).toInt = 3 from by decide, show ((4 : Int32)).toInt = 4 from by decide, show ((5 : Int32)).toInt = 5 from by decide] at k_1_0 k_1_1 c_7 ⊢; omega
            rcases k_11 with e_11 | e_11 | e_11 | e_11 | e_11
            · skip
              obtain rfl : p1 = 0 := e_11.trans (by decide)
              refine x_cVIF (n := 3) (As := [.long 0, .int 0, .int 0]) (rest := []) B h (k172_X0_torsionsOf l D cI cJ cB cZ ad bd) ⟨⟨_, rfl⟩, by decide +kernel, Nat.le_of_ble_eq_true rfl, Nat.le_of_ble_eq_true rfl⟩ gX11_torsion_X0_torsionsOf (show ((WX cI cJ cB cZ ad) : va_W)[8]? = some (_, .inr (0, _)) from rfl) rfl rfl hl.1 rfl (Nat.le_of_ble_eq_true rfl) dX11_torsion_45 ⟨Nat.le_of_ble_eq_true rfl, Nat.le_of_ble_eq_true rfl⟩ (fun r_12 u_12 H locs hp_12 h => ?_)
              obtain rfl := hp_12
              have h : Hp D A s.heap (WX cI cJ cB cZ ad (Matrix_minor := 1)) H locs := h
              refine lv_istore (lv' := [(4, .int 0), (0, .ref (ad 0)), (1, .int 0), (2, .int p2), (3, .int 0)]) hx hb dX11_torsion_48 hl (by decide) rfl (fun ls hl => ?_)
              refine lv_iload_n hx hb dX11_torsion_50 rfl (lv_at hl 3 rfl) ?_
              refine lv_iconst (v := (-1)) hx hb dX11_torsion_51 (by decide) ?_
              refine lv_icmp_ne (tgt := 59) hx hb dX11_torsion_52 (by decide) (fun c_13 => ?_) (fun c_13 => ?_)
              · skip
                refine lv_iload_n hx hb dX11_torsion_59 rfl (lv_at hl 3 rfl) ?_
                refine lv_iload hx hb dX11_torsion_60 (lv_at hl 0 rfl) ?_
                refine lv_icmp_ge (tgt := 77) hx hb dX11_torsion_62 (by decide) (fun c_14 => ?_) (fun c_14 => absurd c_14 (by simp only [Int32.lt_iff_toInt_lt, Int32.le_iff_toInt_le, ← Int32.toInt_inj, show ((-1 : Int32)).toInt = -1 from by decide, show ((0 : Int32)).toInt = 0 from by decide] at c_7 c_13 ⊢; omega))
                refine lv_ldc2 (v := (-2)) hx hb hown (hts (.constantLong RX11 279 (-2)) (by decide +kernel)) dX11_torsion_77 ?_
                exact x_lret (w1 := (fun u : Nat => match u with | 0 => (WX cI cJ cB cZ ad) | 1 => (WX cI cJ cB cZ ad) | 2 => (WX cI cJ cB cZ ad) | 3 => (WX cI cJ cB cZ ad) | 4 => (WX cI cJ cB cZ ad (Matrix_minor := 1)) | 5 => (WX cI cJ cB cZ ad (Matrix_minor := 1)) | 6 => (WX cI cJ cB cZ ad (Matrix_minor := 1)) | 7 => (WX cI cJ cB cZ ad (Matrix_minor := 1)) | 8 => (WX cI cJ cB cZ ad (Matrix_minor := 1)) | 9 => (WX cI cJ cB cZ ad (Matrix_minor := 1)) | 10 => (WX cI cJ cB cZ ad (Matrix_minor := 1)) | 11 => (WX cI cJ cB cZ ad (Matrix_minor := 1)) | 12 => (WX cI cJ cB cZ ad) | 13 => (WX cI cJ cB cZ ad) | 14 => (WX cI cJ cB cZ ad (Matrix_minor := 1)) | 15 => (WX cI cJ cB cZ ad (Matrix_minor := 1)) | 16 => (WX cI cJ cB cZ ad (Matrix_minor := 1)) | 17 => (WX cI cJ cB cZ ad (Matrix_minor := 1)) | 18 => (WX cI cJ cB cZ ad (Matrix_minor := 1)) | 19 => (WX cI cJ cB cZ ad (Matrix_minor := 1)) | 20 => (WX cI cJ cB cZ ad (Matrix_minor := 1)) | 21 => (WX cI cJ cB cZ ad (Matrix_minor := 1)) | 22 => (WX cI cJ cB cZ ad) | 23 => (WX cI cJ cB cZ ad) | _ => (WX cI cJ cB cZ ad))) 4 B h hr (Or.inr (Or.inr (Or.inr (Or.inr (Or.inl ⟨rfl, c_7, rfl, rfl, c_13, c_14, rfl⟩))))) dX11_torsion_80
              · skip
                refine lv_iload hx hb dX11_torsion_55 (lv_at hl 0 rfl) ?_
                refine lv_i2l (v := 0) hx hb dX11_torsion_57 (by decide) ?_
                exact x_lret (w1 := (fun u : Nat => match u with | 0 => (WX cI cJ cB cZ ad) | 1 => (WX cI cJ cB cZ ad) | 2 => (WX cI cJ cB cZ ad) | 3 => (WX cI cJ cB cZ ad) | 4 => (WX cI cJ cB cZ ad (Matrix_minor := 1)) | 5 => (WX cI cJ cB cZ ad (Matrix_minor := 1)) | 6 => (WX cI cJ cB cZ ad (Matrix_minor := 1)) | 7 => (WX cI cJ cB cZ ad (Matrix_minor := 1)) | 8 => (WX cI cJ cB cZ ad (Matrix_minor := 1)) | 9 => (WX cI cJ cB cZ ad (Matrix_minor := 1)) | 10 => (WX cI cJ cB cZ ad (Matrix_minor := 1)) | 11 => (WX cI cJ cB cZ ad (Matrix_minor := 1)) | 12 => (WX cI cJ cB cZ ad) | 13 => (WX cI cJ cB cZ ad) | 14 => (WX cI cJ cB cZ ad (Matrix_minor := 1)) | 15 => (WX cI cJ cB cZ ad (Matrix_minor := 1)) | 16 => (WX cI cJ cB cZ ad (Matrix_minor := 1)) | 17 => (WX cI cJ cB cZ ad (Matrix_minor := 1)) | 18 => (WX cI cJ cB cZ ad (Matrix_minor := 1)) | 19 => (WX cI cJ cB cZ ad (Matrix_minor := 1)) | 20 => (WX cI cJ cB cZ ad (Matrix_minor := 1)) | 21 => (WX cI cJ cB cZ ad (Matrix_minor := 1)) | 22 => (WX cI cJ cB cZ ad) | 23 => (WX cI cJ cB cZ ad) | _ => (WX cI cJ cB cZ ad))) 5 B h hr (Or.inr (Or.inr (Or.inr (Or.inr (Or.inr (Or.inl ⟨rfl, c_7, rfl, rfl, c_13, rfl⟩)))))) dX11_torsion_58
            · skip
              obtain rfl : p1 = 1 := e_11.trans (by decide)
              refine x_cVIF (n := 3) (As := [.long 0, .int 1, .int 0]) (rest := []) B h (k173_X0_torsionsOf l D cI cJ cB cZ ad bd) ⟨⟨_, rfl⟩, by decide +kernel, Nat.le_of_ble_eq_true rfl, Nat.le_of_ble_eq_true rfl⟩ gX11_torsion_X0_torsionsOf (show ((WX cI cJ cB cZ ad) : va_W)[8]? = some (_, .inr (0, _)) from rfl) rfl rfl hl.1 rfl (Nat.le_of_ble_eq_true rfl) dX11_torsion_45 ⟨Nat.le_of_ble_eq_true rfl, Nat.le_of_ble_eq_true rfl⟩ (fun r_15 u_15 H locs hp_15 h => ?_)
              obtain rfl := hp_15
              have h : Hp D A s.heap (WX cI cJ cB cZ ad (Matrix_minor := 1)) H locs := h
              refine lv_istore (lv' := [(4, .int 0), (0, .ref (ad 0)), (1, .int 1), (2, .int p2), (3, .int 0)]) hx hb dX11_torsion_48 hl (by decide) rfl (fun ls hl => ?_)
              refine lv_iload_n hx hb dX11_torsion_50 rfl (lv_at hl 3 rfl) ?_
              refine lv_iconst (v := (-1)) hx hb dX11_torsion_51 (by decide) ?_
              refine lv_icmp_ne (tgt := 59) hx hb dX11_torsion_52 (by decide) (fun c_16 => ?_) (fun c_16 => ?_)
              · skip
                refine lv_iload_n hx hb dX11_torsion_59 rfl (lv_at hl 3 rfl) ?_
                refine lv_iload hx hb dX11_torsion_60 (lv_at hl 0 rfl) ?_
                refine lv_icmp_ge (tgt := 77) hx hb dX11_torsion_62 (by decide) (fun c_17 => ?_) (fun c_17 => absurd c_17 (by simp only [Int32.lt_iff_toInt_lt, Int32.le_iff_toInt_le, ← Int32.toInt_inj, show ((-1 : Int32)).toInt = -1 from by decide, show ((0 : Int32)).toInt = 0 from by decide] at c_7 c_16 ⊢; omega))
                refine lv_ldc2 (v := (-2)) hx hb hown (hts (.constantLong RX11 279 (-2)) (by decide +kernel)) dX11_torsion_77 ?_
                exact x_lret (w1 := (fun u : Nat => match u with | 0 => (WX cI cJ cB cZ ad) | 1 => (WX cI cJ cB cZ ad) | 2 => (WX cI cJ cB cZ ad) | 3 => (WX cI cJ cB cZ ad) | 4 => (WX cI cJ cB cZ ad (Matrix_minor := 1)) | 5 => (WX cI cJ cB cZ ad (Matrix_minor := 1)) | 6 => (WX cI cJ cB cZ ad (Matrix_minor := 1)) | 7 => (WX cI cJ cB cZ ad (Matrix_minor := 1)) | 8 => (WX cI cJ cB cZ ad (Matrix_minor := 1)) | 9 => (WX cI cJ cB cZ ad (Matrix_minor := 1)) | 10 => (WX cI cJ cB cZ ad (Matrix_minor := 1)) | 11 => (WX cI cJ cB cZ ad (Matrix_minor := 1)) | 12 => (WX cI cJ cB cZ ad) | 13 => (WX cI cJ cB cZ ad) | 14 => (WX cI cJ cB cZ ad (Matrix_minor := 1)) | 15 => (WX cI cJ cB cZ ad (Matrix_minor := 1)) | 16 => (WX cI cJ cB cZ ad (Matrix_minor := 1)) | 17 => (WX cI cJ cB cZ ad (Matrix_minor := 1)) | 18 => (WX cI cJ cB cZ ad (Matrix_minor := 1)) | 19 => (WX cI cJ cB cZ ad (Matrix_minor := 1)) | 20 => (WX cI cJ cB cZ ad (Matrix_minor := 1)) | 21 => (WX cI cJ cB cZ ad (Matrix_minor := 1)) | 22 => (WX cI cJ cB cZ ad) | 23 => (WX cI cJ cB cZ ad) | _ => (WX cI cJ cB cZ ad))) 6 B h hr (Or.inr (Or.inr (Or.inr (Or.inr (Or.inr (Or.inr (Or.inl ⟨rfl, c_7, rfl, rfl, c_16, c_17, rfl⟩))))))) dX11_torsion_80
              · skip
                refine lv_iload hx hb dX11_torsion_55 (lv_at hl 0 rfl) ?_
                refine lv_i2l (v := 0) hx hb dX11_torsion_57 (by decide) ?_
                exact x_lret (w1 := (fun u : Nat => match u with | 0 => (WX cI cJ cB cZ ad) | 1 => (WX cI cJ cB cZ ad) | 2 => (WX cI cJ cB cZ ad) | 3 => (WX cI cJ cB cZ ad) | 4 => (WX cI cJ cB cZ ad (Matrix_minor := 1)) | 5 => (WX cI cJ cB cZ ad (Matrix_minor := 1)) | 6 => (WX cI cJ cB cZ ad (Matrix_minor := 1)) | 7 => (WX cI cJ cB cZ ad (Matrix_minor := 1)) | 8 => (WX cI cJ cB cZ ad (Matrix_minor := 1)) | 9 => (WX cI cJ cB cZ ad (Matrix_minor := 1)) | 10 => (WX cI cJ cB cZ ad (Matrix_minor := 1)) | 11 => (WX cI cJ cB cZ ad (Matrix_minor := 1)) | 12 => (WX cI cJ cB cZ ad) | 13 => (WX cI cJ cB cZ ad) | 14 => (WX cI cJ cB cZ ad (Matrix_minor := 1)) | 15 => (WX cI cJ cB cZ ad (Matrix_minor := 1)) | 16 => (WX cI cJ cB cZ ad (Matrix_minor := 1)) | 17 => (WX cI cJ cB cZ ad (Matrix_minor := 1)) | 18 => (WX cI cJ cB cZ ad (Matrix_minor := 1)) | 19 => (WX cI cJ cB cZ ad (Matrix_minor := 1)) | 20 => (WX cI cJ cB cZ ad (Matrix_minor := 1)) | 21 => (WX cI cJ cB cZ ad (Matrix_minor := 1)) | 22 => (WX cI cJ cB cZ ad) | 23 => (WX cI cJ cB cZ ad) | _ => (WX cI cJ cB cZ ad))) 7 B h hr (Or.inr (Or.inr (Or.inr (Or.inr (Or.inr (Or.inr (Or.inr (Or.inl ⟨rfl, c_7, rfl, rfl, c_16, rfl⟩)))))))) dX11_torsion_58
            · skip
              obtain rfl : p1 = 2 := e_11.trans (by decide)
              refine x_cVIF (n := 3) (As := [.long 0, .int 2, .int 0]) (rest := []) B h (k174_X0_torsionsOf l D cI cJ cB cZ ad bd) ⟨⟨_, rfl⟩, by decide +kernel, Nat.le_of_ble_eq_true rfl, Nat.le_of_ble_eq_true rfl⟩ gX11_torsion_X0_torsionsOf (show ((WX cI cJ cB cZ ad) : va_W)[8]? = some (_, .inr (0, _)) from rfl) rfl rfl hl.1 rfl (Nat.le_of_ble_eq_true rfl) dX11_torsion_45 ⟨Nat.le_of_ble_eq_true rfl, Nat.le_of_ble_eq_true rfl⟩ (fun r_18 u_18 H locs hp_18 h => ?_)
              obtain rfl := hp_18
              have h : Hp D A s.heap (WX cI cJ cB cZ ad (Matrix_minor := 1)) H locs := h
              refine lv_istore (lv' := [(4, .int 0), (0, .ref (ad 0)), (1, .int 2), (2, .int p2), (3, .int 0)]) hx hb dX11_torsion_48 hl (by decide) rfl (fun ls hl => ?_)
              refine lv_iload_n hx hb dX11_torsion_50 rfl (lv_at hl 3 rfl) ?_
              refine lv_iconst (v := (-1)) hx hb dX11_torsion_51 (by decide) ?_
              refine lv_icmp_ne (tgt := 59) hx hb dX11_torsion_52 (by decide) (fun c_19 => ?_) (fun c_19 => ?_)
              · skip
                refine lv_iload_n hx hb dX11_torsion_59 rfl (lv_at hl 3 rfl) ?_
                refine lv_iload hx hb dX11_torsion_60 (lv_at hl 0 rfl) ?_
                refine lv_icmp_ge (tgt := 77) hx hb dX11_torsion_62 (by decide) (fun c_20 => ?_) (fun c_20 => absurd c_20 (by simp only [Int32.lt_iff_toInt_lt, Int32.le_iff_toInt_le, ← Int32.toInt_inj, show ((-1 : Int32)).toInt = -1 from by decide, show ((0 : Int32)).toInt = 0 from by decide] at c_7 c_19 ⊢; omega))
                refine lv_ldc2 (v := (-2)) hx hb hown (hts (.constantLong RX11 279 (-2)) (by decide +kernel)) dX11_torsion_77 ?_
                exact x_lret (w1 := (fun u : Nat => match u with | 0 => (WX cI cJ cB cZ ad) | 1 => (WX cI cJ cB cZ ad) | 2 => (WX cI cJ cB cZ ad) | 3 => (WX cI cJ cB cZ ad) | 4 => (WX cI cJ cB cZ ad (Matrix_minor := 1)) | 5 => (WX cI cJ cB cZ ad (Matrix_minor := 1)) | 6 => (WX cI cJ cB cZ ad (Matrix_minor := 1)) | 7 => (WX cI cJ cB cZ ad (Matrix_minor := 1)) | 8 => (WX cI cJ cB cZ ad (Matrix_minor := 1)) | 9 => (WX cI cJ cB cZ ad (Matrix_minor := 1)) | 10 => (WX cI cJ cB cZ ad (Matrix_minor := 1)) | 11 => (WX cI cJ cB cZ ad (Matrix_minor := 1)) | 12 => (WX cI cJ cB cZ ad) | 13 => (WX cI cJ cB cZ ad) | 14 => (WX cI cJ cB cZ ad (Matrix_minor := 1)) | 15 => (WX cI cJ cB cZ ad (Matrix_minor := 1)) | 16 => (WX cI cJ cB cZ ad (Matrix_minor := 1)) | 17 => (WX cI cJ cB cZ ad (Matrix_minor := 1)) | 18 => (WX cI cJ cB cZ ad (Matrix_minor := 1)) | 19 => (WX cI cJ cB cZ ad (Matrix_minor := 1)) | 20 => (WX cI cJ cB cZ ad (Matrix_minor := 1)) | 21 => (WX cI cJ cB cZ ad (Matrix_minor := 1)) | 22 => (WX cI cJ cB cZ ad) | 23 => (WX cI cJ cB cZ ad) | _ => (WX cI cJ cB cZ ad))) 8 B h hr (Or.inr (Or.inr (Or.inr (Or.inr (Or.inr (Or.inr (Or.inr (Or.inr (Or.inl ⟨rfl, c_7, rfl, rfl, c_19, c_20, rfl⟩))))))))) dX11_torsion_80
              · skip
                refine lv_iload hx hb dX11_torsion_55 (lv_at hl 0 rfl) ?_
                refine lv_i2l (v := 0) hx hb dX11_torsion_57 (by decide) ?_
                exact x_lret (w1 := (fun u : Nat => match u with | 0 => (WX cI cJ cB cZ ad) | 1 => (WX cI cJ cB cZ ad) | 2 => (WX cI cJ cB cZ ad) | 3 => (WX cI cJ cB cZ ad) | 4 => (WX cI cJ cB cZ ad (Matrix_minor := 1)) | 5 => (WX cI cJ cB cZ ad (Matrix_minor := 1)) | 6 => (WX cI cJ cB cZ ad (Matrix_minor := 1)) | 7 => (WX cI cJ cB cZ ad (Matrix_minor := 1)) | 8 => (WX cI cJ cB cZ ad (Matrix_minor := 1)) | 9 => (WX cI cJ cB cZ ad (Matrix_minor := 1)) | 10 => (WX cI cJ cB cZ ad (Matrix_minor := 1)) | 11 => (WX cI cJ cB cZ ad (Matrix_minor := 1)) | 12 => (WX cI cJ cB cZ ad) | 13 => (WX cI cJ cB cZ ad) | 14 => (WX cI cJ cB cZ ad (Matrix_minor := 1)) | 15 => (WX cI cJ cB cZ ad (Matrix_minor := 1)) | 16 => (WX cI cJ cB cZ ad (Matrix_minor := 1)) | 17 => (WX cI cJ cB cZ ad (Matrix_minor := 1)) | 18 => (WX cI cJ cB cZ ad (Matrix_minor := 1)) | 19 => (WX cI cJ cB cZ ad (Matrix_minor := 1)) | 20 => (WX cI cJ cB cZ ad (Matrix_minor := 1)) | 21 => (WX cI cJ cB cZ ad (Matrix_minor := 1)) | 22 => (WX cI cJ cB cZ ad) | 23 => (WX cI cJ cB cZ ad) | _ => (WX cI cJ cB cZ ad))) 9 B h hr (Or.inr (Or.inr (Or.inr (Or.inr (Or.inr (Or.inr (Or.inr (Or.inr (Or.inr (Or.inl ⟨rfl, c_7, rfl, rfl, c_19, rfl⟩)))))))))) dX11_torsion_58
            · skip
              obtain rfl : p1 = 3 := e_11.trans (by decide)
              refine x_cVIF (n := 3) (As := [.long 0, .int 3, .int 0]) (rest := []) B h (k175_X0_torsionsOf l D cI cJ cB cZ ad bd) ⟨⟨_, rfl⟩, by decide +kernel, Nat.le_of_ble_eq_true rfl, Nat.le_of_ble_eq_true rfl⟩ gX11_torsion_X0_torsionsOf (show ((WX cI cJ cB cZ ad) : va_W)[8]? = some (_, .inr (0, _)) from rfl) rfl rfl hl.1 rfl (Nat.le_of_ble_eq_true rfl) dX11_torsion_45 ⟨Nat.le_of_ble_eq_true rfl, Nat.le_of_ble_eq_true rfl⟩ (fun r_21 u_21 H locs hp_21 h => ?_)
              obtain rfl := hp_21
              have h : Hp D A s.heap (WX cI cJ cB cZ ad (Matrix_minor := 1)) H locs := h
              refine lv_istore (lv' := [(4, .int 0), (0, .ref (ad 0)), (1, .int 3), (2, .int p2), (3, .int 0)]) hx hb dX11_torsion_48 hl (by decide) rfl (fun ls hl => ?_)
              refine lv_iload_n hx hb dX11_torsion_50 rfl (lv_at hl 3 rfl) ?_
              refine lv_iconst (v := (-1)) hx hb dX11_torsion_51 (by decide) ?_
              refine lv_icmp_ne (tgt := 59) hx hb dX11_torsion_52 (by decide) (fun c_22 => ?_) (fun c_22 => ?_)
              · skip
                refine lv_iload_n hx hb dX11_torsion_59 rfl (lv_at hl 3 rfl) ?_
                refine lv_iload hx hb dX11_torsion_60 (lv_at hl 0 rfl) ?_
                refine lv_icmp_ge (tgt := 77) hx hb dX11_torsion_62 (by decide) (fun c_23 => ?_) (fun c_23 => absurd c_23 (by simp only [Int32.lt_iff_toInt_lt, Int32.le_iff_toInt_le, ← Int32.toInt_inj, show ((-1 : Int32)).toInt = -1 from by decide, show ((0 : Int32)).toInt = 0 from by decide] at c_7 c_22 ⊢; omega))
                refine lv_ldc2 (v := (-2)) hx hb hown (hts (.constantLong RX11 279 (-2)) (by decide +kernel)) dX11_torsion_77 ?_
                exact x_lret (w1 := (fun u : Nat => match u with | 0 => (WX cI cJ cB cZ ad) | 1 => (WX cI cJ cB cZ ad) | 2 => (WX cI cJ cB cZ ad) | 3 => (WX cI cJ cB cZ ad) | 4 => (WX cI cJ cB cZ ad (Matrix_minor := 1)) | 5 => (WX cI cJ cB cZ ad (Matrix_minor := 1)) | 6 => (WX cI cJ cB cZ ad (Matrix_minor := 1)) | 7 => (WX cI cJ cB cZ ad (Matrix_minor := 1)) | 8 => (WX cI cJ cB cZ ad (Matrix_minor := 1)) | 9 => (WX cI cJ cB cZ ad (Matrix_minor := 1)) | 10 => (WX cI cJ cB cZ ad (Matrix_minor := 1)) | 11 => (WX cI cJ cB cZ ad (Matrix_minor := 1)) | 12 => (WX cI cJ cB cZ ad) | 13 => (WX cI cJ cB cZ ad) | 14 => (WX cI cJ cB cZ ad (Matrix_minor := 1)) | 15 => (WX cI cJ cB cZ ad (Matrix_minor := 1)) | 16 => (WX cI cJ cB cZ ad (Matrix_minor := 1)) | 17 => (WX cI cJ cB cZ ad (Matrix_minor := 1)) | 18 => (WX cI cJ cB cZ ad (Matrix_minor := 1)) | 19 => (WX cI cJ cB cZ ad (Matrix_minor := 1)) | 20 => (WX cI cJ cB cZ ad (Matrix_minor := 1)) | 21 => (WX cI cJ cB cZ ad (Matrix_minor := 1)) | 22 => (WX cI cJ cB cZ ad) | 23 => (WX cI cJ cB cZ ad) | _ => (WX cI cJ cB cZ ad))) 10 B h hr (Or.inr (Or.inr (Or.inr (Or.inr (Or.inr (Or.inr (Or.inr (Or.inr (Or.inr (Or.inr (Or.inl ⟨rfl, c_7, rfl, rfl, c_22, c_23, rfl⟩))))))))))) dX11_torsion_80
              · skip
                refine lv_iload hx hb dX11_torsion_55 (lv_at hl 0 rfl) ?_
                refine lv_i2l (v := 0) hx hb dX11_torsion_57 (by decide) ?_
                exact x_lret (w1 := (fun u : Nat => match u with | 0 => (WX cI cJ cB cZ ad) | 1 => (WX cI cJ cB cZ ad) | 2 => (WX cI cJ cB cZ ad) | 3 => (WX cI cJ cB cZ ad) | 4 => (WX cI cJ cB cZ ad (Matrix_minor := 1)) | 5 => (WX cI cJ cB cZ ad (Matrix_minor := 1)) | 6 => (WX cI cJ cB cZ ad (Matrix_minor := 1)) | 7 => (WX cI cJ cB cZ ad (Matrix_minor := 1)) | 8 => (WX cI cJ cB cZ ad (Matrix_minor := 1)) | 9 => (WX cI cJ cB cZ ad (Matrix_minor := 1)) | 10 => (WX cI cJ cB cZ ad (Matrix_minor := 1)) | 11 => (WX cI cJ cB cZ ad (Matrix_minor := 1)) | 12 => (WX cI cJ cB cZ ad) | 13 => (WX cI cJ cB cZ ad) | 14 => (WX cI cJ cB cZ ad (Matrix_minor := 1)) | 15 => (WX cI cJ cB cZ ad (Matrix_minor := 1)) | 16 => (WX cI cJ cB cZ ad (Matrix_minor := 1)) | 17 => (WX cI cJ cB cZ ad (Matrix_minor := 1)) | 18 => (WX cI cJ cB cZ ad (Matrix_minor := 1)) | 19 => (WX cI cJ cB cZ ad (Matrix_minor := 1)) | 20 => (WX cI cJ cB cZ ad (Matrix_minor := 1)) | 21 => (WX cI cJ cB cZ ad (Matrix_minor := 1)) | 22 => (WX cI cJ cB cZ ad) | 23 => (WX cI cJ cB cZ ad) | _ => (WX cI cJ cB cZ ad))) 11 B h hr (Or.inr (Or.inr (Or.inr (Or.inr (Or.inr (Or.inr (Or.inr (Or.inr (Or.inr (Or.inr (Or.inr (Or.inl ⟨rfl, c_7, rfl, rfl, c_22, rfl⟩)))))))))))) dX11_torsion_58
            · skip
              obtain rfl : p1 = 4 := e_11.trans (by decide)
              refine x_cVIF (n := 3) (As := [.long 0, .int 4, .int 0]) (rest := []) B h (k177_X0_torsionsOf l D cI cJ cB cZ ad bd) ⟨⟨_, rfl⟩, by decide +kernel, Nat.le_of_ble_eq_true rfl, Nat.le_of_ble_eq_true rfl⟩ gX11_torsion_X0_torsionsOf (show ((WX cI cJ cB cZ ad) : va_W)[8]? = some (_, .inr (0, _)) from rfl) rfl rfl hl.1 rfl (Nat.le_of_ble_eq_true rfl) dX11_torsion_45 ⟨Nat.le_of_ble_eq_true rfl, Nat.le_of_ble_eq_true rfl⟩ (fun r_24 u_24 H locs hp_24 h => ?_)
              obtain rfl := hp_24
              have h : Hp D A s.heap (WX cI cJ cB cZ ad) H locs := h
              refine lv_istore (lv' := [(4, .int 0), (0, .ref (ad 0)), (1, .int 4), (2, .int p2), (3, .int 0)]) hx hb dX11_torsion_48 hl (by decide) rfl (fun ls hl => ?_)
              refine lv_iload_n hx hb dX11_torsion_50 rfl (lv_at hl 3 rfl) ?_
              refine lv_iconst (v := (-1)) hx hb dX11_torsion_51 (by decide) ?_
              refine lv_icmp_ne (tgt := 59) hx hb dX11_torsion_52 (by decide) (fun c_25 => ?_) (fun c_25 => ?_)
              · skip
                refine lv_iload_n hx hb dX11_torsion_59 rfl (lv_at hl 3 rfl) ?_
                refine lv_iload hx hb dX11_torsion_60 (lv_at hl 0 rfl) ?_
                refine lv_icmp_ge (tgt := 77) hx hb dX11_torsion_62 (by decide) (fun c_26 => ?_) (fun c_26 => absurd c_26 (by simp only [Int32.lt_iff_toInt_lt, Int32.le_iff_toInt_le, ← Int32.toInt_inj, show ((-1 : Int32)).toInt = -1 from by decide, show ((0 : Int32)).toInt = 0 from by decide] at c_7 c_25 ⊢; omega))
                refine lv_ldc2 (v := (-2)) hx hb hown (hts (.constantLong RX11 279 (-2)) (by decide +kernel)) dX11_torsion_77 ?_
                exact x_lret (w1 := (fun u : Nat => match u with | 0 => (WX cI cJ cB cZ ad) | 1 => (WX cI cJ cB cZ ad) | 2 => (WX cI cJ cB cZ ad) | 3 => (WX cI cJ cB cZ ad) | 4 => (WX cI cJ cB cZ ad (Matrix_minor := 1)) | 5 => (WX cI cJ cB cZ ad (Matrix_minor := 1)) | 6 => (WX cI cJ cB cZ ad (Matrix_minor := 1)) | 7 => (WX cI cJ cB cZ ad (Matrix_minor := 1)) | 8 => (WX cI cJ cB cZ ad (Matrix_minor := 1)) | 9 => (WX cI cJ cB cZ ad (Matrix_minor := 1)) | 10 => (WX cI cJ cB cZ ad (Matrix_minor := 1)) | 11 => (WX cI cJ cB cZ ad (Matrix_minor := 1)) | 12 => (WX cI cJ cB cZ ad) | 13 => (WX cI cJ cB cZ ad) | 14 => (WX cI cJ cB cZ ad (Matrix_minor := 1)) | 15 => (WX cI cJ cB cZ ad (Matrix_minor := 1)) | 16 => (WX cI cJ cB cZ ad (Matrix_minor := 1)) | 17 => (WX cI cJ cB cZ ad (Matrix_minor := 1)) | 18 => (WX cI cJ cB cZ ad (Matrix_minor := 1)) | 19 => (WX cI cJ cB cZ ad (Matrix_minor := 1)) | 20 => (WX cI cJ cB cZ ad (Matrix_minor := 1)) | 21 => (WX cI cJ cB cZ ad (Matrix_minor := 1)) | 22 => (WX cI cJ cB cZ ad) | 23 => (WX cI cJ cB cZ ad) | _ => (WX cI cJ cB cZ ad))) 12 B h hr (Or.inr (Or.inr (Or.inr (Or.inr (Or.inr (Or.inr (Or.inr (Or.inr (Or.inr (Or.inr (Or.inr (Or.inr (Or.inl ⟨rfl, c_7, rfl, rfl, c_25, c_26, rfl⟩))))))))))))) dX11_torsion_80
              · skip
                refine lv_iload hx hb dX11_torsion_55 (lv_at hl 0 rfl) ?_
                refine lv_i2l (v := 0) hx hb dX11_torsion_57 (by decide) ?_
                exact x_lret (w1 := (fun u : Nat => match u with | 0 => (WX cI cJ cB cZ ad) | 1 => (WX cI cJ cB cZ ad) | 2 => (WX cI cJ cB cZ ad) | 3 => (WX cI cJ cB cZ ad) | 4 => (WX cI cJ cB cZ ad (Matrix_minor := 1)) | 5 => (WX cI cJ cB cZ ad (Matrix_minor := 1)) | 6 => (WX cI cJ cB cZ ad (Matrix_minor := 1)) | 7 => (WX cI cJ cB cZ ad (Matrix_minor := 1)) | 8 => (WX cI cJ cB cZ ad (Matrix_minor := 1)) | 9 => (WX cI cJ cB cZ ad (Matrix_minor := 1)) | 10 => (WX cI cJ cB cZ ad (Matrix_minor := 1)) | 11 => (WX cI cJ cB cZ ad (Matrix_minor := 1)) | 12 => (WX cI cJ cB cZ ad) | 13 => (WX cI cJ cB cZ ad) | 14 => (WX cI cJ cB cZ ad (Matrix_minor := 1)) | 15 => (WX cI cJ cB cZ ad (Matrix_minor := 1)) | 16 => (WX cI cJ cB cZ ad (Matrix_minor := 1)) | 17 => (WX cI cJ cB cZ ad (Matrix_minor := 1)) | 18 => (WX cI cJ cB cZ ad (Matrix_minor := 1)) | 19 => (WX cI cJ cB cZ ad (Matrix_minor := 1)) | 20 => (WX cI cJ cB cZ ad (Matrix_minor := 1)) | 21 => (WX cI cJ cB cZ ad (Matrix_minor := 1)) | 22 => (WX cI cJ cB cZ ad) | 23 => (WX cI cJ cB cZ ad) | _ => (WX cI cJ cB cZ ad))) 13 B h hr (Or.inr (Or.inr (Or.inr (Or.inr (Or.inr (Or.inr (Or.inr (Or.inr (Or.inr (Or.inr (Or.inr (Or.inr (Or.inr (Or.inl ⟨rfl, c_7, rfl, rfl, c_25, rfl⟩)))))))))))))) dX11_torsion_58
          · skip
            obtain rfl : p3 = 1 := e_8.trans (by decide)
            refine x_cVLF (n := 1) (As := [.int 1]) (rest := [.ref (ad 8)]) B h (k108_X11_basis l D cI cJ cB cZ ad bd) ⟨⟨_, rfl⟩, by decide +kernel, Nat.le_of_ble_eq_true rfl, Nat.le_of_ble_eq_true rfl⟩ gX11_torsion_X11_basis (show ((WX cI cJ cB cZ ad) : va_W)[0]? = some (_, .inr (11, _)) from rfl) rfl rfl hl.1 rfl (Nat.le_of_ble_eq_true rfl) dX11_torsion_31 ⟨Nat.le_of_ble_eq_true rfl, Nat.le_of_ble_eq_true rfl⟩ (fun r_27 u_27 H locs hp_27 h => ?_)
            obtain rfl := hp_27
            have h : Hp D A s.heap (WX cI cJ cB cZ ad) H locs := h
            refine lv_iload_n hx hb dX11_torsion_34 rfl (lv_at hl 1 rfl) ?_
            refine lv_iload_n hx hb dX11_torsion_35 rfl (lv_at hl 3 rfl) ?_
            refine lv_iconst (v := 1) hx hb dX11_torsion_36 (by decide) ?_
            refine lv_icmp_ne (tgt := 44) hx hb dX11_torsion_37 (by decide) (fun c_28 => absurd c_28 (by decide)) (fun c_28 => ?_)
            refine lv_iconst (v := 1) hx hb dX11_torsion_40 (by decide) ?_
            refine lv_goto (tgt := 45) hx hb dX11_torsion_41 (by decide) ?_
            have k_29 : p1 = 0 ∨ p1 = 1 ∨ p1 = 2 ∨ p1 = 3 ∨ p1 = 4 := by simp only [Int32.lt_iff_toInt_lt, Int32.le_iff_toInt_le, ← Int32.toInt_inj, show ((-1 : Int32)).toInt = -1 from by decide, show ((0 : Int32)).toInt = 0 from by decide, show ((1 : Int32)).toInt = 1 from by decide, show ((2 : Int32)).toInt = 2 from by decide, show ((3 : Int32)).toInt = 3 from by decide, show ((4 : Int32)).toInt = 4 from by decide, show ((5 : Int32)).toInt = 5 from by decide] at k_1_0 k_1_1 c_7 ⊢; omega
            rcases k_29 with e_29 | e_29 | e_29 | e_29 | e_29
            · skip
              obtain rfl : p1 = 0 := e_29.trans (by decide)
              refine x_cVIF (n := 3) (As := [.long 0, .int 0, .int 1]) (rest := []) B h (k178_X0_torsionsOf l D cI cJ cB cZ ad bd) ⟨⟨_, rfl⟩, by decide +kernel, Nat.le_of_ble_eq_true rfl, Nat.le_of_ble_eq_true rfl⟩ gX11_torsion_X0_torsionsOf (show ((WX cI cJ cB cZ ad) : va_W)[8]? = some (_, .inr (0, _)) from rfl) rfl rfl hl.1 rfl (Nat.le_of_ble_eq_true rfl) dX11_torsion_45 ⟨Nat.le_of_ble_eq_true rfl, Nat.le_of_ble_eq_true rfl⟩ (fun r_30 u_30 H locs hp_30 h => ?_)
              obtain rfl := hp_30
              have h : Hp D A s.heap (WX cI cJ cB cZ ad (Matrix_minor := 1)) H locs := h
              refine lv_istore (lv' := [(4, .int 0), (0, .ref (ad 0)), (1, .int 0), (2, .int p2), (3, .int 1)]) hx hb dX11_torsion_48 hl (by decide) rfl (fun ls hl => ?_)
              refine lv_iload_n hx hb dX11_torsion_50 rfl (lv_at hl 3 rfl) ?_
              refine lv_iconst (v := (-1)) hx hb dX11_torsion_51 (by decide) ?_
              refine lv_icmp_ne (tgt := 59) hx hb dX11_torsion_52 (by decide) (fun c_31 => ?_) (fun c_31 => ?_)
              · skip
                refine lv_iload_n hx hb dX11_torsion_59 rfl (lv_at hl 3 rfl) ?_
                refine lv_iload hx hb dX11_torsion_60 (lv_at hl 0 rfl) ?_
                refine lv_icmp_ge (tgt := 77) hx hb dX11_torsion_62 (by decide) (fun c_32 => ?_) (fun c_32 => absurd c_32 (by simp only [Int32.lt_iff_toInt_lt, Int32.le_iff_toInt_le, ← Int32.toInt_inj, show ((-1 : Int32)).toInt = -1 from by decide, show ((0 : Int32)).toInt = 0 from by decide] at c_7 c_31 ⊢; omega))
                refine lv_ldc2 (v := (-2)) hx hb hown (hts (.constantLong RX11 279 (-2)) (by decide +kernel)) dX11_torsion_77 ?_
                exact x_lret (w1 := (fun u : Nat => match u with | 0 => (WX cI cJ cB cZ ad) | 1 => (WX cI cJ cB cZ ad) | 2 => (WX cI cJ cB cZ ad) | 3 => (WX cI cJ cB cZ ad) | 4 => (WX cI cJ cB cZ ad (Matrix_minor := 1)) | 5 => (WX cI cJ cB cZ ad (Matrix_minor := 1)) | 6 => (WX cI cJ cB cZ ad (Matrix_minor := 1)) | 7 => (WX cI cJ cB cZ ad (Matrix_minor := 1)) | 8 => (WX cI cJ cB cZ ad (Matrix_minor := 1)) | 9 => (WX cI cJ cB cZ ad (Matrix_minor := 1)) | 10 => (WX cI cJ cB cZ ad (Matrix_minor := 1)) | 11 => (WX cI cJ cB cZ ad (Matrix_minor := 1)) | 12 => (WX cI cJ cB cZ ad) | 13 => (WX cI cJ cB cZ ad) | 14 => (WX cI cJ cB cZ ad (Matrix_minor := 1)) | 15 => (WX cI cJ cB cZ ad (Matrix_minor := 1)) | 16 => (WX cI cJ cB cZ ad (Matrix_minor := 1)) | 17 => (WX cI cJ cB cZ ad (Matrix_minor := 1)) | 18 => (WX cI cJ cB cZ ad (Matrix_minor := 1)) | 19 => (WX cI cJ cB cZ ad (Matrix_minor := 1)) | 20 => (WX cI cJ cB cZ ad (Matrix_minor := 1)) | 21 => (WX cI cJ cB cZ ad (Matrix_minor := 1)) | 22 => (WX cI cJ cB cZ ad) | 23 => (WX cI cJ cB cZ ad) | _ => (WX cI cJ cB cZ ad))) 14 B h hr (Or.inr (Or.inr (Or.inr (Or.inr (Or.inr (Or.inr (Or.inr (Or.inr (Or.inr (Or.inr (Or.inr (Or.inr (Or.inr (Or.inr (Or.inl ⟨rfl, c_7, rfl, rfl, c_31, c_32, rfl⟩))))))))))))))) dX11_torsion_80
              · skip
                refine lv_iload hx hb dX11_torsion_55 (lv_at hl 0 rfl) ?_
                refine lv_i2l (v := 0) hx hb dX11_torsion_57 (by decide) ?_
                exact x_lret (w1 := (fun u : Nat => match u with | 0 => (WX cI cJ cB cZ ad) | 1 => (WX cI cJ cB cZ ad) | 2 => (WX cI cJ cB cZ ad) | 3 => (WX cI cJ cB cZ ad) | 4 => (WX cI cJ cB cZ ad (Matrix_minor := 1)) | 5 => (WX cI cJ cB cZ ad (Matrix_minor := 1)) | 6 => (WX cI cJ cB cZ ad (Matrix_minor := 1)) | 7 => (WX cI cJ cB cZ ad (Matrix_minor := 1)) | 8 => (WX cI cJ cB cZ ad (Matrix_minor := 1)) | 9 => (WX cI cJ cB cZ ad (Matrix_minor := 1)) | 10 => (WX cI cJ cB cZ ad (Matrix_minor := 1)) | 11 => (WX cI cJ cB cZ ad (Matrix_minor := 1)) | 12 => (WX cI cJ cB cZ ad) | 13 => (WX cI cJ cB cZ ad) | 14 => (WX cI cJ cB cZ ad (Matrix_minor := 1)) | 15 => (WX cI cJ cB cZ ad (Matrix_minor := 1)) | 16 => (WX cI cJ cB cZ ad (Matrix_minor := 1)) | 17 => (WX cI cJ cB cZ ad (Matrix_minor := 1)) | 18 => (WX cI cJ cB cZ ad (Matrix_minor := 1)) | 19 => (WX cI cJ cB cZ ad (Matrix_minor := 1)) | 20 => (WX cI cJ cB cZ ad (Matrix_minor := 1)) | 21 => (WX cI cJ cB cZ ad (Matrix_minor := 1)) | 22 => (WX cI cJ cB cZ ad) | 23 => (WX cI cJ cB cZ ad) | _ => (WX cI cJ cB cZ ad))) 15 B h hr (Or.inr (Or.inr (Or.inr (Or.inr (Or.inr (Or.inr (Or.inr (Or.inr (Or.inr (Or.inr (Or.inr (Or.inr (Or.inr (Or.inr (Or.inr (Or.inl ⟨rfl, c_7, rfl, rfl, c_31, rfl⟩)))))))))))))))) dX11_torsion_58
            · skip
              obtain rfl : p1 = 1 := e_29.trans (by decide)
              refine x_cVIF (n := 3) (As := [.long 0, .int 1, .int 1]) (rest := []) B h (k179_X0_torsionsOf l D cI cJ cB cZ ad bd) ⟨⟨_, rfl⟩, by decide +kernel, Nat.le_of_ble_eq_true rfl, Nat.le_of_ble_eq_true rfl⟩ gX11_torsion_X0_torsionsOf (show ((WX cI cJ cB cZ ad) : va_W)[8]? = some (_, .inr (0, _)) from rfl) rfl rfl hl.1 rfl (Nat.le_of_ble_eq_true rfl) dX11_torsion_45 ⟨Nat.le_of_ble_eq_true rfl, Nat.le_of_ble_eq_true rfl⟩ (fun r_33 u_33 H locs hp_33 h => ?_)
              obtain rfl := hp_33
              have h : Hp D A s.heap (WX cI cJ cB cZ ad (Matrix_minor := 1)) H locs := h
              refine lv_istore (lv' := [(4, .int 0), (0, .ref (ad 0)), (1, .int 1), (2, .int p2), (3, .int 1)]) hx hb dX11_torsion_48 hl (by decide) rfl (fun ls hl => ?_)
              refine lv_iload_n hx hb dX11_torsion_50 rfl (lv_at hl 3 rfl) ?_
              refine lv_iconst (v := (-1)) hx hb dX11_torsion_51 (by decide) ?_
              refine lv_icmp_ne (tgt := 59) hx hb dX11_torsion_52 (by decide) (fun c_34 => ?_) (fun c_34 => ?_)
              · skip
                refine lv_iload_n hx hb dX11_torsion_59 rfl (lv_at hl 3 rfl) ?_
                refine lv_iload hx hb dX11_torsion_60 (lv_at hl 0 rfl) ?_
                refine lv_icmp_ge (tgt := 77) hx hb dX11_torsion_62 (by decide) (fun c_35 => ?_) (fun c_35 => absurd c_35 (by simp only [Int32.lt_iff_toInt_lt, Int32.le_iff_toInt_le, ← Int32.toInt_inj, show ((-1 : Int32)).toInt = -1 from by decide, show ((0 : Int32)).toInt = 0 from by decide] at c_7 c_34 ⊢; omega))
                refine lv_ldc2 (v := (-2)) hx hb hown (hts (.constantLong RX11 279 (-2)) (by decide +kernel)) dX11_torsion_77 ?_
                exact x_lret (w1 := (fun u : Nat => match u with | 0 => (WX cI cJ cB cZ ad) | 1 => (WX cI cJ cB cZ ad) | 2 => (WX cI cJ cB cZ ad) | 3 => (WX cI cJ cB cZ ad) | 4 => (WX cI cJ cB cZ ad (Matrix_minor := 1)) | 5 => (WX cI cJ cB cZ ad (Matrix_minor := 1)) | 6 => (WX cI cJ cB cZ ad (Matrix_minor := 1)) | 7 => (WX cI cJ cB cZ ad (Matrix_minor := 1)) | 8 => (WX cI cJ cB cZ ad (Matrix_minor := 1)) | 9 => (WX cI cJ cB cZ ad (Matrix_minor := 1)) | 10 => (WX cI cJ cB cZ ad (Matrix_minor := 1)) | 11 => (WX cI cJ cB cZ ad (Matrix_minor := 1)) | 12 => (WX cI cJ cB cZ ad) | 13 => (WX cI cJ cB cZ ad) | 14 => (WX cI cJ cB cZ ad (Matrix_minor := 1)) | 15 => (WX cI cJ cB cZ ad (Matrix_minor := 1)) | 16 => (WX cI cJ cB cZ ad (Matrix_minor := 1)) | 17 => (WX cI cJ cB cZ ad (Matrix_minor := 1)) | 18 => (WX cI cJ cB cZ ad (Matrix_minor := 1)) | 19 => (WX cI cJ cB cZ ad (Matrix_minor := 1)) | 20 => (WX cI cJ cB cZ ad (Matrix_minor := 1)) | 21 => (WX cI cJ cB cZ ad (Matrix_minor := 1)) | 22 => (WX cI cJ cB cZ ad) | 23 => (WX cI cJ cB cZ ad) | _ => (WX cI cJ cB cZ ad))) 16 B h hr (Or.inr (Or.inr (Or.inr (Or.inr (Or.inr (Or.inr (Or.inr (Or.inr (Or.inr (Or.inr (Or.inr (Or.inr (Or.inr (Or.inr (Or.inr (Or.inr (Or.inl ⟨rfl, c_7, rfl, rfl, c_34, c_35, rfl⟩))))))))))))))))) dX11_torsion_80
              · skip
                refine lv_iload hx hb dX11_torsion_55 (lv_at hl 0 rfl) ?_
                refine lv_i2l (v := 0) hx hb dX11_torsion_57 (by decide) ?_
                exact x_lret (w1 := (fun u : Nat => match u with | 0 => (WX cI cJ cB cZ ad) | 1 => (WX cI cJ cB cZ ad) | 2 => (WX cI cJ cB cZ ad) | 3 => (WX cI cJ cB cZ ad) | 4 => (WX cI cJ cB cZ ad (Matrix_minor := 1)) | 5 => (WX cI cJ cB cZ ad (Matrix_minor := 1)) | 6 => (WX cI cJ cB cZ ad (Matrix_minor := 1)) | 7 => (WX cI cJ cB cZ ad (Matrix_minor := 1)) | 8 => (WX cI cJ cB cZ ad (Matrix_minor := 1)) | 9 => (WX cI cJ cB cZ ad (Matrix_minor := 1)) | 10 => (WX cI cJ cB cZ ad (Matrix_minor := 1)) | 11 => (WX cI cJ cB cZ ad (Matrix_minor := 1)) | 12 => (WX cI cJ cB cZ ad) | 13 => (WX cI cJ cB cZ ad) | 14 => (WX cI cJ cB cZ ad (Matrix_minor := 1)) | 15 => (WX cI cJ cB cZ ad (Matrix_minor := 1)) | 16 => (WX cI cJ cB cZ ad (Matrix_minor := 1)) | 17 => (WX cI cJ cB cZ ad (Matrix_minor := 1)) | 18 => (WX cI cJ cB cZ ad (Matrix_minor := 1)) | 19 => (WX cI cJ cB cZ ad (Matrix_minor := 1)) | 20 => (WX cI cJ cB cZ ad (Matrix_minor := 1)) | 21 => (WX cI cJ cB cZ ad (Matrix_minor := 1)) | 22 => (WX cI cJ cB cZ ad) | 23 => (WX cI cJ cB cZ ad) | _ => (WX cI cJ cB cZ ad))) 17 B h hr (Or.inr (Or.inr (Or.inr (Or.inr (Or.inr (Or.inr (Or.inr (Or.inr (Or.inr (Or.inr (Or.inr (Or.inr (Or.inr (Or.inr (Or.inr (Or.inr (Or.inr (Or.inl ⟨rfl, c_7, rfl, rfl, c_34, rfl⟩)))))))))))))))))) dX11_torsion_58
            · skip
              obtain rfl : p1 = 2 := e_29.trans (by decide)
              refine x_cVIF (n := 3) (As := [.long 0, .int 2, .int 1]) (rest := []) B h (k180_X0_torsionsOf l D cI cJ cB cZ ad bd) ⟨⟨_, rfl⟩, by decide +kernel, Nat.le_of_ble_eq_true rfl, Nat.le_of_ble_eq_true rfl⟩ gX11_torsion_X0_torsionsOf (show ((WX cI cJ cB cZ ad) : va_W)[8]? = some (_, .inr (0, _)) from rfl) rfl rfl hl.1 rfl (Nat.le_of_ble_eq_true rfl) dX11_torsion_45 ⟨Nat.le_of_ble_eq_true rfl, Nat.le_of_ble_eq_true rfl⟩ (fun r_36 u_36 H locs hp_36 h => ?_)
              obtain rfl := hp_36
              have h : Hp D A s.heap (WX cI cJ cB cZ ad (Matrix_minor := 1)) H locs := h
              refine lv_istore (lv' := [(4, .int 0), (0, .ref (ad 0)), (1, .int 2), (2, .int p2), (3, .int 1)]) hx hb dX11_torsion_48 hl (by decide) rfl (fun ls hl => ?_)
              refine lv_iload_n hx hb dX11_torsion_50 rfl (lv_at hl 3 rfl) ?_
              refine lv_iconst (v := (-1)) hx hb dX11_torsion_51 (by decide) ?_
              refine lv_icmp_ne (tgt := 59) hx hb dX11_torsion_52 (by decide) (fun c_37 => ?_) (fun c_37 => ?_)
              · skip
                refine lv_iload_n hx hb dX11_torsion_59 rfl (lv_at hl 3 rfl) ?_
                refine lv_iload hx hb dX11_torsion_60 (lv_at hl 0 rfl) ?_
                refine lv_icmp_ge (tgt := 77) hx hb dX11_torsion_62 (by decide) (fun c_38 => ?_) (fun c_38 => absurd c_38 (by simp only [Int32.lt_iff_toInt_lt, Int32.le_iff_toInt_le, ← Int32.toInt_inj, show ((-1 : Int32)).toInt = -1 from by decide, show ((0 : Int32)).toInt = 0 from by decide] at c_7 c_37 ⊢; omega))
                refine lv_ldc2 (v := (-2)) hx hb hown (hts (.constantLong RX11 279 (-2)) (by decide +kernel)) dX11_torsion_77 ?_
                exact x_lret (w1 := (fun u : Nat => match u with | 0 => (WX cI cJ cB cZ ad) | 1 => (WX cI cJ cB cZ ad) | 2 => (WX cI cJ cB cZ ad) | 3 => (WX cI cJ cB cZ ad) | 4 => (WX cI cJ cB cZ ad (Matrix_minor := 1)) | 5 => (WX cI cJ cB cZ ad (Matrix_minor := 1)) | 6 => (WX cI cJ cB cZ ad (Matrix_minor := 1)) | 7 => (WX cI cJ cB cZ ad (Matrix_minor := 1)) | 8 => (WX cI cJ cB cZ ad (Matrix_minor := 1)) | 9 => (WX cI cJ cB cZ ad (Matrix_minor := 1)) | 10 => (WX cI cJ cB cZ ad (Matrix_minor := 1)) | 11 => (WX cI cJ cB cZ ad (Matrix_minor := 1)) | 12 => (WX cI cJ cB cZ ad) | 13 => (WX cI cJ cB cZ ad) | 14 => (WX cI cJ cB cZ ad (Matrix_minor := 1)) | 15 => (WX cI cJ cB cZ ad (Matrix_minor := 1)) | 16 => (WX cI cJ cB cZ ad (Matrix_minor := 1)) | 17 => (WX cI cJ cB cZ ad (Matrix_minor := 1)) | 18 => (WX cI cJ cB cZ ad (Matrix_minor := 1)) | 19 => (WX cI cJ cB cZ ad (Matrix_minor := 1)) | 20 => (WX cI cJ cB cZ ad (Matrix_minor := 1)) | 21 => (WX cI cJ cB cZ ad (Matrix_minor := 1)) | 22 => (WX cI cJ cB cZ ad) | 23 => (WX cI cJ cB cZ ad) | _ => (WX cI cJ cB cZ ad))) 18 B h hr (Or.inr (Or.inr (Or.inr (Or.inr (Or.inr (Or.inr (Or.inr (Or.inr (Or.inr (Or.inr (Or.inr (Or.inr (Or.inr (Or.inr (Or.inr (Or.inr (Or.inr (Or.inr (Or.inl ⟨rfl, c_7, rfl, rfl, c_37, c_38, rfl⟩))))))))))))))))))) dX11_torsion_80
              · skip
                refine lv_iload hx hb dX11_torsion_55 (lv_at hl 0 rfl) ?_
                refine lv_i2l (v := 0) hx hb dX11_torsion_57 (by decide) ?_
                exact x_lret (w1 := (fun u : Nat => match u with | 0 => (WX cI cJ cB cZ ad) | 1 => (WX cI cJ cB cZ ad) | 2 => (WX cI cJ cB cZ ad) | 3 => (WX cI cJ cB cZ ad) | 4 => (WX cI cJ cB cZ ad (Matrix_minor := 1)) | 5 => (WX cI cJ cB cZ ad (Matrix_minor := 1)) | 6 => (WX cI cJ cB cZ ad (Matrix_minor := 1)) | 7 => (WX cI cJ cB cZ ad (Matrix_minor := 1)) | 8 => (WX cI cJ cB cZ ad (Matrix_minor := 1)) | 9 => (WX cI cJ cB cZ ad (Matrix_minor := 1)) | 10 => (WX cI cJ cB cZ ad (Matrix_minor := 1)) | 11 => (WX cI cJ cB cZ ad (Matrix_minor := 1)) | 12 => (WX cI cJ cB cZ ad) | 13 => (WX cI cJ cB cZ ad) | 14 => (WX cI cJ cB cZ ad (Matrix_minor := 1)) | 15 => (WX cI cJ cB cZ ad (Matrix_minor := 1)) | 16 => (WX cI cJ cB cZ ad (Matrix_minor := 1)) | 17 => (WX cI cJ cB cZ ad (Matrix_minor := 1)) | 18 => (WX cI cJ cB cZ ad (Matrix_minor := 1)) | 19 => (WX cI cJ cB cZ ad (Matrix_minor := 1)) | 20 => (WX cI cJ cB cZ ad (Matrix_minor := 1)) | 21 => (WX cI cJ cB cZ ad (Matrix_minor := 1)) | 22 => (WX cI cJ cB cZ ad) | 23 => (WX cI cJ cB cZ ad) | _ => (WX cI cJ cB cZ ad))) 19 B h hr (Or.inr (Or.inr (Or.inr (Or.inr (Or.inr (Or.inr (Or.inr (Or.inr (Or.inr (Or.inr (Or.inr (Or.inr (Or.inr (Or.inr (Or.inr (Or.inr (Or.inr (Or.inr (Or.inr (Or.inl ⟨rfl, c_7, rfl, rfl, c_37, rfl⟩)))))))))))))))))))) dX11_torsion_58
            · skip
              obtain rfl : p1 = 3 := e_29.trans (by decide)
              refine x_cVIF (n := 3) (As := [.long 0, .int 3, .int 1]) (rest := []) B h (k181_X0_torsionsOf l D cI cJ cB cZ ad bd) ⟨⟨_, rfl⟩, by decide +kernel, Nat.le_of_ble_eq_true rfl, Nat.le_of_ble_eq_true rfl⟩ gX11_torsion_X0_torsionsOf (show ((WX cI cJ cB cZ ad) : va_W)[8]? = some (_, .inr (0, _)) from rfl) rfl rfl hl.1 rfl (Nat.le_of_ble_eq_true rfl) dX11_torsion_45 ⟨Nat.le_of_ble_eq_true rfl, Nat.le_of_ble_eq_true rfl⟩ (fun r_39 u_39 H locs hp_39 h => ?_)
              obtain rfl := hp_39
              have h : Hp D A s.heap (WX cI cJ cB cZ ad (Matrix_minor := 1)) H locs := h
              refine lv_istore (lv' := [(4, .int 0), (0, .ref (ad 0)), (1, .int 3), (2, .int p2), (3, .int 1)]) hx hb dX11_torsion_48 hl (by decide) rfl (fun ls hl => ?_)
              refine lv_iload_n hx hb dX11_torsion_50 rfl (lv_at hl 3 rfl) ?_
              refine lv_iconst (v := (-1)) hx hb dX11_torsion_51 (by decide) ?_
              refine lv_icmp_ne (tgt := 59) hx hb dX11_torsion_52 (by decide) (fun c_40 => ?_) (fun c_40 => ?_)
              · skip
                refine lv_iload_n hx hb dX11_torsion_59 rfl (lv_at hl 3 rfl) ?_
                refine lv_iload hx hb dX11_torsion_60 (lv_at hl 0 rfl) ?_
                refine lv_icmp_ge (tgt := 77) hx hb dX11_torsion_62 (by decide) (fun c_41 => ?_) (fun c_41 => absurd c_41 (by simp only [Int32.lt_iff_toInt_lt, Int32.le_iff_toInt_le, ← Int32.toInt_inj, show ((-1 : Int32)).toInt = -1 from by decide, show ((0 : Int32)).toInt = 0 from by decide] at c_7 c_40 ⊢; omega))
                refine lv_ldc2 (v := (-2)) hx hb hown (hts (.constantLong RX11 279 (-2)) (by decide +kernel)) dX11_torsion_77 ?_
                exact x_lret (w1 := (fun u : Nat => match u with | 0 => (WX cI cJ cB cZ ad) | 1 => (WX cI cJ cB cZ ad) | 2 => (WX cI cJ cB cZ ad) | 3 => (WX cI cJ cB cZ ad) | 4 => (WX cI cJ cB cZ ad (Matrix_minor := 1)) | 5 => (WX cI cJ cB cZ ad (Matrix_minor := 1)) | 6 => (WX cI cJ cB cZ ad (Matrix_minor := 1)) | 7 => (WX cI cJ cB cZ ad (Matrix_minor := 1)) | 8 => (WX cI cJ cB cZ ad (Matrix_minor := 1)) | 9 => (WX cI cJ cB cZ ad (Matrix_minor := 1)) | 10 => (WX cI cJ cB cZ ad (Matrix_minor := 1)) | 11 => (WX cI cJ cB cZ ad (Matrix_minor := 1)) | 12 => (WX cI cJ cB cZ ad) | 13 => (WX cI cJ cB cZ ad) | 14 => (WX cI cJ cB cZ ad (Matrix_minor := 1)) | 15 => (WX cI cJ cB cZ ad (Matrix_minor := 1)) | 16 => (WX cI cJ cB cZ ad (Matrix_minor := 1)) | 17 => (WX cI cJ cB cZ ad (Matrix_minor := 1)) | 18 => (WX cI cJ cB cZ ad (Matrix_minor := 1)) | 19 => (WX cI cJ cB cZ ad (Matrix_minor := 1)) | 20 => (WX cI cJ cB cZ ad (Matrix_minor := 1)) | 21 => (WX cI cJ cB cZ ad (Matrix_minor := 1)) | 22 => (WX cI cJ cB cZ ad) | 23 => (WX cI cJ cB cZ ad) | _ => (WX cI cJ cB cZ ad))) 20 B h hr (Or.inr (Or.inr (Or.inr (Or.inr (Or.inr (Or.inr (Or.inr (Or.inr (Or.inr (Or.inr (Or.inr (Or.inr (Or.inr (Or.inr (Or.inr (Or.inr (Or.inr (Or.inr (Or.inr (Or.inr (Or.inl ⟨rfl, c_7, rfl, rfl, c_40, c_41, rfl⟩))))))))))))))))))))) dX11_torsion_80
              · skip
                refine lv_iload hx hb dX11_torsion_55 (lv_at hl 0 rfl) ?_
                refine lv_i2l (v := 0) hx hb dX11_torsion_57 (by decide) ?_
                exact x_lret (w1 := (fun u : Nat => match u with | 0 => (WX cI cJ cB cZ ad) | 1 => (WX cI cJ cB cZ ad) | 2 => (WX cI cJ cB cZ ad) | 3 => (WX cI cJ cB cZ ad) | 4 => (WX cI cJ cB cZ ad (Matrix_minor := 1)) | 5 => (WX cI cJ cB cZ ad (Matrix_minor := 1)) | 6 => (WX cI cJ cB cZ ad (Matrix_minor := 1)) | 7 => (WX cI cJ cB cZ ad (Matrix_minor := 1)) | 8 => (WX cI cJ cB cZ ad (Matrix_minor := 1)) | 9 => (WX cI cJ cB cZ ad (Matrix_minor := 1)) | 10 => (WX cI cJ cB cZ ad (Matrix_minor := 1)) | 11 => (WX cI cJ cB cZ ad (Matrix_minor := 1)) | 12 => (WX cI cJ cB cZ ad) | 13 => (WX cI cJ cB cZ ad) | 14 => (WX cI cJ cB cZ ad (Matrix_minor := 1)) | 15 => (WX cI cJ cB cZ ad (Matrix_minor := 1)) | 16 => (WX cI cJ cB cZ ad (Matrix_minor := 1)) | 17 => (WX cI cJ cB cZ ad (Matrix_minor := 1)) | 18 => (WX cI cJ cB cZ ad (Matrix_minor := 1)) | 19 => (WX cI cJ cB cZ ad (Matrix_minor := 1)) | 20 => (WX cI cJ cB cZ ad (Matrix_minor := 1)) | 21 => (WX cI cJ cB cZ ad (Matrix_minor := 1)) | 22 => (WX cI cJ cB cZ ad) | 23 => (WX cI cJ cB cZ ad) | _ => (WX cI cJ cB cZ ad))) 21 B h hr (Or.inr (Or.inr (Or.inr (Or.inr (Or.inr (Or.inr (Or.inr (Or.inr (Or.inr (Or.inr (Or.inr (Or.inr (Or.inr (Or.inr (Or.inr (Or.inr (Or.inr (Or.inr (Or.inr (Or.inr (Or.inr (Or.inl ⟨rfl, c_7, rfl, rfl, c_40, rfl⟩)))))))))))))))))))))) dX11_torsion_58
            · skip
              obtain rfl : p1 = 4 := e_29.trans (by decide)
              refine x_cVIF (n := 3) (As := [.long 0, .int 4, .int 1]) (rest := []) B h (k183_X0_torsionsOf l D cI cJ cB cZ ad bd) ⟨⟨_, rfl⟩, by decide +kernel, Nat.le_of_ble_eq_true rfl, Nat.le_of_ble_eq_true rfl⟩ gX11_torsion_X0_torsionsOf (show ((WX cI cJ cB cZ ad) : va_W)[8]? = some (_, .inr (0, _)) from rfl) rfl rfl hl.1 rfl (Nat.le_of_ble_eq_true rfl) dX11_torsion_45 ⟨Nat.le_of_ble_eq_true rfl, Nat.le_of_ble_eq_true rfl⟩ (fun r_42 u_42 H locs hp_42 h => ?_)
              obtain rfl := hp_42
              have h : Hp D A s.heap (WX cI cJ cB cZ ad) H locs := h
              refine lv_istore (lv' := [(4, .int 0), (0, .ref (ad 0)), (1, .int 4), (2, .int p2), (3, .int 1)]) hx hb dX11_torsion_48 hl (by decide) rfl (fun ls hl => ?_)
              refine lv_iload_n hx hb dX11_torsion_50 rfl (lv_at hl 3 rfl) ?_
              refine lv_iconst (v := (-1)) hx hb dX11_torsion_51 (by decide) ?_
              refine lv_icmp_ne (tgt := 59) hx hb dX11_torsion_52 (by decide) (fun c_43 => ?_) (fun c_43 => ?_)
              · skip
                refine lv_iload_n hx hb dX11_torsion_59 rfl (lv_at hl 3 rfl) ?_
                refine lv_iload hx hb dX11_torsion_60 (lv_at hl 0 rfl) ?_
                refine lv_icmp_ge (tgt := 77) hx hb dX11_torsion_62 (by decide) (fun c_44 => ?_) (fun c_44 => absurd c_44 (by simp only [Int32.lt_iff_toInt_lt, Int32.le_iff_toInt_le, ← Int32.toInt_inj, show ((-1 : Int32)).toInt = -1 from by decide, show ((0 : Int32)).toInt = 0 from by decide] at c_7 c_43 ⊢; omega))
                refine lv_ldc2 (v := (-2)) hx hb hown (hts (.constantLong RX11 279 (-2)) (by decide +kernel)) dX11_torsion_77 ?_
                exact x_lret (w1 := (fun u : Nat => match u with | 0 => (WX cI cJ cB cZ ad) | 1 => (WX cI cJ cB cZ ad) | 2 => (WX cI cJ cB cZ ad) | 3 => (WX cI cJ cB cZ ad) | 4 => (WX cI cJ cB cZ ad (Matrix_minor := 1)) | 5 => (WX cI cJ cB cZ ad (Matrix_minor := 1)) | 6 => (WX cI cJ cB cZ ad (Matrix_minor := 1)) | 7 => (WX cI cJ cB cZ ad (Matrix_minor := 1)) | 8 => (WX cI cJ cB cZ ad (Matrix_minor := 1)) | 9 => (WX cI cJ cB cZ ad (Matrix_minor := 1)) | 10 => (WX cI cJ cB cZ ad (Matrix_minor := 1)) | 11 => (WX cI cJ cB cZ ad (Matrix_minor := 1)) | 12 => (WX cI cJ cB cZ ad) | 13 => (WX cI cJ cB cZ ad) | 14 => (WX cI cJ cB cZ ad (Matrix_minor := 1)) | 15 => (WX cI cJ cB cZ ad (Matrix_minor := 1)) | 16 => (WX cI cJ cB cZ ad (Matrix_minor := 1)) | 17 => (WX cI cJ cB cZ ad (Matrix_minor := 1)) | 18 => (WX cI cJ cB cZ ad (Matrix_minor := 1)) | 19 => (WX cI cJ cB cZ ad (Matrix_minor := 1)) | 20 => (WX cI cJ cB cZ ad (Matrix_minor := 1)) | 21 => (WX cI cJ cB cZ ad (Matrix_minor := 1)) | 22 => (WX cI cJ cB cZ ad) | 23 => (WX cI cJ cB cZ ad) | _ => (WX cI cJ cB cZ ad))) 22 B h hr (Or.inr (Or.inr (Or.inr (Or.inr (Or.inr (Or.inr (Or.inr (Or.inr (Or.inr (Or.inr (Or.inr (Or.inr (Or.inr (Or.inr (Or.inr (Or.inr (Or.inr (Or.inr (Or.inr (Or.inr (Or.inr (Or.inr (Or.inl ⟨rfl, c_7, rfl, rfl, c_43, c_44, rfl⟩))))))))))))))))))))))) dX11_torsion_80
              · skip
                refine lv_iload hx hb dX11_torsion_55 (lv_at hl 0 rfl) ?_
                refine lv_i2l (v := 0) hx hb dX11_torsion_57 (by decide) ?_
                exact x_lret (w1 := (fun u : Nat => match u with | 0 => (WX cI cJ cB cZ ad) | 1 => (WX cI cJ cB cZ ad) | 2 => (WX cI cJ cB cZ ad) | 3 => (WX cI cJ cB cZ ad) | 4 => (WX cI cJ cB cZ ad (Matrix_minor := 1)) | 5 => (WX cI cJ cB cZ ad (Matrix_minor := 1)) | 6 => (WX cI cJ cB cZ ad (Matrix_minor := 1)) | 7 => (WX cI cJ cB cZ ad (Matrix_minor := 1)) | 8 => (WX cI cJ cB cZ ad (Matrix_minor := 1)) | 9 => (WX cI cJ cB cZ ad (Matrix_minor := 1)) | 10 => (WX cI cJ cB cZ ad (Matrix_minor := 1)) | 11 => (WX cI cJ cB cZ ad (Matrix_minor := 1)) | 12 => (WX cI cJ cB cZ ad) | 13 => (WX cI cJ cB cZ ad) | 14 => (WX cI cJ cB cZ ad (Matrix_minor := 1)) | 15 => (WX cI cJ cB cZ ad (Matrix_minor := 1)) | 16 => (WX cI cJ cB cZ ad (Matrix_minor := 1)) | 17 => (WX cI cJ cB cZ ad (Matrix_minor := 1)) | 18 => (WX cI cJ cB cZ ad (Matrix_minor := 1)) | 19 => (WX cI cJ cB cZ ad (Matrix_minor := 1)) | 20 => (WX cI cJ cB cZ ad (Matrix_minor := 1)) | 21 => (WX cI cJ cB cZ ad (Matrix_minor := 1)) | 22 => (WX cI cJ cB cZ ad) | 23 => (WX cI cJ cB cZ ad) | _ => (WX cI cJ cB cZ ad))) 23 B h hr (Or.inr (Or.inr (Or.inr (Or.inr (Or.inr (Or.inr (Or.inr (Or.inr (Or.inr (Or.inr (Or.inr (Or.inr (Or.inr (Or.inr (Or.inr (Or.inr (Or.inr (Or.inr (Or.inr (Or.inr (Or.inr (Or.inr (Or.inr (Or.inl ⟨rfl, c_7, rfl, rfl, c_43, rfl⟩)))))))))))))))))))))))) dX11_torsion_58
        · skip
          refine lv_ldc2 (v := (-1)) hx hb hown (hts (.constantLong RX11 242 (-1)) (by decide +kernel)) dX11_torsion_21 ?_
          exact x_lret (w1 := (fun u : Nat => match u with | 0 => (WX cI cJ cB cZ ad) | 1 => (WX cI cJ cB cZ ad) | 2 => (WX cI cJ cB cZ ad) | 3 => (WX cI cJ cB cZ ad) | 4 => (WX cI cJ cB cZ ad (Matrix_minor := 1)) | 5 => (WX cI cJ cB cZ ad (Matrix_minor := 1)) | 6 => (WX cI cJ cB cZ ad (Matrix_minor := 1)) | 7 => (WX cI cJ cB cZ ad (Matrix_minor := 1)) | 8 => (WX cI cJ cB cZ ad (Matrix_minor := 1)) | 9 => (WX cI cJ cB cZ ad (Matrix_minor := 1)) | 10 => (WX cI cJ cB cZ ad (Matrix_minor := 1)) | 11 => (WX cI cJ cB cZ ad (Matrix_minor := 1)) | 12 => (WX cI cJ cB cZ ad) | 13 => (WX cI cJ cB cZ ad) | 14 => (WX cI cJ cB cZ ad (Matrix_minor := 1)) | 15 => (WX cI cJ cB cZ ad (Matrix_minor := 1)) | 16 => (WX cI cJ cB cZ ad (Matrix_minor := 1)) | 17 => (WX cI cJ cB cZ ad (Matrix_minor := 1)) | 18 => (WX cI cJ cB cZ ad (Matrix_minor := 1)) | 19 => (WX cI cJ cB cZ ad (Matrix_minor := 1)) | 20 => (WX cI cJ cB cZ ad (Matrix_minor := 1)) | 21 => (WX cI cJ cB cZ ad (Matrix_minor := 1)) | 22 => (WX cI cJ cB cZ ad) | 23 => (WX cI cJ cB cZ ad) | _ => (WX cI cJ cB cZ ad))) 24 B h hr (Or.inr (Or.inr (Or.inr (Or.inr (Or.inr (Or.inr (Or.inr (Or.inr (Or.inr (Or.inr (Or.inr (Or.inr (Or.inr (Or.inr (Or.inr (Or.inr (Or.inr (Or.inr (Or.inr (Or.inr (Or.inr (Or.inr (Or.inr (Or.inr (⟨rfl, k_1_0, k_1_1, c_5, c_6, c_7, rfl⟩))))))))))))))))))))))))) dX11_torsion_24
