set_option maxHeartbeats 4000000 in
set_option maxRecDepth 100000 in
theorem k126_X12_in (l : Launch) (D : va_G) (cI cJ cB cZ : ClassId) (ad bd : Nat → Nat) (p0 : Int32) : MetI l yX12_in wsX12_in 0 0 0 0 D (TYS cI cJ cB cZ) [] [.int p0, .int 0, .int 1] (fun (r : Int32) (u : Nat) => (u = 0 ∧ (p0 < 0) ∧ r = 0) ∨ (u = 1 ∧ (¬ p0 < 0) ∧ (1 < p0) ∧ r = 0) ∨ (u = 2 ∧ (¬ p0 < 0) ∧ (¬ 1 < p0) ∧ r = 1)) (fun _ => []) := by
  refine x_startI (ty := .boolean) (cc := cX12_in) (by decide) rfl (Nat.le_of_ble_eq_true rfl) ?_
  intro p e s m args below meth c A ls B hr hnm h hl
  have hx := B.1.1
  have hb := B.1.2.1
  have hml := B.1.2.2.1
  have hts := B.1.2.2.2.2
  have hown : s.vm.findClass RX12 = some m.cls := B.1.2.2.2.1
  have hl : lv_has ls 3 [(0, .int p0), (1, .int 0), (2, .int 1)] := hl
  refine lv_iload_n hx hb dX12_in_0 rfl (lv_at hl 0 rfl) ?_
  refine lv_iload_n hx hb dX12_in_1 rfl (lv_at hl 1 rfl) ?_
  refine lv_icmp_lt (tgt := 14) hx hb dX12_in_2 (by decide) (fun c_1 => ?_) (fun c_1 => ?_)
  · skip
    refine lv_iconst (v := 0) hx hb dX12_in_14 (by decide) ?_
    exact x_iret (w1 := (fun _ => [])) 0 B h hr rfl (Or.inl ⟨rfl, c_1, rfl⟩) dX12_in_15
  · skip
    refine lv_iload_n hx hb dX12_in_5 rfl (lv_at hl 0 rfl) ?_
    refine lv_iload_n hx hb dX12_in_6 rfl (lv_at hl 2 rfl) ?_
    refine lv_icmp_gt (tgt := 14) hx hb dX12_in_7 (by decide) (fun c_2 => ?_) (fun c_2 => ?_)
    · skip
      refine lv_iconst (v := 0) hx hb dX12_in_14 (by decide) ?_
      exact x_iret (w1 := (fun _ => [])) 1 B h hr rfl (Or.inr (Or.inl ⟨rfl, c_1, c_2, rfl⟩)) dX12_in_15
    · skip
      refine lv_iconst (v := 1) hx hb dX12_in_10 (by decide) ?_
      refine lv_goto (tgt := 15) hx hb dX12_in_11 (by decide) ?_
      exact x_iret (w1 := (fun _ => [])) 2 B h hr rfl (Or.inr (Or.inr (⟨rfl, c_1, c_2, rfl⟩))) dX12_in_15
set_option maxHeartbeats 4000000 in
set_option maxRecDepth 100000 in
theorem k127_X12_takes (l : Launch) (D : va_G) (cI cJ cB cZ : ClassId) (ad bd : Nat → Nat) : MetV l yX12_takes wsX12_takes 0 0 0 0 D (TYS cI cJ cB cZ) (WM cI cJ cB cZ bd) [.ref (bd 0), .int 0] (fun _ : Unit => True) (fun _ => (WM cI cJ cB cZ bd)) := by
  refine x_startV (ty := .int) (cc := cX12_takes) (by decide) rfl (Nat.le_of_ble_eq_true rfl) ?_
  intro p e s m args below meth c A ls B hr hnm h hl
  have hx := B.1.1
  have hb := B.1.2.1
  have hml := B.1.2.2.1
  have hts := B.1.2.2.2.2
  have hown : s.vm.findClass RX12 = some m.cls := B.1.2.2.2.1
  have hin12 : ∀ w ∈ u_ws RX12 TX12 31, w ∈ wsX12_takes := by decide +kernel
  have hl : lv_has ls 3 [(0, .ref (bd 0)), (1, .int 0)] := hl
  refine lv_iconst (v := 0) hx hb dX12_takes_0 (by decide) ?_
  refine lv_istore_n (lv' := [(2, .int 0), (0, .ref (bd 0)), (1, .int 0)]) hx hb dX12_takes_1 rfl hl (by decide) rfl (fun ls hl => ?_)
  refine lv_iload_n hx hb dX12_takes_2 rfl (lv_at hl 0 rfl) ?_
  refine lv_aload_n hx hb dX12_takes_3 rfl (lv_at hl 1 rfl) ?_
  refine x_get (ci := 12) (C := RX12) (T := TX12) (N := 31) (v := .int 0) B h hin12 0 5 rfl rfl (by decide) (by decide +kernel) rfl dX12_takes_4 ?_
  refine lv_icmp_ge (tgt := 48) hx hb dX12_takes_7 (by decide) (fun c_1 => ?_) (fun c_1 => absurd c_1 (by decide))
  exact x_vret (w1 := (fun _ => (WM cI cJ cB cZ bd))) () B h hr trivial dX12_takes_48
set_option maxHeartbeats 4000000 in
set_option maxRecDepth 100000 in
theorem k128_X12_takenOf (l : Launch) (D : va_G) (cI cJ cB cZ : ClassId) (ad bd : Nat → Nat) : MetI l yX12_takenOf wsX12_takenOf 0 0 0 0 D (TYS cI cJ cB cZ) (WM cI cJ cB cZ bd) [.ref (bd 0), .int 0] (fun (r : Int32) (_ : Unit) => r = 0) (fun _ => (WM cI cJ cB cZ bd)) := by
  refine x_startI (ty := .int) (cc := cX12_takenOf) (by decide) rfl (Nat.le_of_ble_eq_true rfl) ?_
  intro p e s m args below meth c A ls B hr hnm h hl
  have hx := B.1.1
  have hb := B.1.2.1
  have hml := B.1.2.2.1
  have hts := B.1.2.2.2.2
  have hown : s.vm.findClass RX12 = some m.cls := B.1.2.2.2.1
  have hin12 : ∀ w ∈ u_ws RX12 TX12 31, w ∈ wsX12_takenOf := by decide +kernel
  have hl : lv_has ls 4 [(0, .ref (bd 0)), (1, .int 0)] := hl
  refine lv_iconst (v := 0) hx hb dX12_takenOf_0 (by decide) ?_
  refine lv_istore_n (lv' := [(2, .int 0), (0, .ref (bd 0)), (1, .int 0)]) hx hb dX12_takenOf_1 rfl hl (by decide) rfl (fun ls hl => ?_)
  refine lv_iconst (v := 0) hx hb dX12_takenOf_2 (by decide) ?_
  refine lv_istore_n (lv' := [(3, .int 0), (2, .int 0), (0, .ref (bd 0)), (1, .int 0)]) hx hb dX12_takenOf_3 rfl hl (by decide) rfl (fun ls hl => ?_)
  refine lv_iload_n hx hb dX12_takenOf_4 rfl (lv_at hl 0 rfl) ?_
  refine lv_aload_n hx hb dX12_takenOf_5 rfl (lv_at hl 2 rfl) ?_
  refine x_get (ci := 12) (C := RX12) (T := TX12) (N := 31) (v := .int 0) B h hin12 0 5 rfl rfl (by decide) (by decide +kernel) rfl dX12_takenOf_6 ?_
  refine lv_icmp_ge (tgt := 47) hx hb dX12_takenOf_9 (by decide) (fun c_1 => ?_) (fun c_1 => absurd c_1 (by decide))
  refine lv_iload_n hx hb dX12_takenOf_47 rfl (lv_at hl 1 rfl) ?_
  exact x_iret (w1 := (fun _ => (WM cI cJ cB cZ bd))) () B h hr rfl rfl dX12_takenOf_48
set_option maxHeartbeats 4000000 in
set_option maxRecDepth 100000 in
theorem k129_X12_in (l : Launch) (D : va_G) (cI cJ cB cZ : ClassId) (ad bd : Nat → Nat) : MetI l yX12_in wsX12_in 0 0 0 0 D (TYS cI cJ cB cZ) [] [.int 0, .int 1, .int 4] (fun (r : Int32) (_ : Unit) => r = 0) (fun _ => []) := by
  refine x_startI (ty := .boolean) (cc := cX12_in) (by decide) rfl (Nat.le_of_ble_eq_true rfl) ?_
  intro p e s m args below meth c A ls B hr hnm h hl
  have hx := B.1.1
  have hb := B.1.2.1
  have hml := B.1.2.2.1
  have hts := B.1.2.2.2.2
  have hown : s.vm.findClass RX12 = some m.cls := B.1.2.2.2.1
  have hl : lv_has ls 3 [(0, .int 0), (1, .int 1), (2, .int 4)] := hl
  refine lv_iload_n hx hb dX12_in_0 rfl (lv_at hl 0 rfl) ?_
  refine lv_iload_n hx hb dX12_in_1 rfl (lv_at hl 1 rfl) ?_
  refine lv_icmp_lt (tgt := 14) hx hb dX12_in_2 (by decide) (fun c_1 => ?_) (fun c_1 => absurd c_1 (by decide))
  refine lv_iconst (v := 0) hx hb dX12_in_14 (by decide) ?_
  exact x_iret (w1 := (fun _ => [])) () B h hr rfl rfl dX12_in_15
set_option maxHeartbeats 4000000 in
set_option maxRecDepth 100000 in
theorem k130_X12_rankOf (l : Launch) (D : va_G) (cI cJ cB cZ : ClassId) (ad bd : Nat → Nat) : MetI l yX12_rankOf wsX12_rankOf 1 22 0 0 D (TYS cI cJ cB cZ) (WM cI cJ cB cZ bd) [.ref (bd 0), .int 0, .int 0] (fun (r : Int32) (_ : Unit) => r = 0) (fun _ => (WM cI cJ cB cZ bd)) := by
  refine x_startI (ty := .int) (cc := cX12_rankOf) (by decide) rfl (Nat.le_of_ble_eq_true rfl) ?_
  intro p e s m args below meth c A ls B hr hnm h hl
  have hx := B.1.1
  have hb := B.1.2.1
  have hml := B.1.2.2.1
  have hts := B.1.2.2.2.2
  have hown : s.vm.findClass RX12 = some m.cls := B.1.2.2.2.1
  have hl : lv_has ls 3 [(0, .ref (bd 0)), (1, .int 0), (2, .int 0)] := hl
  refine lv_iload_n hx hb dX12_rankOf_0 rfl (lv_at hl 1 rfl) ?_
  refine lv_iconst (v := 1) hx hb dX12_rankOf_1 (by decide) ?_
  refine lv_iconst (v := 4) hx hb dX12_rankOf_2 (by decide) ?_
  refine x_cSIE (n := 3) (As := [.int 0, .int 1, .int 4]) (rest := []) B h (k129_X12_in l D cI cJ cB cZ ad bd) ⟨⟨_, rfl⟩, by decide +kernel, Nat.le_of_ble_eq_true rfl, Nat.le_of_ble_eq_true rfl⟩ gX12_rankOf_X12_in rfl hl.1 rfl (Nat.le_of_ble_eq_true rfl) dX12_rankOf_3 ⟨Nat.le_of_ble_eq_true rfl, Nat.le_of_ble_eq_true rfl⟩ (fun r_1 u_1 H locs hp_1 h => ?_)
  obtain rfl := hp_1
  have h : Hp D A s.heap (WM cI cJ cB cZ bd) H locs := h
  refine lv_if_ne (tgt := 11) hx hb dX12_rankOf_6 (by decide) (fun c_2 => absurd c_2 (by decide)) (fun c_2 => ?_)
  refine lv_iconst (v := 0) hx hb dX12_rankOf_9 (by decide) ?_
  exact x_iret (w1 := (fun _ => (WM cI cJ cB cZ bd))) () B h hr rfl rfl dX12_rankOf_10
set_option maxHeartbeats 4000000 in
set_option maxRecDepth 100000 in
theorem k131_X12_in (l : Launch) (D : va_G) (cI cJ cB cZ : ClassId) (ad bd : Nat → Nat) : MetI l yX12_in wsX12_in 0 0 0 0 D (TYS cI cJ cB cZ) [] [.int 1, .int 1, .int 4] (fun (r : Int32) (_ : Unit) => r = 1) (fun _ => []) := by
  refine x_startI (ty := .boolean) (cc := cX12_in) (by decide) rfl (Nat.le_of_ble_eq_true rfl) ?_
  intro p e s m args below meth c A ls B hr hnm h hl
  have hx := B.1.1
  have hb := B.1.2.1
  have hml := B.1.2.2.1
  have hts := B.1.2.2.2.2
  have hown : s.vm.findClass RX12 = some m.cls := B.1.2.2.2.1
  have hl : lv_has ls 3 [(0, .int 1), (1, .int 1), (2, .int 4)] := hl
  refine lv_iload_n hx hb dX12_in_0 rfl (lv_at hl 0 rfl) ?_
  refine lv_iload_n hx hb dX12_in_1 rfl (lv_at hl 1 rfl) ?_
  refine lv_icmp_lt (tgt := 14) hx hb dX12_in_2 (by decide) (fun c_1 => absurd c_1 (by decide)) (fun c_1 => ?_)
  refine lv_iload_n hx hb dX12_in_5 rfl (lv_at hl 0 rfl) ?_
  refine lv_iload_n hx hb dX12_in_6 rfl (lv_at hl 2 rfl) ?_
  refine lv_icmp_gt (tgt := 14) hx hb dX12_in_7 (by decide) (fun c_2 => absurd c_2 (by decide)) (fun c_2 => ?_)
  refine lv_iconst (v := 1) hx hb dX12_in_10 (by decide) ?_
  refine lv_goto (tgt := 15) hx hb dX12_in_11 (by decide) ?_
  exact x_iret (w1 := (fun _ => [])) () B h hr rfl rfl dX12_in_15
set_option maxHeartbeats 4000000 in
set_option maxRecDepth 100000 in
theorem k132_X12_takenOf (l : Launch) (D : va_G) (cI cJ cB cZ : ClassId) (ad bd : Nat → Nat) : MetI l yX12_takenOf wsX12_takenOf 0 0 0 0 D (TYS cI cJ cB cZ) (WM cI cJ cB cZ bd) [.ref (bd 0), .int 1] (fun (r : Int32) (_ : Unit) => r = 0) (fun _ => (WM cI cJ cB cZ bd)) := by
  refine x_startI (ty := .int) (cc := cX12_takenOf) (by decide) rfl (Nat.le_of_ble_eq_true rfl) ?_
  intro p e s m args below meth c A ls B hr hnm h hl
  have hx := B.1.1
  have hb := B.1.2.1
  have hml := B.1.2.2.1
  have hts := B.1.2.2.2.2
  have hown : s.vm.findClass RX12 = some m.cls := B.1.2.2.2.1
  have hin12 : ∀ w ∈ u_ws RX12 TX12 31, w ∈ wsX12_takenOf := by decide +kernel
  have hl : lv_has ls 4 [(0, .ref (bd 0)), (1, .int 1)] := hl
  refine lv_iconst (v := 0) hx hb dX12_takenOf_0 (by decide) ?_
  refine lv_istore_n (lv' := [(2, .int 0), (0, .ref (bd 0)), (1, .int 1)]) hx hb dX12_takenOf_1 rfl hl (by decide) rfl (fun ls hl => ?_)
  refine lv_iconst (v := 0) hx hb dX12_takenOf_2 (by decide) ?_
  refine lv_istore_n (lv' := [(3, .int 0), (2, .int 0), (0, .ref (bd 0)), (1, .int 1)]) hx hb dX12_takenOf_3 rfl hl (by decide) rfl (fun ls hl => ?_)
  refine lv_iload_n hx hb dX12_takenOf_4 rfl (lv_at hl 0 rfl) ?_
  refine lv_aload_n hx hb dX12_takenOf_5 rfl (lv_at hl 2 rfl) ?_
  refine x_get (ci := 12) (C := RX12) (T := TX12) (N := 31) (v := .int 0) B h hin12 0 5 rfl rfl (by decide) (by decide +kernel) rfl dX12_takenOf_6 ?_
  refine lv_icmp_ge (tgt := 47) hx hb dX12_takenOf_9 (by decide) (fun c_1 => ?_) (fun c_1 => absurd c_1 (by decide))
  refine lv_iload_n hx hb dX12_takenOf_47 rfl (lv_at hl 1 rfl) ?_
  exact x_iret (w1 := (fun _ => (WM cI cJ cB cZ bd))) () B h hr rfl rfl dX12_takenOf_48
set_option maxHeartbeats 4000000 in
set_option maxRecDepth 100000 in
theorem k133_X12_laysTable (l : Launch) (D : va_G) (cI cJ cB cZ : ClassId) (ad bd : Nat → Nat) : MetV l yX12_laysTable wsX12_laysTable 1 23 0 0 D (TYS cI cJ cB cZ) (WM cI cJ cB cZ bd) [.ref (bd 0), .int 1, .int 0] (fun _ : Unit => True) (fun _ => (WM cI cJ cB cZ bd)) := by
  refine x_startV (ty := .int) (cc := cX12_laysTable) (by decide) rfl (Nat.le_of_ble_eq_true rfl) ?_
  intro p e s m args below meth c A ls B hr hnm h hl
  have hx := B.1.1
  have hb := B.1.2.1
  have hml := B.1.2.2.1
  have hts := B.1.2.2.2.2
  have hown : s.vm.findClass RX12 = some m.cls := B.1.2.2.2.1
  have hin12 : ∀ w ∈ u_ws RX12 TX12 31, w ∈ wsX12_laysTable := by decide +kernel
  have hl : lv_has ls 7 [(0, .ref (bd 0)), (1, .int 1), (2, .int 0)] := hl
  refine lv_aload_n hx hb dX12_laysTable_0 rfl (lv_at hl 0 rfl) ?_
  refine lv_aload_n hx hb dX12_laysTable_1 rfl (lv_at hl 0 rfl) ?_
  refine lv_iload_n hx hb dX12_laysTable_2 rfl (lv_at hl 1 rfl) ?_
  refine x_cVIF (n := 1) (As := [.int 1]) (rest := [.ref (bd 0)]) B h (k132_X12_takenOf l D cI cJ cB cZ ad bd) ⟨⟨_, rfl⟩, by decide +kernel, Nat.le_of_ble_eq_true rfl, Nat.le_of_ble_eq_true rfl⟩ gX12_laysTable_X12_takenOf (show ((WM cI cJ cB cZ bd) : va_W)[0]? = some (_, .inr (12, _)) from rfl) rfl rfl hl.1 rfl (Nat.le_of_ble_eq_true rfl) dX12_laysTable_3 ⟨Nat.le_of_ble_eq_true rfl, Nat.le_of_ble_eq_true rfl⟩ (fun r_1 u_1 H locs hp_1 h => ?_)
  obtain rfl := hp_1
  have h : Hp D A s.heap (WM cI cJ cB cZ bd) H locs := h
  refine x_put (ci := 12) (C := RX12) (T := TX12) (N := 31) (v := .int 0) (ty := .int) B h hin12 tyX12 tyX12_ok nmX12 0 23 rfl rfl (by decide) (by decide +kernel) rfl rfl rfl rfl (Nat.le_of_ble_eq_true rfl) dX12_laysTable_6 (fun H locs h => ?_)
  have h : Hp D A s.heap (WM cI cJ cB cZ bd) H locs := h
  refine lv_aload_n hx hb dX12_laysTable_9 rfl (lv_at hl 0 rfl) ?_
  refine lv_aload_n hx hb dX12_laysTable_10 rfl (lv_at hl 0 rfl) ?_
  refine lv_iload_n hx hb dX12_laysTable_11 rfl (lv_at hl 1 rfl) ?_
  refine lv_iconst (v := 1) hx hb dX12_laysTable_12 (by decide) ?_
  refine lv_isub hx hb dX12_laysTable_13 ?_
  refine lv_topi (fun v_2 ev_2 => ?_)
  obtain rfl : v_2 = 0 := ev_2.trans (by decide)
  refine x_cVIF (n := 1) (As := [.int 0]) (rest := [.ref (bd 0)]) B h (k128_X12_takenOf l D cI cJ cB cZ ad bd) ⟨⟨_, rfl⟩, by decide +kernel, Nat.le_of_ble_eq_true rfl, Nat.le_of_ble_eq_true rfl⟩ gX12_laysTable_X12_takenOf (show ((WM cI cJ cB cZ bd) : va_W)[0]? = some (_, .inr (12, _)) from rfl) rfl rfl hl.1 rfl (Nat.le_of_ble_eq_true rfl) dX12_laysTable_14 ⟨Nat.le_of_ble_eq_true rfl, Nat.le_of_ble_eq_true rfl⟩ (fun r_3 u_3 H locs hp_3 h => ?_)
  obtain rfl := hp_3
  have h : Hp D A s.heap (WM cI cJ cB cZ bd) H locs := h
  refine x_put (ci := 12) (C := RX12) (T := TX12) (N := 31) (v := .int 0) (ty := .int) B h hin12 tyX12 tyX12_ok nmX12 0 24 rfl rfl (by decide) (by decide +kernel) rfl rfl rfl rfl (Nat.le_of_ble_eq_true rfl) dX12_laysTable_17 (fun H locs h => ?_)
  have h : Hp D A s.heap (WM cI cJ cB cZ bd) H locs := h
  refine lv_iconst (v := 0) hx hb dX12_laysTable_20 (by decide) ?_
  refine lv_istore_n (lv' := [(3, .int 0), (0, .ref (bd 0)), (1, .int 1), (2, .int 0)]) hx hb dX12_laysTable_21 rfl hl (by decide) rfl (fun ls hl => ?_)
  refine lv_iconst (v := 0) hx hb dX12_laysTable_22 (by decide) ?_
  refine lv_istore (lv' := [(4, .int 0), (3, .int 0), (0, .ref (bd 0)), (1, .int 1), (2, .int 0)]) hx hb dX12_laysTable_23 hl (by decide) rfl (fun ls hl => ?_)
  refine lv_iload hx hb dX12_laysTable_25 (lv_at hl 0 rfl) ?_
  refine lv_aload_n hx hb dX12_laysTable_27 rfl (lv_at hl 2 rfl) ?_
  refine x_get (ci := 12) (C := RX12) (T := TX12) (N := 31) (v := .int 0) B h hin12 0 5 rfl rfl (by decide) (by decide +kernel) rfl dX12_laysTable_28 ?_
  refine lv_icmp_ge (tgt := 164) hx hb dX12_laysTable_31 (by decide) (fun c_4 => ?_) (fun c_4 => absurd c_4 (by decide))
  exact x_vret (w1 := (fun _ => (WM cI cJ cB cZ bd))) () B h hr trivial dX12_laysTable_164
set_option maxHeartbeats 4000000 in
set_option maxRecDepth 100000 in
theorem k134_X12_laysSteps (l : Launch) (D : va_G) (cI cJ cB cZ : ClassId) (ad bd : Nat → Nat) : MetI l yX12_laysSteps wsX12_laysSteps 0 0 0 0 D (TYS cI cJ cB cZ) (WM cI cJ cB cZ bd) [.ref (bd 0)] (fun (r : Int32) (_ : Unit) => r = 0) (fun _ => (WM cI cJ cB cZ bd)) := by
  refine x_startI (ty := .int) (cc := cX12_laysSteps) (by decide) rfl (Nat.le_of_ble_eq_true rfl) ?_
  intro p e s m args below meth c A ls B hr hnm h hl
  have hx := B.1.1
  have hb := B.1.2.1
  have hml := B.1.2.2.1
  have hts := B.1.2.2.2.2
  have hown : s.vm.findClass RX12 = some m.cls := B.1.2.2.2.1
  have hin12 : ∀ w ∈ u_ws RX12 TX12 31, w ∈ wsX12_laysSteps := by decide +kernel
  have hl : lv_has ls 3 [(0, .ref (bd 0))] := hl
  refine lv_iconst (v := 0) hx hb dX12_laysSteps_0 (by decide) ?_
  refine lv_istore_n (lv' := [(1, .int 0), (0, .ref (bd 0))]) hx hb dX12_laysSteps_1 rfl hl (by decide) rfl (fun ls hl => ?_)
  refine lv_iload_n hx hb dX12_laysSteps_2 rfl (lv_at hl 0 rfl) ?_
  refine lv_aload_n hx hb dX12_laysSteps_3 rfl (lv_at hl 1 rfl) ?_
  refine x_get (ci := 12) (C := RX12) (T := TX12) (N := 31) (v := .int 0) B h hin12 0 23 rfl rfl (by decide) (by decide +kernel) rfl dX12_laysSteps_4 ?_
  refine lv_icmp_ge (tgt := 79) hx hb dX12_laysSteps_7 (by decide) (fun c_1 => ?_) (fun c_1 => absurd c_1 (by decide))
  refine lv_iload_n hx hb dX12_laysSteps_79 rfl (lv_at hl 0 rfl) ?_
  exact x_iret (w1 := (fun _ => (WM cI cJ cB cZ bd))) () B h hr rfl rfl dX12_laysSteps_80
set_option maxHeartbeats 4000000 in
set_option maxRecDepth 100000 in
theorem k135_X12_rankOf (l : Launch) (D : va_G) (cI cJ cB cZ : ClassId) (ad bd : Nat → Nat) : MetI l yX12_rankOf wsX12_rankOf 2 49 0 0 D (TYS cI cJ cB cZ) (WM cI cJ cB cZ bd) [.ref (bd 0), .int 1, .int 0] (fun (r : Int32) (_ : Unit) => r = 0) (fun _ => (WM cI cJ cB cZ bd)) := by
  refine x_startI (ty := .int) (cc := cX12_rankOf) (by decide) rfl (Nat.le_of_ble_eq_true rfl) ?_
  intro p e s m args below meth c A ls B hr hnm h hl
  have hx := B.1.1
  have hb := B.1.2.1
  have hml := B.1.2.2.1
  have hts := B.1.2.2.2.2
  have hown : s.vm.findClass RX12 = some m.cls := B.1.2.2.2.1
  have hl : lv_has ls 3 [(0, .ref (bd 0)), (1, .int 1), (2, .int 0)] := hl
  refine lv_iload_n hx hb dX12_rankOf_0 rfl (lv_at hl 1 rfl) ?_
  refine lv_iconst (v := 1) hx hb dX12_rankOf_1 (by decide) ?_
  refine lv_iconst (v := 4) hx hb dX12_rankOf_2 (by decide) ?_
  refine x_cSIE (n := 3) (As := [.int 1, .int 1, .int 4]) (rest := []) B h (k131_X12_in l D cI cJ cB cZ ad bd) ⟨⟨_, rfl⟩, by decide +kernel, Nat.le_of_ble_eq_true rfl, Nat.le_of_ble_eq_true rfl⟩ gX12_rankOf_X12_in rfl hl.1 rfl (Nat.le_of_ble_eq_true rfl) dX12_rankOf_3 ⟨Nat.le_of_ble_eq_true rfl, Nat.le_of_ble_eq_true rfl⟩ (fun r_1 u_1 H locs hp_1 h => ?_)
  obtain rfl := hp_1
  have h : Hp D A s.heap (WM cI cJ cB cZ bd) H locs := h
  refine lv_if_ne (tgt := 11) hx hb dX12_rankOf_6 (by decide) (fun c_2 => ?_) (fun c_2 => absurd c_2 (by decide))
  refine lv_aload_n hx hb dX12_rankOf_11 rfl (lv_at hl 0 rfl) ?_
  refine lv_iload_n hx hb dX12_rankOf_12 rfl (lv_at hl 1 rfl) ?_
  refine lv_iload_n hx hb dX12_rankOf_13 rfl (lv_at hl 2 rfl) ?_
  refine x_cVVF (n := 2) (As := [.int 1, .int 0]) (rest := []) B h (k133_X12_laysTable l D cI cJ cB cZ ad bd) ⟨⟨_, rfl⟩, by decide +kernel, Nat.le_of_ble_eq_true rfl, Nat.le_of_ble_eq_true rfl⟩ gX12_rankOf_X12_laysTable (show ((WM cI cJ cB cZ bd) : va_W)[0]? = some (_, .inr (12, _)) from rfl) rfl rfl hl.1 rfl (Nat.le_of_ble_eq_true rfl) dX12_rankOf_14 ⟨Nat.le_of_ble_eq_true rfl, Nat.le_of_ble_eq_true rfl⟩ (fun u_3 H locs hp_3 h => ?_)
  have h : Hp D A s.heap (WM cI cJ cB cZ bd) H locs := h
  refine lv_aload_n hx hb dX12_rankOf_17 rfl (lv_at hl 0 rfl) ?_
  refine x_cVIF (n := 0) (As := []) (rest := []) B h (k134_X12_laysSteps l D cI cJ cB cZ ad bd) ⟨⟨_, rfl⟩, by decide +kernel, Nat.le_of_ble_eq_true rfl, Nat.le_of_ble_eq_true rfl⟩ gX12_rankOf_X12_laysSteps (show ((WM cI cJ cB cZ bd) : va_W)[0]? = some (_, .inr (12, _)) from rfl) rfl rfl hl.1 rfl (Nat.le_of_ble_eq_true rfl) dX12_rankOf_18 ⟨Nat.le_of_ble_eq_true rfl, Nat.le_of_ble_eq_true rfl⟩ (fun r_4 u_4 H locs hp_4 h => ?_)
  obtain rfl := hp_4
  have h : Hp D A s.heap (WM cI cJ cB cZ bd) H locs := h
  exact x_iret (w1 := (fun _ => (WM cI cJ cB cZ bd))) () B h hr rfl rfl dX12_rankOf_21
set_option maxHeartbeats 4000000 in
set_option maxRecDepth 100000 in
theorem k136_X12_bettiTaken (l : Launch) (D : va_G) (cI cJ cB cZ : ClassId) (ad bd : Nat → Nat) : MetI l yX12_bettiTaken wsX12_bettiTaken 3 71 0 0 D (TYS cI cJ cB cZ) (WM cI cJ cB cZ bd) [.ref (bd 0), .int 0, .int 0] (fun (r : Int32) (_ : Unit) => r = 0) (fun _ => (WM cI cJ cB cZ bd)) := by
  refine x_startI (ty := .int) (cc := cX12_bettiTaken) (by decide) rfl (Nat.le_of_ble_eq_true rfl) ?_
  intro p e s m args below meth c A ls B hr hnm h hl
  have hx := B.1.1
  have hb := B.1.2.1
  have hml := B.1.2.2.1
  have hts := B.1.2.2.2.2
  have hown : s.vm.findClass RX12 = some m.cls := B.1.2.2.2.1
  have hl : lv_has ls 3 [(0, .ref (bd 0)), (1, .int 0), (2, .int 0)] := hl
  refine lv_aload_n hx hb dX12_bettiTaken_0 rfl (lv_at hl 0 rfl) ?_
  refine lv_iload_n hx hb dX12_bettiTaken_1 rfl (lv_at hl 1 rfl) ?_
  refine x_cVIF (n := 1) (As := [.int 0]) (rest := []) B h (k128_X12_takenOf l D cI cJ cB cZ ad bd) ⟨⟨_, rfl⟩, by decide +kernel, Nat.le_of_ble_eq_true rfl, Nat.le_of_ble_eq_true rfl⟩ gX12_bettiTaken_X12_takenOf (show ((WM cI cJ cB cZ bd) : va_W)[0]? = some (_, .inr (12, _)) from rfl) rfl rfl hl.1 rfl (Nat.le_of_ble_eq_true rfl) dX12_bettiTaken_2 ⟨Nat.le_of_ble_eq_true rfl, Nat.le_of_ble_eq_true rfl⟩ (fun r_1 u_1 H locs hp_1 h => ?_)
  obtain rfl := hp_1
  have h : Hp D A s.heap (WM cI cJ cB cZ bd) H locs := h
  refine lv_aload_n hx hb dX12_bettiTaken_5 rfl (lv_at hl 0 rfl) ?_
  refine lv_iload_n hx hb dX12_bettiTaken_6 rfl (lv_at hl 1 rfl) ?_
  refine lv_iload_n hx hb dX12_bettiTaken_7 rfl (lv_at hl 2 rfl) ?_
  refine x_cVIF (n := 2) (As := [.int 0, .int 0]) (rest := [.int 0]) B h (k130_X12_rankOf l D cI cJ cB cZ ad bd) ⟨⟨_, rfl⟩, by decide +kernel, Nat.le_of_ble_eq_true rfl, Nat.le_of_ble_eq_true rfl⟩ gX12_bettiTaken_X12_rankOf (show ((WM cI cJ cB cZ bd) : va_W)[0]? = some (_, .inr (12, _)) from rfl) rfl rfl hl.1 rfl (Nat.le_of_ble_eq_true rfl) dX12_bettiTaken_8 ⟨Nat.le_of_ble_eq_true rfl, Nat.le_of_ble_eq_true rfl⟩ (fun r_2 u_2 H locs hp_2 h => ?_)
  obtain rfl := hp_2
  have h : Hp D A s.heap (WM cI cJ cB cZ bd) H locs := h
  refine lv_isub hx hb dX12_bettiTaken_11 ?_
  refine lv_topi (fun v_3 ev_3 => ?_)
  obtain rfl : v_3 = 0 := ev_3.trans (by decide)
  refine lv_aload_n hx hb dX12_bettiTaken_12 rfl (lv_at hl 0 rfl) ?_
  refine lv_iload_n hx hb dX12_bettiTaken_13 rfl (lv_at hl 1 rfl) ?_
  refine lv_iconst (v := 1) hx hb dX12_bettiTaken_14 (by decide) ?_
  refine lv_iadd hx hb dX12_bettiTaken_15 ?_
  refine lv_topi (fun v_4 ev_4 => ?_)
  obtain rfl : v_4 = 1 := ev_4.trans (by decide)
  refine lv_iload_n hx hb dX12_bettiTaken_16 rfl (lv_at hl 2 rfl) ?_
  refine x_cVIF (n := 2) (As := [.int 1, .int 0]) (rest := [.int 0]) B h (k135_X12_rankOf l D cI cJ cB cZ ad bd) ⟨⟨_, rfl⟩, by decide +kernel, Nat.le_of_ble_eq_true rfl, Nat.le_of_ble_eq_true rfl⟩ gX12_bettiTaken_X12_rankOf (show ((WM cI cJ cB cZ bd) : va_W)[0]? = some (_, .inr (12, _)) from rfl) rfl rfl hl.1 rfl (Nat.le_of_ble_eq_true rfl) dX12_bettiTaken_17 ⟨Nat.le_of_ble_eq_true rfl, Nat.le_of_ble_eq_true rfl⟩ (fun r_5 u_5 H locs hp_5 h => ?_)
  obtain rfl := hp_5
  have h : Hp D A s.heap (WM cI cJ cB cZ bd) H locs := h
  refine lv_isub hx hb dX12_bettiTaken_20 ?_
  refine lv_topi (fun v_6 ev_6 => ?_)
  obtain rfl : v_6 = 0 := ev_6.trans (by decide)
  exact x_iret (w1 := (fun _ => (WM cI cJ cB cZ bd))) () B h hr rfl rfl dX12_bettiTaken_21
set_option maxHeartbeats 4000000 in
set_option maxRecDepth 100000 in
theorem k137_X12_in (l : Launch) (D : va_G) (cI cJ cB cZ : ClassId) (ad bd : Nat → Nat) : MetI l yX12_in wsX12_in 0 0 0 0 D (TYS cI cJ cB cZ) [] [.int 2, .int 1, .int 4] (fun (r : Int32) (_ : Unit) => r = 1) (fun _ => []) := by
  refine x_startI (ty := .boolean) (cc := cX12_in) (by decide) rfl (Nat.le_of_ble_eq_true rfl) ?_
  intro p e s m args below meth c A ls B hr hnm h hl
  have hx := B.1.1
  have hb := B.1.2.1
  have hml := B.1.2.2.1
  have hts := B.1.2.2.2.2
  have hown : s.vm.findClass RX12 = some m.cls := B.1.2.2.2.1
  have hl : lv_has ls 3 [(0, .int 2), (1, .int 1), (2, .int 4)] := hl
  refine lv_iload_n hx hb dX12_in_0 rfl (lv_at hl 0 rfl) ?_
  refine lv_iload_n hx hb dX12_in_1 rfl (lv_at hl 1 rfl) ?_
  refine lv_icmp_lt (tgt := 14) hx hb dX12_in_2 (by decide) (fun c_1 => absurd c_1 (by decide)) (fun c_1 => ?_)
  refine lv_iload_n hx hb dX12_in_5 rfl (lv_at hl 0 rfl) ?_
  refine lv_iload_n hx hb dX12_in_6 rfl (lv_at hl 2 rfl) ?_
  refine lv_icmp_gt (tgt := 14) hx hb dX12_in_7 (by decide) (fun c_2 => absurd c_2 (by decide)) (fun c_2 => ?_)
  refine lv_iconst (v := 1) hx hb dX12_in_10 (by decide) ?_
  refine lv_goto (tgt := 15) hx hb dX12_in_11 (by decide) ?_
  exact x_iret (w1 := (fun _ => [])) () B h hr rfl rfl dX12_in_15
set_option maxHeartbeats 4000000 in
set_option maxRecDepth 100000 in
theorem k138_X12_takenOf (l : Launch) (D : va_G) (cI cJ cB cZ : ClassId) (ad bd : Nat → Nat) : MetI l yX12_takenOf wsX12_takenOf 0 0 0 0 D (TYS cI cJ cB cZ) (WM cI cJ cB cZ bd) [.ref (bd 0), .int 2] (fun (r : Int32) (_ : Unit) => r = 0) (fun _ => (WM cI cJ cB cZ bd)) := by
  refine x_startI (ty := .int) (cc := cX12_takenOf) (by decide) rfl (Nat.le_of_ble_eq_true rfl) ?_
  intro p e s m args below meth c A ls B hr hnm h hl
  have hx := B.1.1
  have hb := B.1.2.1
  have hml := B.1.2.2.1
  have hts := B.1.2.2.2.2
  have hown : s.vm.findClass RX12 = some m.cls := B.1.2.2.2.1
  have hin12 : ∀ w ∈ u_ws RX12 TX12 31, w ∈ wsX12_takenOf := by decide +kernel
  have hl : lv_has ls 4 [(0, .ref (bd 0)), (1, .int 2)] := hl
  refine lv_iconst (v := 0) hx hb dX12_takenOf_0 (by decide) ?_
  refine lv_istore_n (lv' := [(2, .int 0), (0, .ref (bd 0)), (1, .int 2)]) hx hb dX12_takenOf_1 rfl hl (by decide) rfl (fun ls hl => ?_)
  refine lv_iconst (v := 0) hx hb dX12_takenOf_2 (by decide) ?_
  refine lv_istore_n (lv' := [(3, .int 0), (2, .int 0), (0, .ref (bd 0)), (1, .int 2)]) hx hb dX12_takenOf_3 rfl hl (by decide) rfl (fun ls hl => ?_)
  refine lv_iload_n hx hb dX12_takenOf_4 rfl (lv_at hl 0 rfl) ?_
  refine lv_aload_n hx hb dX12_takenOf_5 rfl (lv_at hl 2 rfl) ?_
  refine x_get (ci := 12) (C := RX12) (T := TX12) (N := 31) (v := .int 0) B h hin12 0 5 rfl rfl (by decide) (by decide +kernel) rfl dX12_takenOf_6 ?_
  refine lv_icmp_ge (tgt := 47) hx hb dX12_takenOf_9 (by decide) (fun c_1 => ?_) (fun c_1 => absurd c_1 (by decide))
  refine lv_iload_n hx hb dX12_takenOf_47 rfl (lv_at hl 1 rfl) ?_
  exact x_iret (w1 := (fun _ => (WM cI cJ cB cZ bd))) () B h hr rfl rfl dX12_takenOf_48
set_option maxHeartbeats 4000000 in
set_option maxRecDepth 100000 in
theorem k139_X12_laysTable (l : Launch) (D : va_G) (cI cJ cB cZ : ClassId) (ad bd : Nat → Nat) : MetV l yX12_laysTable wsX12_laysTable 1 23 0 0 D (TYS cI cJ cB cZ) (WM cI cJ cB cZ bd) [.ref (bd 0), .int 2, .int 0] (fun _ : Unit => True) (fun _ => (WM cI cJ cB cZ bd)) := by
  refine x_startV (ty := .int) (cc := cX12_laysTable) (by decide) rfl (Nat.le_of_ble_eq_true rfl) ?_
  intro p e s m args below meth c A ls B hr hnm h hl
  have hx := B.1.1
  have hb := B.1.2.1
  have hml := B.1.2.2.1
  have hts := B.1.2.2.2.2
  have hown : s.vm.findClass RX12 = some m.cls := B.1.2.2.2.1
  have hin12 : ∀ w ∈ u_ws RX12 TX12 31, w ∈ wsX12_laysTable := by decide +kernel
  have hl : lv_has ls 7 [(0, .ref (bd 0)), (1, .int 2), (2, .int 0)] := hl
  refine lv_aload_n hx hb dX12_laysTable_0 rfl (lv_at hl 0 rfl) ?_
  refine lv_aload_n hx hb dX12_laysTable_1 rfl (lv_at hl 0 rfl) ?_
  refine lv_iload_n hx hb dX12_laysTable_2 rfl (lv_at hl 1 rfl) ?_
  refine x_cVIF (n := 1) (As := [.int 2]) (rest := [.ref (bd 0)]) B h (k138_X12_takenOf l D cI cJ cB cZ ad bd) ⟨⟨_, rfl⟩, by decide +kernel, Nat.le_of_ble_eq_true rfl, Nat.le_of_ble_eq_true rfl⟩ gX12_laysTable_X12_takenOf (show ((WM cI cJ cB cZ bd) : va_W)[0]? = some (_, .inr (12, _)) from rfl) rfl rfl hl.1 rfl (Nat.le_of_ble_eq_true rfl) dX12_laysTable_3 ⟨Nat.le_of_ble_eq_true rfl, Nat.le_of_ble_eq_true rfl⟩ (fun r_1 u_1 H locs hp_1 h => ?_)
  obtain rfl := hp_1
  have h : Hp D A s.heap (WM cI cJ cB cZ bd) H locs := h
  refine x_put (ci := 12) (C := RX12) (T := TX12) (N := 31) (v := .int 0) (ty := .int) B h hin12 tyX12 tyX12_ok nmX12 0 23 rfl rfl (by decide) (by decide +kernel) rfl rfl rfl rfl (Nat.le_of_ble_eq_true rfl) dX12_laysTable_6 (fun H locs h => ?_)
  have h : Hp D A s.heap (WM cI cJ cB cZ bd) H locs := h
  refine lv_aload_n hx hb dX12_laysTable_9 rfl (lv_at hl 0 rfl) ?_
  refine lv_aload_n hx hb dX12_laysTable_10 rfl (lv_at hl 0 rfl) ?_
  refine lv_iload_n hx hb dX12_laysTable_11 rfl (lv_at hl 1 rfl) ?_
  refine lv_iconst (v := 1) hx hb dX12_laysTable_12 (by decide) ?_
  refine lv_isub hx hb dX12_laysTable_13 ?_
  refine lv_topi (fun v_2 ev_2 => ?_)
  obtain rfl : v_2 = 1 := ev_2.trans (by decide)
  refine x_cVIF (n := 1) (As := [.int 1]) (rest := [.ref (bd 0)]) B h (k132_X12_takenOf l D cI cJ cB cZ ad bd) ⟨⟨_, rfl⟩, by decide +kernel, Nat.le_of_ble_eq_true rfl, Nat.le_of_ble_eq_true rfl⟩ gX12_laysTable_X12_takenOf (show ((WM cI cJ cB cZ bd) : va_W)[0]? = some (_, .inr (12, _)) from rfl) rfl rfl hl.1 rfl (Nat.le_of_ble_eq_true rfl) dX12_laysTable_14 ⟨Nat.le_of_ble_eq_true rfl, Nat.le_of_ble_eq_true rfl⟩ (fun r_3 u_3 H locs hp_3 h => ?_)
  obtain rfl := hp_3
  have h : Hp D A s.heap (WM cI cJ cB cZ bd) H locs := h
  refine x_put (ci := 12) (C := RX12) (T := TX12) (N := 31) (v := .int 0) (ty := .int) B h hin12 tyX12 tyX12_ok nmX12 0 24 rfl rfl (by decide) (by decide +kernel) rfl rfl rfl rfl (Nat.le_of_ble_eq_true rfl) dX12_laysTable_17 (fun H locs h => ?_)
  have h : Hp D A s.heap (WM cI cJ cB cZ bd) H locs := h
  refine lv_iconst (v := 0) hx hb dX12_laysTable_20 (by decide) ?_
  refine lv_istore_n (lv' := [(3, .int 0), (0, .ref (bd 0)), (1, .int 2), (2, .int 0)]) hx hb dX12_laysTable_21 rfl hl (by decide) rfl (fun ls hl => ?_)
  refine lv_iconst (v := 0) hx hb dX12_laysTable_22 (by decide) ?_
  refine lv_istore (lv' := [(4, .int 0), (3, .int 0), (0, .ref (bd 0)), (1, .int 2), (2, .int 0)]) hx hb dX12_laysTable_23 hl (by decide) rfl (fun ls hl => ?_)
  refine lv_iload hx hb dX12_laysTable_25 (lv_at hl 0 rfl) ?_
  refine lv_aload_n hx hb dX12_laysTable_27 rfl (lv_at hl 2 rfl) ?_
  refine x_get (ci := 12) (C := RX12) (T := TX12) (N := 31) (v := .int 0) B h hin12 0 5 rfl rfl (by decide) (by decide +kernel) rfl dX12_laysTable_28 ?_
  refine lv_icmp_ge (tgt := 164) hx hb dX12_laysTable_31 (by decide) (fun c_4 => ?_) (fun c_4 => absurd c_4 (by decide))
  exact x_vret (w1 := (fun _ => (WM cI cJ cB cZ bd))) () B h hr trivial dX12_laysTable_164
set_option maxHeartbeats 4000000 in
set_option maxRecDepth 100000 in
theorem k140_X12_rankOf (l : Launch) (D : va_G) (cI cJ cB cZ : ClassId) (ad bd : Nat → Nat) : MetI l yX12_rankOf wsX12_rankOf 2 49 0 0 D (TYS cI cJ cB cZ) (WM cI cJ cB cZ bd) [.ref (bd 0), .int 2, .int 0] (fun (r : Int32) (_ : Unit) => r = 0) (fun _ => (WM cI cJ cB cZ bd)) := by
  refine x_startI (ty := .int) (cc := cX12_rankOf) (by decide) rfl (Nat.le_of_ble_eq_true rfl) ?_
  intro p e s m args below meth c A ls B hr hnm h hl
  have hx := B.1.1
  have hb := B.1.2.1
  have hml := B.1.2.2.1
  have hts := B.1.2.2.2.2
  have hown : s.vm.findClass RX12 = some m.cls := B.1.2.2.2.1
  have hl : lv_has ls 3 [(0, .ref (bd 0)), (1, .int 2), (2, .int 0)] := hl
  refine lv_iload_n hx hb dX12_rankOf_0 rfl (lv_at hl 1 rfl) ?_
  refine lv_iconst (v := 1) hx hb dX12_rankOf_1 (by decide) ?_
  refine lv_iconst (v := 4) hx hb dX12_rankOf_2 (by decide) ?_
  refine x_cSIE (n := 3) (As := [.int 2, .int 1, .int 4]) (rest := []) B h (k137_X12_in l D cI cJ cB cZ ad bd) ⟨⟨_, rfl⟩, by decide +kernel, Nat.le_of_ble_eq_true rfl, Nat.le_of_ble_eq_true rfl⟩ gX12_rankOf_X12_in rfl hl.1 rfl (Nat.le_of_ble_eq_true rfl) dX12_rankOf_3 ⟨Nat.le_of_ble_eq_true rfl, Nat.le_of_ble_eq_true rfl⟩ (fun r_1 u_1 H locs hp_1 h => ?_)
  obtain rfl := hp_1
  have h : Hp D A s.heap (WM cI cJ cB cZ bd) H locs := h
  refine lv_if_ne (tgt := 11) hx hb dX12_rankOf_6 (by decide) (fun c_2 => ?_) (fun c_2 => absurd c_2 (by decide))
  refine lv_aload_n hx hb dX12_rankOf_11 rfl (lv_at hl 0 rfl) ?_
  refine lv_iload_n hx hb dX12_rankOf_12 rfl (lv_at hl 1 rfl) ?_
  refine lv_iload_n hx hb dX12_rankOf_13 rfl (lv_at hl 2 rfl) ?_
  refine x_cVVF (n := 2) (As := [.int 2, .int 0]) (rest := []) B h (k139_X12_laysTable l D cI cJ cB cZ ad bd) ⟨⟨_, rfl⟩, by decide +kernel, Nat.le_of_ble_eq_true rfl, Nat.le_of_ble_eq_true rfl⟩ gX12_rankOf_X12_laysTable (show ((WM cI cJ cB cZ bd) : va_W)[0]? = some (_, .inr (12, _)) from rfl) rfl rfl hl.1 rfl (Nat.le_of_ble_eq_true rfl) dX12_rankOf_14 ⟨Nat.le_of_ble_eq_true rfl, Nat.le_of_ble_eq_true rfl⟩ (fun u_3 H locs hp_3 h => ?_)
  have h : Hp D A s.heap (WM cI cJ cB cZ bd) H locs := h
  refine lv_aload_n hx hb dX12_rankOf_17 rfl (lv_at hl 0 rfl) ?_
  refine x_cVIF (n := 0) (As := []) (rest := []) B h (k134_X12_laysSteps l D cI cJ cB cZ ad bd) ⟨⟨_, rfl⟩, by decide +kernel, Nat.le_of_ble_eq_true rfl, Nat.le_of_ble_eq_true rfl⟩ gX12_rankOf_X12_laysSteps (show ((WM cI cJ cB cZ bd) : va_W)[0]? = some (_, .inr (12, _)) from rfl) rfl rfl hl.1 rfl (Nat.le_of_ble_eq_true rfl) dX12_rankOf_18 ⟨Nat.le_of_ble_eq_true rfl, Nat.le_of_ble_eq_true rfl⟩ (fun r_4 u_4 H locs hp_4 h => ?_)
  obtain rfl := hp_4
  have h : Hp D A s.heap (WM cI cJ cB cZ bd) H locs := h
  exact x_iret (w1 := (fun _ => (WM cI cJ cB cZ bd))) () B h hr rfl rfl dX12_rankOf_21
set_option maxHeartbeats 4000000 in
set_option maxRecDepth 100000 in
theorem k141_X12_bettiTaken (l : Launch) (D : va_G) (cI cJ cB cZ : ClassId) (ad bd : Nat → Nat) : MetI l yX12_bettiTaken wsX12_bettiTaken 3 71 0 0 D (TYS cI cJ cB cZ) (WM cI cJ cB cZ bd) [.ref (bd 0), .int 1, .int 0] (fun (r : Int32) (_ : Unit) => r = 0) (fun _ => (WM cI cJ cB cZ bd)) := by
  refine x_startI (ty := .int) (cc := cX12_bettiTaken) (by decide) rfl (Nat.le_of_ble_eq_true rfl) ?_
  intro p e s m args below meth c A ls B hr hnm h hl
  have hx := B.1.1
  have hb := B.1.2.1
  have hml := B.1.2.2.1
  have hts := B.1.2.2.2.2
  have hown : s.vm.findClass RX12 = some m.cls := B.1.2.2.2.1
  have hl : lv_has ls 3 [(0, .ref (bd 0)), (1, .int 1), (2, .int 0)] := hl
  refine lv_aload_n hx hb dX12_bettiTaken_0 rfl (lv_at hl 0 rfl) ?_
  refine lv_iload_n hx hb dX12_bettiTaken_1 rfl (lv_at hl 1 rfl) ?_
  refine x_cVIF (n := 1) (As := [.int 1]) (rest := []) B h (k132_X12_takenOf l D cI cJ cB cZ ad bd) ⟨⟨_, rfl⟩, by decide +kernel, Nat.le_of_ble_eq_true rfl, Nat.le_of_ble_eq_true rfl⟩ gX12_bettiTaken_X12_takenOf (show ((WM cI cJ cB cZ bd) : va_W)[0]? = some (_, .inr (12, _)) from rfl) rfl rfl hl.1 rfl (Nat.le_of_ble_eq_true rfl) dX12_bettiTaken_2 ⟨Nat.le_of_ble_eq_true rfl, Nat.le_of_ble_eq_true rfl⟩ (fun r_1 u_1 H locs hp_1 h => ?_)
  obtain rfl := hp_1
  have h : Hp D A s.heap (WM cI cJ cB cZ bd) H locs := h
  refine lv_aload_n hx hb dX12_bettiTaken_5 rfl (lv_at hl 0 rfl) ?_
  refine lv_iload_n hx hb dX12_bettiTaken_6 rfl (lv_at hl 1 rfl) ?_
  refine lv_iload_n hx hb dX12_bettiTaken_7 rfl (lv_at hl 2 rfl) ?_
  refine x_cVIF (n := 2) (As := [.int 1, .int 0]) (rest := [.int 0]) B h (k135_X12_rankOf l D cI cJ cB cZ ad bd) ⟨⟨_, rfl⟩, by decide +kernel, Nat.le_of_ble_eq_true rfl, Nat.le_of_ble_eq_true rfl⟩ gX12_bettiTaken_X12_rankOf (show ((WM cI cJ cB cZ bd) : va_W)[0]? = some (_, .inr (12, _)) from rfl) rfl rfl hl.1 rfl (Nat.le_of_ble_eq_true rfl) dX12_bettiTaken_8 ⟨Nat.le_of_ble_eq_true rfl, Nat.le_of_ble_eq_true rfl⟩ (fun r_2 u_2 H locs hp_2 h => ?_)
  obtain rfl := hp_2
  have h : Hp D A s.heap (WM cI cJ cB cZ bd) H locs := h
  refine lv_isub hx hb dX12_bettiTaken_11 ?_
  refine lv_topi (fun v_3 ev_3 => ?_)
  obtain rfl : v_3 = 0 := ev_3.trans (by decide)
  refine lv_aload_n hx hb dX12_bettiTaken_12 rfl (lv_at hl 0 rfl) ?_
  refine lv_iload_n hx hb dX12_bettiTaken_13 rfl (lv_at hl 1 rfl) ?_
  refine lv_iconst (v := 1) hx hb dX12_bettiTaken_14 (by decide) ?_
  refine lv_iadd hx hb dX12_bettiTaken_15 ?_
  refine lv_topi (fun v_4 ev_4 => ?_)
  obtain rfl : v_4 = 2 := ev_4.trans (by decide)
  refine lv_iload_n hx hb dX12_bettiTaken_16 rfl (lv_at hl 2 rfl) ?_
  refine x_cVIF (n := 2) (As := [.int 2, .int 0]) (rest := [.int 0]) B h (k140_X12_rankOf l D cI cJ cB cZ ad bd) ⟨⟨_, rfl⟩, by decide +kernel, Nat.le_of_ble_eq_true rfl, Nat.le_of_ble_eq_true rfl⟩ gX12_bettiTaken_X12_rankOf (show ((WM cI cJ cB cZ bd) : va_W)[0]? = some (_, .inr (12, _)) from rfl) rfl rfl hl.1 rfl (Nat.le_of_ble_eq_true rfl) dX12_bettiTaken_17 ⟨Nat.le_of_ble_eq_true rfl, Nat.le_of_ble_eq_true rfl⟩ (fun r_5 u_5 H locs hp_5 h => ?_)
  obtain rfl := hp_5
  have h : Hp D A s.heap (WM cI cJ cB cZ bd) H locs := h
  refine lv_isub hx hb dX12_bettiTaken_20 ?_
  refine lv_topi (fun v_6 ev_6 => ?_)
  obtain rfl : v_6 = 0 := ev_6.trans (by decide)
  exact x_iret (w1 := (fun _ => (WM cI cJ cB cZ bd))) () B h hr rfl rfl dX12_bettiTaken_21
set_option maxHeartbeats 4000000 in
set_option maxRecDepth 100000 in
theorem k142_X12_in (l : Launch) (D : va_G) (cI cJ cB cZ : ClassId) (ad bd : Nat → Nat) : MetI l yX12_in wsX12_in 0 0 0 0 D (TYS cI cJ cB cZ) [] [.int 3, .int 1, .int 4] (fun (r : Int32) (_ : Unit) => r = 1) (fun _ => []) := by
  refine x_startI (ty := .boolean) (cc := cX12_in) (by decide) rfl (Nat.le_of_ble_eq_true rfl) ?_
  intro p e s m args below meth c A ls B hr hnm h hl
  have hx := B.1.1
  have hb := B.1.2.1
  have hml := B.1.2.2.1
  have hts := B.1.2.2.2.2
  have hown : s.vm.findClass RX12 = some m.cls := B.1.2.2.2.1
  have hl : lv_has ls 3 [(0, .int 3), (1, .int 1), (2, .int 4)] := hl
  refine lv_iload_n hx hb dX12_in_0 rfl (lv_at hl 0 rfl) ?_
  refine lv_iload_n hx hb dX12_in_1 rfl (lv_at hl 1 rfl) ?_
  refine lv_icmp_lt (tgt := 14) hx hb dX12_in_2 (by decide) (fun c_1 => absurd c_1 (by decide)) (fun c_1 => ?_)
  refine lv_iload_n hx hb dX12_in_5 rfl (lv_at hl 0 rfl) ?_
  refine lv_iload_n hx hb dX12_in_6 rfl (lv_at hl 2 rfl) ?_
  refine lv_icmp_gt (tgt := 14) hx hb dX12_in_7 (by decide) (fun c_2 => absurd c_2 (by decide)) (fun c_2 => ?_)
  refine lv_iconst (v := 1) hx hb dX12_in_10 (by decide) ?_
  refine lv_goto (tgt := 15) hx hb dX12_in_11 (by decide) ?_
  exact x_iret (w1 := (fun _ => [])) () B h hr rfl rfl dX12_in_15
set_option maxHeartbeats 4000000 in
set_option maxRecDepth 100000 in
theorem k143_X12_takenOf (l : Launch) (D : va_G) (cI cJ cB cZ : ClassId) (ad bd : Nat → Nat) : MetI l yX12_takenOf wsX12_takenOf 0 0 0 0 D (TYS cI cJ cB cZ) (WM cI cJ cB cZ bd) [.ref (bd 0), .int 3] (fun (r : Int32) (_ : Unit) => r = 0) (fun _ => (WM cI cJ cB cZ bd)) := by
  refine x_startI (ty := .int) (cc := cX12_takenOf) (by decide) rfl (Nat.le_of_ble_eq_true rfl) ?_
  intro p e s m args below meth c A ls B hr hnm h hl
  have hx := B.1.1
  have hb := B.1.2.1
  have hml := B.1.2.2.1
  have hts := B.1.2.2.2.2
  have hown : s.vm.findClass RX12 = some m.cls := B.1.2.2.2.1
  have hin12 : ∀ w ∈ u_ws RX12 TX12 31, w ∈ wsX12_takenOf := by decide +kernel
  have hl : lv_has ls 4 [(0, .ref (bd 0)), (1, .int 3)] := hl
  refine lv_iconst (v := 0) hx hb dX12_takenOf_0 (by decide) ?_
  refine lv_istore_n (lv' := [(2, .int 0), (0, .ref (bd 0)), (1, .int 3)]) hx hb dX12_takenOf_1 rfl hl (by decide) rfl (fun ls hl => ?_)
  refine lv_iconst (v := 0) hx hb dX12_takenOf_2 (by decide) ?_
  refine lv_istore_n (lv' := [(3, .int 0), (2, .int 0), (0, .ref (bd 0)), (1, .int 3)]) hx hb dX12_takenOf_3 rfl hl (by decide) rfl (fun ls hl => ?_)
  refine lv_iload_n hx hb dX12_takenOf_4 rfl (lv_at hl 0 rfl) ?_
  refine lv_aload_n hx hb dX12_takenOf_5 rfl (lv_at hl 2 rfl) ?_
  refine x_get (ci := 12) (C := RX12) (T := TX12) (N := 31) (v := .int 0) B h hin12 0 5 rfl rfl (by decide) (by decide +kernel) rfl dX12_takenOf_6 ?_
  refine lv_icmp_ge (tgt := 47) hx hb dX12_takenOf_9 (by decide) (fun c_1 => ?_) (fun c_1 => absurd c_1 (by decide))
  refine lv_iload_n hx hb dX12_takenOf_47 rfl (lv_at hl 1 rfl) ?_
  exact x_iret (w1 := (fun _ => (WM cI cJ cB cZ bd))) () B h hr rfl rfl dX12_takenOf_48
set_option maxHeartbeats 4000000 in
set_option maxRecDepth 100000 in
theorem k144_X12_laysTable (l : Launch) (D : va_G) (cI cJ cB cZ : ClassId) (ad bd : Nat → Nat) : MetV l yX12_laysTable wsX12_laysTable 1 23 0 0 D (TYS cI cJ cB cZ) (WM cI cJ cB cZ bd) [.ref (bd 0), .int 3, .int 0] (fun _ : Unit => True) (fun _ => (WM cI cJ cB cZ bd)) := by
  refine x_startV (ty := .int) (cc := cX12_laysTable) (by decide) rfl (Nat.le_of_ble_eq_true rfl) ?_
  intro p e s m args below meth c A ls B hr hnm h hl
  have hx := B.1.1
  have hb := B.1.2.1
  have hml := B.1.2.2.1
  have hts := B.1.2.2.2.2
  have hown : s.vm.findClass RX12 = some m.cls := B.1.2.2.2.1
  have hin12 : ∀ w ∈ u_ws RX12 TX12 31, w ∈ wsX12_laysTable := by decide +kernel
  have hl : lv_has ls 7 [(0, .ref (bd 0)), (1, .int 3), (2, .int 0)] := hl
  refine lv_aload_n hx hb dX12_laysTable_0 rfl (lv_at hl 0 rfl) ?_
  refine lv_aload_n hx hb dX12_laysTable_1 rfl (lv_at hl 0 rfl) ?_
  refine lv_iload_n hx hb dX12_laysTable_2 rfl (lv_at hl 1 rfl) ?_
  refine x_cVIF (n := 1) (As := [.int 3]) (rest := [.ref (bd 0)]) B h (k143_X12_takenOf l D cI cJ cB cZ ad bd) ⟨⟨_, rfl⟩, by decide +kernel, Nat.le_of_ble_eq_true rfl, Nat.le_of_ble_eq_true rfl⟩ gX12_laysTable_X12_takenOf (show ((WM cI cJ cB cZ bd) : va_W)[0]? = some (_, .inr (12, _)) from rfl) rfl rfl hl.1 rfl (Nat.le_of_ble_eq_true rfl) dX12_laysTable_3 ⟨Nat.le_of_ble_eq_true rfl, Nat.le_of_ble_eq_true rfl⟩ (fun r_1 u_1 H locs hp_1 h => ?_)
  obtain rfl := hp_1
  have h : Hp D A s.heap (WM cI cJ cB cZ bd) H locs := h
  refine x_put (ci := 12) (C := RX12) (T := TX12) (N := 31) (v := .int 0) (ty := .int) B h hin12 tyX12 tyX12_ok nmX12 0 23 rfl rfl (by decide) (by decide +kernel) rfl rfl rfl rfl (Nat.le_of_ble_eq_true rfl) dX12_laysTable_6 (fun H locs h => ?_)
  have h : Hp D A s.heap (WM cI cJ cB cZ bd) H locs := h
  refine lv_aload_n hx hb dX12_laysTable_9 rfl (lv_at hl 0 rfl) ?_
  refine lv_aload_n hx hb dX12_laysTable_10 rfl (lv_at hl 0 rfl) ?_
  refine lv_iload_n hx hb dX12_laysTable_11 rfl (lv_at hl 1 rfl) ?_
  refine lv_iconst (v := 1) hx hb dX12_laysTable_12 (by decide) ?_
  refine lv_isub hx hb dX12_laysTable_13 ?_
  refine lv_topi (fun v_2 ev_2 => ?_)
  obtain rfl : v_2 = 2 := ev_2.trans (by decide)
  refine x_cVIF (n := 1) (As := [.int 2]) (rest := [.ref (bd 0)]) B h (k138_X12_takenOf l D cI cJ cB cZ ad bd) ⟨⟨_, rfl⟩, by decide +kernel, Nat.le_of_ble_eq_true rfl, Nat.le_of_ble_eq_true rfl⟩ gX12_laysTable_X12_takenOf (show ((WM cI cJ cB cZ bd) : va_W)[0]? = some (_, .inr (12, _)) from rfl) rfl rfl hl.1 rfl (Nat.le_of_ble_eq_true rfl) dX12_laysTable_14 ⟨Nat.le_of_ble_eq_true rfl, Nat.le_of_ble_eq_true rfl⟩ (fun r_3 u_3 H locs hp_3 h => ?_)
  obtain rfl := hp_3
  have h : Hp D A s.heap (WM cI cJ cB cZ bd) H locs := h
  refine x_put (ci := 12) (C := RX12) (T := TX12) (N := 31) (v := .int 0) (ty := .int) B h hin12 tyX12 tyX12_ok nmX12 0 24 rfl rfl (by decide) (by decide +kernel) rfl rfl rfl rfl (Nat.le_of_ble_eq_true rfl) dX12_laysTable_17 (fun H locs h => ?_)
  have h : Hp D A s.heap (WM cI cJ cB cZ bd) H locs := h
  refine lv_iconst (v := 0) hx hb dX12_laysTable_20 (by decide) ?_
  refine lv_istore_n (lv' := [(3, .int 0), (0, .ref (bd 0)), (1, .int 3), (2, .int 0)]) hx hb dX12_laysTable_21 rfl hl (by decide) rfl (fun ls hl => ?_)
  refine lv_iconst (v := 0) hx hb dX12_laysTable_22 (by decide) ?_
  refine lv_istore (lv' := [(4, .int 0), (3, .int 0), (0, .ref (bd 0)), (1, .int 3), (2, .int 0)]) hx hb dX12_laysTable_23 hl (by decide) rfl (fun ls hl => ?_)
  refine lv_iload hx hb dX12_laysTable_25 (lv_at hl 0 rfl) ?_
  refine lv_aload_n hx hb dX12_laysTable_27 rfl (lv_at hl 2 rfl) ?_
  refine x_get (ci := 12) (C := RX12) (T := TX12) (N := 31) (v := .int 0) B h hin12 0 5 rfl rfl (by decide) (by decide +kernel) rfl dX12_laysTable_28 ?_
  refine lv_icmp_ge (tgt := 164) hx hb dX12_laysTable_31 (by decide) (fun c_4 => ?_) (fun c_4 => absurd c_4 (by decide))
  exact x_vret (w1 := (fun _ => (WM cI cJ cB cZ bd))) () B h hr trivial dX12_laysTable_164
set_option maxHeartbeats 4000000 in
set_option maxRecDepth 100000 in
theorem k145_X12_rankOf (l : Launch) (D : va_G) (cI cJ cB cZ : ClassId) (ad bd : Nat → Nat) : MetI l yX12_rankOf wsX12_rankOf 2 49 0 0 D (TYS cI cJ cB cZ) (WM cI cJ cB cZ bd) [.ref (bd 0), .int 3, .int 0] (fun (r : Int32) (_ : Unit) => r = 0) (fun _ => (WM cI cJ cB cZ bd)) := by
  refine x_startI (ty := .int) (cc := cX12_rankOf) (by decide) rfl (Nat.le_of_ble_eq_true rfl) ?_
  intro p e s m args below meth c A ls B hr hnm h hl
  have hx := B.1.1
  have hb := B.1.2.1
  have hml := B.1.2.2.1
  have hts := B.1.2.2.2.2
  have hown : s.vm.findClass RX12 = some m.cls := B.1.2.2.2.1
  have hl : lv_has ls 3 [(0, .ref (bd 0)), (1, .int 3), (2, .int 0)] := hl
  refine lv_iload_n hx hb dX12_rankOf_0 rfl (lv_at hl 1 rfl) ?_
  refine lv_iconst (v := 1) hx hb dX12_rankOf_1 (by decide) ?_
  refine lv_iconst (v := 4) hx hb dX12_rankOf_2 (by decide) ?_
  refine x_cSIE (n := 3) (As := [.int 3, .int 1, .int 4]) (rest := []) B h (k142_X12_in l D cI cJ cB cZ ad bd) ⟨⟨_, rfl⟩, by decide +kernel, Nat.le_of_ble_eq_true rfl, Nat.le_of_ble_eq_true rfl⟩ gX12_rankOf_X12_in rfl hl.1 rfl (Nat.le_of_ble_eq_true rfl) dX12_rankOf_3 ⟨Nat.le_of_ble_eq_true rfl, Nat.le_of_ble_eq_true rfl⟩ (fun r_1 u_1 H locs hp_1 h => ?_)
  obtain rfl := hp_1
  have h : Hp D A s.heap (WM cI cJ cB cZ bd) H locs := h
  refine lv_if_ne (tgt := 11) hx hb dX12_rankOf_6 (by decide) (fun c_2 => ?_) (fun c_2 => absurd c_2 (by decide))
  refine lv_aload_n hx hb dX12_rankOf_11 rfl (lv_at hl 0 rfl) ?_
  refine lv_iload_n hx hb dX12_rankOf_12 rfl (lv_at hl 1 rfl) ?_
  refine lv_iload_n hx hb dX12_rankOf_13 rfl (lv_at hl 2 rfl) ?_
  refine x_cVVF (n := 2) (As := [.int 3, .int 0]) (rest := []) B h (k144_X12_laysTable l D cI cJ cB cZ ad bd) ⟨⟨_, rfl⟩, by decide +kernel, Nat.le_of_ble_eq_true rfl, Nat.le_of_ble_eq_true rfl⟩ gX12_rankOf_X12_laysTable (show ((WM cI cJ cB cZ bd) : va_W)[0]? = some (_, .inr (12, _)) from rfl) rfl rfl hl.1 rfl (Nat.le_of_ble_eq_true rfl) dX12_rankOf_14 ⟨Nat.le_of_ble_eq_true rfl, Nat.le_of_ble_eq_true rfl⟩ (fun u_3 H locs hp_3 h => ?_)
  have h : Hp D A s.heap (WM cI cJ cB cZ bd) H locs := h
  refine lv_aload_n hx hb dX12_rankOf_17 rfl (lv_at hl 0 rfl) ?_
  refine x_cVIF (n := 0) (As := []) (rest := []) B h (k134_X12_laysSteps l D cI cJ cB cZ ad bd) ⟨⟨_, rfl⟩, by decide +kernel, Nat.le_of_ble_eq_true rfl, Nat.le_of_ble_eq_true rfl⟩ gX12_rankOf_X12_laysSteps (show ((WM cI cJ cB cZ bd) : va_W)[0]? = some (_, .inr (12, _)) from rfl) rfl rfl hl.1 rfl (Nat.le_of_ble_eq_true rfl) dX12_rankOf_18 ⟨Nat.le_of_ble_eq_true rfl, Nat.le_of_ble_eq_true rfl⟩ (fun r_4 u_4 H locs hp_4 h => ?_)
  obtain rfl := hp_4
  have h : Hp D A s.heap (WM cI cJ cB cZ bd) H locs := h
  exact x_iret (w1 := (fun _ => (WM cI cJ cB cZ bd))) () B h hr rfl rfl dX12_rankOf_21
set_option maxHeartbeats 4000000 in
set_option maxRecDepth 100000 in
theorem k146_X12_bettiTaken (l : Launch) (D : va_G) (cI cJ cB cZ : ClassId) (ad bd : Nat → Nat) : MetI l yX12_bettiTaken wsX12_bettiTaken 3 71 0 0 D (TYS cI cJ cB cZ) (WM cI cJ cB cZ bd) [.ref (bd 0), .int 2, .int 0] (fun (r : Int32) (_ : Unit) => r = 0) (fun _ => (WM cI cJ cB cZ bd)) := by
  refine x_startI (ty := .int) (cc := cX12_bettiTaken) (by decide) rfl (Nat.le_of_ble_eq_true rfl) ?_
  intro p e s m args below meth c A ls B hr hnm h hl
  have hx := B.1.1
  have hb := B.1.2.1
  have hml := B.1.2.2.1
  have hts := B.1.2.2.2.2
  have hown : s.vm.findClass RX12 = some m.cls := B.1.2.2.2.1
  have hl : lv_has ls 3 [(0, .ref (bd 0)), (1, .int 2), (2, .int 0)] := hl
  refine lv_aload_n hx hb dX12_bettiTaken_0 rfl (lv_at hl 0 rfl) ?_
  refine lv_iload_n hx hb dX12_bettiTaken_1 rfl (lv_at hl 1 rfl) ?_
  refine x_cVIF (n := 1) (As := [.int 2]) (rest := []) B h (k138_X12_takenOf l D cI cJ cB cZ ad bd) ⟨⟨_, rfl⟩, by decide +kernel, Nat.le_of_ble_eq_true rfl, Nat.le_of_ble_eq_true rfl⟩ gX12_bettiTaken_X12_takenOf (show ((WM cI cJ cB cZ bd) : va_W)[0]? = some (_, .inr (12, _)) from rfl) rfl rfl hl.1 rfl (Nat.le_of_ble_eq_true rfl) dX12_bettiTaken_2 ⟨Nat.le_of_ble_eq_true rfl, Nat.le_of_ble_eq_true rfl⟩ (fun r_1 u_1 H locs hp_1 h => ?_)
  obtain rfl := hp_1
  have h : Hp D A s.heap (WM cI cJ cB cZ bd) H locs := h
  refine lv_aload_n hx hb dX12_bettiTaken_5 rfl (lv_at hl 0 rfl) ?_
  refine lv_iload_n hx hb dX12_bettiTaken_6 rfl (lv_at hl 1 rfl) ?_
  refine lv_iload_n hx hb dX12_bettiTaken_7 rfl (lv_at hl 2 rfl) ?_
  refine x_cVIF (n := 2) (As := [.int 2, .int 0]) (rest := [.int 0]) B h (k140_X12_rankOf l D cI cJ cB cZ ad bd) ⟨⟨_, rfl⟩, by decide +kernel, Nat.le_of_ble_eq_true rfl, Nat.le_of_ble_eq_true rfl⟩ gX12_bettiTaken_X12_rankOf (show ((WM cI cJ cB cZ bd) : va_W)[0]? = some (_, .inr (12, _)) from rfl) rfl rfl hl.1 rfl (Nat.le_of_ble_eq_true rfl) dX12_bettiTaken_8 ⟨Nat.le_of_ble_eq_true rfl, Nat.le_of_ble_eq_true rfl⟩ (fun r_2 u_2 H locs hp_2 h => ?_)
  obtain rfl := hp_2
  have h : Hp D A s.heap (WM cI cJ cB cZ bd) H locs := h
  refine lv_isub hx hb dX12_bettiTaken_11 ?_
  refine lv_topi (fun v_3 ev_3 => ?_)
  obtain rfl : v_3 = 0 := ev_3.trans (by decide)
  refine lv_aload_n hx hb dX12_bettiTaken_12 rfl (lv_at hl 0 rfl) ?_
  refine lv_iload_n hx hb dX12_bettiTaken_13 rfl (lv_at hl 1 rfl) ?_
  refine lv_iconst (v := 1) hx hb dX12_bettiTaken_14 (by decide) ?_
  refine lv_iadd hx hb dX12_bettiTaken_15 ?_
  refine lv_topi (fun v_4 ev_4 => ?_)
  obtain rfl : v_4 = 3 := ev_4.trans (by decide)
  refine lv_iload_n hx hb dX12_bettiTaken_16 rfl (lv_at hl 2 rfl) ?_
  refine x_cVIF (n := 2) (As := [.int 3, .int 0]) (rest := [.int 0]) B h (k145_X12_rankOf l D cI cJ cB cZ ad bd) ⟨⟨_, rfl⟩, by decide +kernel, Nat.le_of_ble_eq_true rfl, Nat.le_of_ble_eq_true rfl⟩ gX12_bettiTaken_X12_rankOf (show ((WM cI cJ cB cZ bd) : va_W)[0]? = some (_, .inr (12, _)) from rfl) rfl rfl hl.1 rfl (Nat.le_of_ble_eq_true rfl) dX12_bettiTaken_17 ⟨Nat.le_of_ble_eq_true rfl, Nat.le_of_ble_eq_true rfl⟩ (fun r_5 u_5 H locs hp_5 h => ?_)
  obtain rfl := hp_5
  have h : Hp D A s.heap (WM cI cJ cB cZ bd) H locs := h
  refine lv_isub hx hb dX12_bettiTaken_20 ?_
  refine lv_topi (fun v_6 ev_6 => ?_)
  obtain rfl : v_6 = 0 := ev_6.trans (by decide)
  exact x_iret (w1 := (fun _ => (WM cI cJ cB cZ bd))) () B h hr rfl rfl dX12_bettiTaken_21
set_option maxHeartbeats 4000000 in
set_option maxRecDepth 100000 in
theorem k147_X12_in (l : Launch) (D : va_G) (cI cJ cB cZ : ClassId) (ad bd : Nat → Nat) : MetI l yX12_in wsX12_in 0 0 0 0 D (TYS cI cJ cB cZ) [] [.int 4, .int 1, .int 4] (fun (r : Int32) (_ : Unit) => r = 1) (fun _ => []) := by
  refine x_startI (ty := .boolean) (cc := cX12_in) (by decide) rfl (Nat.le_of_ble_eq_true rfl) ?_
  intro p e s m args below meth c A ls B hr hnm h hl
  have hx := B.1.1
  have hb := B.1.2.1
  have hml := B.1.2.2.1
  have hts := B.1.2.2.2.2
  have hown : s.vm.findClass RX12 = some m.cls := B.1.2.2.2.1
  have hl : lv_has ls 3 [(0, .int 4), (1, .int 1), (2, .int 4)] := hl
  refine lv_iload_n hx hb dX12_in_0 rfl (lv_at hl 0 rfl) ?_
  refine lv_iload_n hx hb dX12_in_1 rfl (lv_at hl 1 rfl) ?_
  refine lv_icmp_lt (tgt := 14) hx hb dX12_in_2 (by decide) (fun c_1 => absurd c_1 (by decide)) (fun c_1 => ?_)
  refine lv_iload_n hx hb dX12_in_5 rfl (lv_at hl 0 rfl) ?_
  refine lv_iload_n hx hb dX12_in_6 rfl (lv_at hl 2 rfl) ?_
  refine lv_icmp_gt (tgt := 14) hx hb dX12_in_7 (by decide) (fun c_2 => absurd c_2 (by decide)) (fun c_2 => ?_)
  refine lv_iconst (v := 1) hx hb dX12_in_10 (by decide) ?_
  refine lv_goto (tgt := 15) hx hb dX12_in_11 (by decide) ?_
  exact x_iret (w1 := (fun _ => [])) () B h hr rfl rfl dX12_in_15
set_option maxHeartbeats 4000000 in
set_option maxRecDepth 100000 in
theorem k148_X12_takenOf (l : Launch) (D : va_G) (cI cJ cB cZ : ClassId) (ad bd : Nat → Nat) : MetI l yX12_takenOf wsX12_takenOf 0 0 0 0 D (TYS cI cJ cB cZ) (WM cI cJ cB cZ bd) [.ref (bd 0), .int 4] (fun (r : Int32) (_ : Unit) => r = 0) (fun _ => (WM cI cJ cB cZ bd)) := by
  refine x_startI (ty := .int) (cc := cX12_takenOf) (by decide) rfl (Nat.le_of_ble_eq_true rfl) ?_
  intro p e s m args below meth c A ls B hr hnm h hl
  have hx := B.1.1
  have hb := B.1.2.1
  have hml := B.1.2.2.1
  have hts := B.1.2.2.2.2
  have hown : s.vm.findClass RX12 = some m.cls := B.1.2.2.2.1
  have hin12 : ∀ w ∈ u_ws RX12 TX12 31, w ∈ wsX12_takenOf := by decide +kernel
  have hl : lv_has ls 4 [(0, .ref (bd 0)), (1, .int 4)] := hl
  refine lv_iconst (v := 0) hx hb dX12_takenOf_0 (by decide) ?_
  refine lv_istore_n (lv' := [(2, .int 0), (0, .ref (bd 0)), (1, .int 4)]) hx hb dX12_takenOf_1 rfl hl (by decide) rfl (fun ls hl => ?_)
  refine lv_iconst (v := 0) hx hb dX12_takenOf_2 (by decide) ?_
  refine lv_istore_n (lv' := [(3, .int 0), (2, .int 0), (0, .ref (bd 0)), (1, .int 4)]) hx hb dX12_takenOf_3 rfl hl (by decide) rfl (fun ls hl => ?_)
  refine lv_iload_n hx hb dX12_takenOf_4 rfl (lv_at hl 0 rfl) ?_
  refine lv_aload_n hx hb dX12_takenOf_5 rfl (lv_at hl 2 rfl) ?_
  refine x_get (ci := 12) (C := RX12) (T := TX12) (N := 31) (v := .int 0) B h hin12 0 5 rfl rfl (by decide) (by decide +kernel) rfl dX12_takenOf_6 ?_
  refine lv_icmp_ge (tgt := 47) hx hb dX12_takenOf_9 (by decide) (fun c_1 => ?_) (fun c_1 => absurd c_1 (by decide))
  refine lv_iload_n hx hb dX12_takenOf_47 rfl (lv_at hl 1 rfl) ?_
  exact x_iret (w1 := (fun _ => (WM cI cJ cB cZ bd))) () B h hr rfl rfl dX12_takenOf_48
set_option maxHeartbeats 4000000 in
set_option maxRecDepth 100000 in
theorem k149_X12_laysTable (l : Launch) (D : va_G) (cI cJ cB cZ : ClassId) (ad bd : Nat → Nat) : MetV l yX12_laysTable wsX12_laysTable 1 23 0 0 D (TYS cI cJ cB cZ) (WM cI cJ cB cZ bd) [.ref (bd 0), .int 4, .int 0] (fun _ : Unit => True) (fun _ => (WM cI cJ cB cZ bd)) := by
  refine x_startV (ty := .int) (cc := cX12_laysTable) (by decide) rfl (Nat.le_of_ble_eq_true rfl) ?_
  intro p e s m args below meth c A ls B hr hnm h hl
  have hx := B.1.1
  have hb := B.1.2.1
  have hml := B.1.2.2.1
  have hts := B.1.2.2.2.2
  have hown : s.vm.findClass RX12 = some m.cls := B.1.2.2.2.1
  have hin12 : ∀ w ∈ u_ws RX12 TX12 31, w ∈ wsX12_laysTable := by decide +kernel
  have hl : lv_has ls 7 [(0, .ref (bd 0)), (1, .int 4), (2, .int 0)] := hl
  refine lv_aload_n hx hb dX12_laysTable_0 rfl (lv_at hl 0 rfl) ?_
  refine lv_aload_n hx hb dX12_laysTable_1 rfl (lv_at hl 0 rfl) ?_
  refine lv_iload_n hx hb dX12_laysTable_2 rfl (lv_at hl 1 rfl) ?_
  refine x_cVIF (n := 1) (As := [.int 4]) (rest := [.ref (bd 0)]) B h (k148_X12_takenOf l D cI cJ cB cZ ad bd) ⟨⟨_, rfl⟩, by decide +kernel, Nat.le_of_ble_eq_true rfl, Nat.le_of_ble_eq_true rfl⟩ gX12_laysTable_X12_takenOf (show ((WM cI cJ cB cZ bd) : va_W)[0]? = some (_, .inr (12, _)) from rfl) rfl rfl hl.1 rfl (Nat.le_of_ble_eq_true rfl) dX12_laysTable_3 ⟨Nat.le_of_ble_eq_true rfl, Nat.le_of_ble_eq_true rfl⟩ (fun r_1 u_1 H locs hp_1 h => ?_)
  obtain rfl := hp_1
  have h : Hp D A s.heap (WM cI cJ cB cZ bd) H locs := h
  refine x_put (ci := 12) (C := RX12) (T := TX12) (N := 31) (v := .int 0) (ty := .int) B h hin12 tyX12 tyX12_ok nmX12 0 23 rfl rfl (by decide) (by decide +kernel) rfl rfl rfl rfl (Nat.le_of_ble_eq_true rfl) dX12_laysTable_6 (fun H locs h => ?_)
  have h : Hp D A s.heap (WM cI cJ cB cZ bd) H locs := h
  refine lv_aload_n hx hb dX12_laysTable_9 rfl (lv_at hl 0 rfl) ?_
  refine lv_aload_n hx hb dX12_laysTable_10 rfl (lv_at hl 0 rfl) ?_
  refine lv_iload_n hx hb dX12_laysTable_11 rfl (lv_at hl 1 rfl) ?_
  refine lv_iconst (v := 1) hx hb dX12_laysTable_12 (by decide) ?_
  refine lv_isub hx hb dX12_laysTable_13 ?_
  refine lv_topi (fun v_2 ev_2 => ?_)
  obtain rfl : v_2 = 3 := ev_2.trans (by decide)
  refine x_cVIF (n := 1) (As := [.int 3]) (rest := [.ref (bd 0)]) B h (k143_X12_takenOf l D cI cJ cB cZ ad bd) ⟨⟨_, rfl⟩, by decide +kernel, Nat.le_of_ble_eq_true rfl, Nat.le_of_ble_eq_true rfl⟩ gX12_laysTable_X12_takenOf (show ((WM cI cJ cB cZ bd) : va_W)[0]? = some (_, .inr (12, _)) from rfl) rfl rfl hl.1 rfl (Nat.le_of_ble_eq_true rfl) dX12_laysTable_14 ⟨Nat.le_of_ble_eq_true rfl, Nat.le_of_ble_eq_true rfl⟩ (fun r_3 u_3 H locs hp_3 h => ?_)
  obtain rfl := hp_3
  have h : Hp D A s.heap (WM cI cJ cB cZ bd) H locs := h
  refine x_put (ci := 12) (C := RX12) (T := TX12) (N := 31) (v := .int 0) (ty := .int) B h hin12 tyX12 tyX12_ok nmX12 0 24 rfl rfl (by decide) (by decide +kernel) rfl rfl rfl rfl (Nat.le_of_ble_eq_true rfl) dX12_laysTable_17 (fun H locs h => ?_)
  have h : Hp D A s.heap (WM cI cJ cB cZ bd) H locs := h
  refine lv_iconst (v := 0) hx hb dX12_laysTable_20 (by decide) ?_
  refine lv_istore_n (lv' := [(3, .int 0), (0, .ref (bd 0)), (1, .int 4), (2, .int 0)]) hx hb dX12_laysTable_21 rfl hl (by decide) rfl (fun ls hl => ?_)
  refine lv_iconst (v := 0) hx hb dX12_laysTable_22 (by decide) ?_
  refine lv_istore (lv' := [(4, .int 0), (3, .int 0), (0, .ref (bd 0)), (1, .int 4), (2, .int 0)]) hx hb dX12_laysTable_23 hl (by decide) rfl (fun ls hl => ?_)
  refine lv_iload hx hb dX12_laysTable_25 (lv_at hl 0 rfl) ?_
  refine lv_aload_n hx hb dX12_laysTable_27 rfl (lv_at hl 2 rfl) ?_
  refine x_get (ci := 12) (C := RX12) (T := TX12) (N := 31) (v := .int 0) B h hin12 0 5 rfl rfl (by decide) (by decide +kernel) rfl dX12_laysTable_28 ?_
  refine lv_icmp_ge (tgt := 164) hx hb dX12_laysTable_31 (by decide) (fun c_4 => ?_) (fun c_4 => absurd c_4 (by decide))
  exact x_vret (w1 := (fun _ => (WM cI cJ cB cZ bd))) () B h hr trivial dX12_laysTable_164
set_option maxHeartbeats 4000000 in
set_option maxRecDepth 100000 in
theorem k150_X12_rankOf (l : Launch) (D : va_G) (cI cJ cB cZ : ClassId) (ad bd : Nat → Nat) : MetI l yX12_rankOf wsX12_rankOf 2 49 0 0 D (TYS cI cJ cB cZ) (WM cI cJ cB cZ bd) [.ref (bd 0), .int 4, .int 0] (fun (r : Int32) (_ : Unit) => r = 0) (fun _ => (WM cI cJ cB cZ bd)) := by
  refine x_startI (ty := .int) (cc := cX12_rankOf) (by decide) rfl (Nat.le_of_ble_eq_true rfl) ?_
  intro p e s m args below meth c A ls B hr hnm h hl
  have hx := B.1.1
  have hb := B.1.2.1
  have hml := B.1.2.2.1
  have hts := B.1.2.2.2.2
  have hown : s.vm.findClass RX12 = some m.cls := B.1.2.2.2.1
  have hl : lv_has ls 3 [(0, .ref (bd 0)), (1, .int 4), (2, .int 0)] := hl
  refine lv_iload_n hx hb dX12_rankOf_0 rfl (lv_at hl 1 rfl) ?_
  refine lv_iconst (v := 1) hx hb dX12_rankOf_1 (by decide) ?_
  refine lv_iconst (v := 4) hx hb dX12_rankOf_2 (by decide) ?_
  refine x_cSIE (n := 3) (As := [.int 4, .int 1, .int 4]) (rest := []) B h (k147_X12_in l D cI cJ cB cZ ad bd) ⟨⟨_, rfl⟩, by decide +kernel, Nat.le_of_ble_eq_true rfl, Nat.le_of_ble_eq_true rfl⟩ gX12_rankOf_X12_in rfl hl.1 rfl (Nat.le_of_ble_eq_true rfl) dX12_rankOf_3 ⟨Nat.le_of_ble_eq_true rfl, Nat.le_of_ble_eq_true rfl⟩ (fun r_1 u_1 H locs hp_1 h => ?_)
  obtain rfl := hp_1
  have h : Hp D A s.heap (WM cI cJ cB cZ bd) H locs := h
  refine lv_if_ne (tgt := 11) hx hb dX12_rankOf_6 (by decide) (fun c_2 => ?_) (fun c_2 => absurd c_2 (by decide))
  refine lv_aload_n hx hb dX12_rankOf_11 rfl (lv_at hl 0 rfl) ?_
  refine lv_iload_n hx hb dX12_rankOf_12 rfl (lv_at hl 1 rfl) ?_
  refine lv_iload_n hx hb dX12_rankOf_13 rfl (lv_at hl 2 rfl) ?_
  refine x_cVVF (n := 2) (As := [.int 4, .int 0]) (rest := []) B h (k149_X12_laysTable l D cI cJ cB cZ ad bd) ⟨⟨_, rfl⟩, by decide +kernel, Nat.le_of_ble_eq_true rfl, Nat.le_of_ble_eq_true rfl⟩ gX12_rankOf_X12_laysTable (show ((WM cI cJ cB cZ bd) : va_W)[0]? = some (_, .inr (12, _)) from rfl) rfl rfl hl.1 rfl (Nat.le_of_ble_eq_true rfl) dX12_rankOf_14 ⟨Nat.le_of_ble_eq_true rfl, Nat.le_of_ble_eq_true rfl⟩ (fun u_3 H locs hp_3 h => ?_)
  have h : Hp D A s.heap (WM cI cJ cB cZ bd) H locs := h
  refine lv_aload_n hx hb dX12_rankOf_17 rfl (lv_at hl 0 rfl) ?_
  refine x_cVIF (n := 0) (As := []) (rest := []) B h (k134_X12_laysSteps l D cI cJ cB cZ ad bd) ⟨⟨_, rfl⟩, by decide +kernel, Nat.le_of_ble_eq_true rfl, Nat.le_of_ble_eq_true rfl⟩ gX12_rankOf_X12_laysSteps (show ((WM cI cJ cB cZ bd) : va_W)[0]? = some (_, .inr (12, _)) from rfl) rfl rfl hl.1 rfl (Nat.le_of_ble_eq_true rfl) dX12_rankOf_18 ⟨Nat.le_of_ble_eq_true rfl, Nat.le_of_ble_eq_true rfl⟩ (fun r_4 u_4 H locs hp_4 h => ?_)
  obtain rfl := hp_4
  have h : Hp D A s.heap (WM cI cJ cB cZ bd) H locs := h
  exact x_iret (w1 := (fun _ => (WM cI cJ cB cZ bd))) () B h hr rfl rfl dX12_rankOf_21
set_option maxHeartbeats 4000000 in
set_option maxRecDepth 100000 in
theorem k151_X12_bettiTaken (l : Launch) (D : va_G) (cI cJ cB cZ : ClassId) (ad bd : Nat → Nat) : MetI l yX12_bettiTaken wsX12_bettiTaken 3 71 0 0 D (TYS cI cJ cB cZ) (WM cI cJ cB cZ bd) [.ref (bd 0), .int 3, .int 0] (fun (r : Int32) (_ : Unit) => r = 0) (fun _ => (WM cI cJ cB cZ bd)) := by
  refine x_startI (ty := .int) (cc := cX12_bettiTaken) (by decide) rfl (Nat.le_of_ble_eq_true rfl) ?_
  intro p e s m args below meth c A ls B hr hnm h hl
  have hx := B.1.1
  have hb := B.1.2.1
  have hml := B.1.2.2.1
  have hts := B.1.2.2.2.2
  have hown : s.vm.findClass RX12 = some m.cls := B.1.2.2.2.1
  have hl : lv_has ls 3 [(0, .ref (bd 0)), (1, .int 3), (2, .int 0)] := hl
  refine lv_aload_n hx hb dX12_bettiTaken_0 rfl (lv_at hl 0 rfl) ?_
  refine lv_iload_n hx hb dX12_bettiTaken_1 rfl (lv_at hl 1 rfl) ?_
  refine x_cVIF (n := 1) (As := [.int 3]) (rest := []) B h (k143_X12_takenOf l D cI cJ cB cZ ad bd) ⟨⟨_, rfl⟩, by decide +kernel, Nat.le_of_ble_eq_true rfl, Nat.le_of_ble_eq_true rfl⟩ gX12_bettiTaken_X12_takenOf (show ((WM cI cJ cB cZ bd) : va_W)[0]? = some (_, .inr (12, _)) from rfl) rfl rfl hl.1 rfl (Nat.le_of_ble_eq_true rfl) dX12_bettiTaken_2 ⟨Nat.le_of_ble_eq_true rfl, Nat.le_of_ble_eq_true rfl⟩ (fun r_1 u_1 H locs hp_1 h => ?_)
  obtain rfl := hp_1
  have h : Hp D A s.heap (WM cI cJ cB cZ bd) H locs := h
  refine lv_aload_n hx hb dX12_bettiTaken_5 rfl (lv_at hl 0 rfl) ?_
  refine lv_iload_n hx hb dX12_bettiTaken_6 rfl (lv_at hl 1 rfl) ?_
  refine lv_iload_n hx hb dX12_bettiTaken_7 rfl (lv_at hl 2 rfl) ?_
  refine x_cVIF (n := 2) (As := [.int 3, .int 0]) (rest := [.int 0]) B h (k145_X12_rankOf l D cI cJ cB cZ ad bd) ⟨⟨_, rfl⟩, by decide +kernel, Nat.le_of_ble_eq_true rfl, Nat.le_of_ble_eq_true rfl⟩ gX12_bettiTaken_X12_rankOf (show ((WM cI cJ cB cZ bd) : va_W)[0]? = some (_, .inr (12, _)) from rfl) rfl rfl hl.1 rfl (Nat.le_of_ble_eq_true rfl) dX12_bettiTaken_8 ⟨Nat.le_of_ble_eq_true rfl, Nat.le_of_ble_eq_true rfl⟩ (fun r_2 u_2 H locs hp_2 h => ?_)
  obtain rfl := hp_2
  have h : Hp D A s.heap (WM cI cJ cB cZ bd) H locs := h
  refine lv_isub hx hb dX12_bettiTaken_11 ?_
  refine lv_topi (fun v_3 ev_3 => ?_)
  obtain rfl : v_3 = 0 := ev_3.trans (by decide)
  refine lv_aload_n hx hb dX12_bettiTaken_12 rfl (lv_at hl 0 rfl) ?_
  refine lv_iload_n hx hb dX12_bettiTaken_13 rfl (lv_at hl 1 rfl) ?_
  refine lv_iconst (v := 1) hx hb dX12_bettiTaken_14 (by decide) ?_
  refine lv_iadd hx hb dX12_bettiTaken_15 ?_
  refine lv_topi (fun v_4 ev_4 => ?_)
  obtain rfl : v_4 = 4 := ev_4.trans (by decide)
  refine lv_iload_n hx hb dX12_bettiTaken_16 rfl (lv_at hl 2 rfl) ?_
  refine x_cVIF (n := 2) (As := [.int 4, .int 0]) (rest := [.int 0]) B h (k150_X12_rankOf l D cI cJ cB cZ ad bd) ⟨⟨_, rfl⟩, by decide +kernel, Nat.le_of_ble_eq_true rfl, Nat.le_of_ble_eq_true rfl⟩ gX12_bettiTaken_X12_rankOf (show ((WM cI cJ cB cZ bd) : va_W)[0]? = some (_, .inr (12, _)) from rfl) rfl rfl hl.1 rfl (Nat.le_of_ble_eq_true rfl) dX12_bettiTaken_17 ⟨Nat.le_of_ble_eq_true rfl, Nat.le_of_ble_eq_true rfl⟩ (fun r_5 u_5 H locs hp_5 h => ?_)
  obtain rfl := hp_5
  have h : Hp D A s.heap (WM cI cJ cB cZ bd) H locs := h
  refine lv_isub hx hb dX12_bettiTaken_20 ?_
  refine lv_topi (fun v_6 ev_6 => ?_)
  obtain rfl : v_6 = 0 := ev_6.trans (by decide)
  exact x_iret (w1 := (fun _ => (WM cI cJ cB cZ bd))) () B h hr rfl rfl dX12_bettiTaken_21
set_option maxHeartbeats 4000000 in
set_option maxRecDepth 100000 in
theorem k152_X12_in (l : Launch) (D : va_G) (cI cJ cB cZ : ClassId) (ad bd : Nat → Nat) : MetI l yX12_in wsX12_in 0 0 0 0 D (TYS cI cJ cB cZ) [] [.int 5, .int 1, .int 4] (fun (r : Int32) (_ : Unit) => r = 0) (fun _ => []) := by
  refine x_startI (ty := .boolean) (cc := cX12_in) (by decide) rfl (Nat.le_of_ble_eq_true rfl) ?_
  intro p e s m args below meth c A ls B hr hnm h hl
  have hx := B.1.1
  have hb := B.1.2.1
  have hml := B.1.2.2.1
  have hts := B.1.2.2.2.2
  have hown : s.vm.findClass RX12 = some m.cls := B.1.2.2.2.1
  have hl : lv_has ls 3 [(0, .int 5), (1, .int 1), (2, .int 4)] := hl
  refine lv_iload_n hx hb dX12_in_0 rfl (lv_at hl 0 rfl) ?_
  refine lv_iload_n hx hb dX12_in_1 rfl (lv_at hl 1 rfl) ?_
  refine lv_icmp_lt (tgt := 14) hx hb dX12_in_2 (by decide) (fun c_1 => absurd c_1 (by decide)) (fun c_1 => ?_)
  refine lv_iload_n hx hb dX12_in_5 rfl (lv_at hl 0 rfl) ?_
  refine lv_iload_n hx hb dX12_in_6 rfl (lv_at hl 2 rfl) ?_
  refine lv_icmp_gt (tgt := 14) hx hb dX12_in_7 (by decide) (fun c_2 => ?_) (fun c_2 => absurd c_2 (by decide))
  refine lv_iconst (v := 0) hx hb dX12_in_14 (by decide) ?_
  exact x_iret (w1 := (fun _ => [])) () B h hr rfl rfl dX12_in_15
set_option maxHeartbeats 4000000 in
set_option maxRecDepth 100000 in
theorem k153_X12_rankOf (l : Launch) (D : va_G) (cI cJ cB cZ : ClassId) (ad bd : Nat → Nat) : MetI l yX12_rankOf wsX12_rankOf 1 22 0 0 D (TYS cI cJ cB cZ) (WM cI cJ cB cZ bd) [.ref (bd 0), .int 5, .int 0] (fun (r : Int32) (_ : Unit) => r = 0) (fun _ => (WM cI cJ cB cZ bd)) := by
  refine x_startI (ty := .int) (cc := cX12_rankOf) (by decide) rfl (Nat.le_of_ble_eq_true rfl) ?_
  intro p e s m args below meth c A ls B hr hnm h hl
  have hx := B.1.1
  have hb := B.1.2.1
  have hml := B.1.2.2.1
  have hts := B.1.2.2.2.2
  have hown : s.vm.findClass RX12 = some m.cls := B.1.2.2.2.1
  have hl : lv_has ls 3 [(0, .ref (bd 0)), (1, .int 5), (2, .int 0)] := hl
  refine lv_iload_n hx hb dX12_rankOf_0 rfl (lv_at hl 1 rfl) ?_
  refine lv_iconst (v := 1) hx hb dX12_rankOf_1 (by decide) ?_
  refine lv_iconst (v := 4) hx hb dX12_rankOf_2 (by decide) ?_
  refine x_cSIE (n := 3) (As := [.int 5, .int 1, .int 4]) (rest := []) B h (k152_X12_in l D cI cJ cB cZ ad bd) ⟨⟨_, rfl⟩, by decide +kernel, Nat.le_of_ble_eq_true rfl, Nat.le_of_ble_eq_true rfl⟩ gX12_rankOf_X12_in rfl hl.1 rfl (Nat.le_of_ble_eq_true rfl) dX12_rankOf_3 ⟨Nat.le_of_ble_eq_true rfl, Nat.le_of_ble_eq_true rfl⟩ (fun r_1 u_1 H locs hp_1 h => ?_)
  obtain rfl := hp_1
  have h : Hp D A s.heap (WM cI cJ cB cZ bd) H locs := h
  refine lv_if_ne (tgt := 11) hx hb dX12_rankOf_6 (by decide) (fun c_2 => absurd c_2 (by decide)) (fun c_2 => ?_)
  refine lv_iconst (v := 0) hx hb dX12_rankOf_9 (by decide) ?_
  exact x_iret (w1 := (fun _ => (WM cI cJ cB cZ bd))) () B h hr rfl rfl dX12_rankOf_10
set_option maxHeartbeats 4000000 in
set_option maxRecDepth 100000 in
theorem k154_X12_bettiTaken (l : Launch) (D : va_G) (cI cJ cB cZ : ClassId) (ad bd : Nat → Nat) : MetI l yX12_bettiTaken wsX12_bettiTaken 3 71 0 0 D (TYS cI cJ cB cZ) (WM cI cJ cB cZ bd) [.ref (bd 0), .int 4, .int 0] (fun (r : Int32) (_ : Unit) => r = 0) (fun _ => (WM cI cJ cB cZ bd)) := by
  refine x_startI (ty := .int) (cc := cX12_bettiTaken) (by decide) rfl (Nat.le_of_ble_eq_true rfl) ?_
  intro p e s m args below meth c A ls B hr hnm h hl
  have hx := B.1.1
  have hb := B.1.2.1
  have hml := B.1.2.2.1
  have hts := B.1.2.2.2.2
  have hown : s.vm.findClass RX12 = some m.cls := B.1.2.2.2.1
  have hl : lv_has ls 3 [(0, .ref (bd 0)), (1, .int 4), (2, .int 0)] := hl
  refine lv_aload_n hx hb dX12_bettiTaken_0 rfl (lv_at hl 0 rfl) ?_
  refine lv_iload_n hx hb dX12_bettiTaken_1 rfl (lv_at hl 1 rfl) ?_
  refine x_cVIF (n := 1) (As := [.int 4]) (rest := []) B h (k148_X12_takenOf l D cI cJ cB cZ ad bd) ⟨⟨_, rfl⟩, by decide +kernel, Nat.le_of_ble_eq_true rfl, Nat.le_of_ble_eq_true rfl⟩ gX12_bettiTaken_X12_takenOf (show ((WM cI cJ cB cZ bd) : va_W)[0]? = some (_, .inr (12, _)) from rfl) rfl rfl hl.1 rfl (Nat.le_of_ble_eq_true rfl) dX12_bettiTaken_2 ⟨Nat.le_of_ble_eq_true rfl, Nat.le_of_ble_eq_true rfl⟩ (fun r_1 u_1 H locs hp_1 h => ?_)
  obtain rfl := hp_1
  have h : Hp D A s.heap (WM cI cJ cB cZ bd) H locs := h
  refine lv_aload_n hx hb dX12_bettiTaken_5 rfl (lv_at hl 0 rfl) ?_
  refine lv_iload_n hx hb dX12_bettiTaken_6 rfl (lv_at hl 1 rfl) ?_
  refine lv_iload_n hx hb dX12_bettiTaken_7 rfl (lv_at hl 2 rfl) ?_
  refine x_cVIF (n := 2) (As := [.int 4, .int 0]) (rest := [.int 0]) B h (k150_X12_rankOf l D cI cJ cB cZ ad bd) ⟨⟨_, rfl⟩, by decide +kernel, Nat.le_of_ble_eq_true rfl, Nat.le_of_ble_eq_true rfl⟩ gX12_bettiTaken_X12_rankOf (show ((WM cI cJ cB cZ bd) : va_W)[0]? = some (_, .inr (12, _)) from rfl) rfl rfl hl.1 rfl (Nat.le_of_ble_eq_true rfl) dX12_bettiTaken_8 ⟨Nat.le_of_ble_eq_true rfl, Nat.le_of_ble_eq_true rfl⟩ (fun r_2 u_2 H locs hp_2 h => ?_)
  obtain rfl := hp_2
  have h : Hp D A s.heap (WM cI cJ cB cZ bd) H locs := h
  refine lv_isub hx hb dX12_bettiTaken_11 ?_
  refine lv_topi (fun v_3 ev_3 => ?_)
  obtain rfl : v_3 = 0 := ev_3.trans (by decide)
  refine lv_aload_n hx hb dX12_bettiTaken_12 rfl (lv_at hl 0 rfl) ?_
  refine lv_iload_n hx hb dX12_bettiTaken_13 rfl (lv_at hl 1 rfl) ?_
  refine lv_iconst (v := 1) hx hb dX12_bettiTaken_14 (by decide) ?_
  refine lv_iadd hx hb dX12_bettiTaken_15 ?_
  refine lv_topi (fun v_4 ev_4 => ?_)
  obtain rfl : v_4 = 5 := ev_4.trans (by decide)
  refine lv_iload_n hx hb dX12_bettiTaken_16 rfl (lv_at hl 2 rfl) ?_
  refine x_cVIF (n := 2) (As := [.int 5, .int 0]) (rest := [.int 0]) B h (k153_X12_rankOf l D cI cJ cB cZ ad bd) ⟨⟨_, rfl⟩, by decide +kernel, Nat.le_of_ble_eq_true rfl, Nat.le_of_ble_eq_true rfl⟩ gX12_bettiTaken_X12_rankOf (show ((WM cI cJ cB cZ bd) : va_W)[0]? = some (_, .inr (12, _)) from rfl) rfl rfl hl.1 rfl (Nat.le_of_ble_eq_true rfl) dX12_bettiTaken_17 ⟨Nat.le_of_ble_eq_true rfl, Nat.le_of_ble_eq_true rfl⟩ (fun r_5 u_5 H locs hp_5 h => ?_)
  obtain rfl := hp_5
  have h : Hp D A s.heap (WM cI cJ cB cZ bd) H locs := h
  refine lv_isub hx hb dX12_bettiTaken_20 ?_
  refine lv_topi (fun v_6 ev_6 => ?_)
  obtain rfl : v_6 = 0 := ev_6.trans (by decide)
  exact x_iret (w1 := (fun _ => (WM cI cJ cB cZ bd))) () B h hr rfl rfl dX12_bettiTaken_21
set_option maxHeartbeats 4000000 in
set_option maxRecDepth 100000 in
theorem k155_X12_takes (l : Launch) (D : va_G) (cI cJ cB cZ : ClassId) (ad bd : Nat → Nat) : MetV l yX12_takes wsX12_takes 0 0 0 0 D (TYS cI cJ cB cZ) (WM cI cJ cB cZ bd) [.ref (bd 0), .int 1] (fun _ : Unit => True) (fun _ => (WM cI cJ cB cZ bd)) := by
  refine x_startV (ty := .int) (cc := cX12_takes) (by decide) rfl (Nat.le_of_ble_eq_true rfl) ?_
  intro p e s m args below meth c A ls B hr hnm h hl
  have hx := B.1.1
  have hb := B.1.2.1
  have hml := B.1.2.2.1
  have hts := B.1.2.2.2.2
  have hown : s.vm.findClass RX12 = some m.cls := B.1.2.2.2.1
  have hin12 : ∀ w ∈ u_ws RX12 TX12 31, w ∈ wsX12_takes := by decide +kernel
  have hl : lv_has ls 3 [(0, .ref (bd 0)), (1, .int 1)] := hl
  refine lv_iconst (v := 0) hx hb dX12_takes_0 (by decide) ?_
  refine lv_istore_n (lv' := [(2, .int 0), (0, .ref (bd 0)), (1, .int 1)]) hx hb dX12_takes_1 rfl hl (by decide) rfl (fun ls hl => ?_)
  refine lv_iload_n hx hb dX12_takes_2 rfl (lv_at hl 0 rfl) ?_
  refine lv_aload_n hx hb dX12_takes_3 rfl (lv_at hl 1 rfl) ?_
  refine x_get (ci := 12) (C := RX12) (T := TX12) (N := 31) (v := .int 0) B h hin12 0 5 rfl rfl (by decide) (by decide +kernel) rfl dX12_takes_4 ?_
  refine lv_icmp_ge (tgt := 48) hx hb dX12_takes_7 (by decide) (fun c_1 => ?_) (fun c_1 => absurd c_1 (by decide))
  exact x_vret (w1 := (fun _ => (WM cI cJ cB cZ bd))) () B h hr trivial dX12_takes_48
set_option maxHeartbeats 4000000 in
set_option maxRecDepth 100000 in
theorem k156_X12_rankOf (l : Launch) (D : va_G) (cI cJ cB cZ : ClassId) (ad bd : Nat → Nat) : MetI l yX12_rankOf wsX12_rankOf 1 22 0 0 D (TYS cI cJ cB cZ) (WM cI cJ cB cZ bd) [.ref (bd 0), .int 0, .int 1] (fun (r : Int32) (_ : Unit) => r = 0) (fun _ => (WM cI cJ cB cZ bd)) := by
  refine x_startI (ty := .int) (cc := cX12_rankOf) (by decide) rfl (Nat.le_of_ble_eq_true rfl) ?_
  intro p e s m args below meth c A ls B hr hnm h hl
  have hx := B.1.1
  have hb := B.1.2.1
  have hml := B.1.2.2.1
  have hts := B.1.2.2.2.2
  have hown : s.vm.findClass RX12 = some m.cls := B.1.2.2.2.1
  have hl : lv_has ls 3 [(0, .ref (bd 0)), (1, .int 0), (2, .int 1)] := hl
  refine lv_iload_n hx hb dX12_rankOf_0 rfl (lv_at hl 1 rfl) ?_
  refine lv_iconst (v := 1) hx hb dX12_rankOf_1 (by decide) ?_
  refine lv_iconst (v := 4) hx hb dX12_rankOf_2 (by decide) ?_
  refine x_cSIE (n := 3) (As := [.int 0, .int 1, .int 4]) (rest := []) B h (k129_X12_in l D cI cJ cB cZ ad bd) ⟨⟨_, rfl⟩, by decide +kernel, Nat.le_of_ble_eq_true rfl, Nat.le_of_ble_eq_true rfl⟩ gX12_rankOf_X12_in rfl hl.1 rfl (Nat.le_of_ble_eq_true rfl) dX12_rankOf_3 ⟨Nat.le_of_ble_eq_true rfl, Nat.le_of_ble_eq_true rfl⟩ (fun r_1 u_1 H locs hp_1 h => ?_)
  obtain rfl := hp_1
  have h : Hp D A s.heap (WM cI cJ cB cZ bd) H locs := h
  refine lv_if_ne (tgt := 11) hx hb dX12_rankOf_6 (by decide) (fun c_2 => absurd c_2 (by decide)) (fun c_2 => ?_)
  refine lv_iconst (v := 0) hx hb dX12_rankOf_9 (by decide) ?_
  exact x_iret (w1 := (fun _ => (WM cI cJ cB cZ bd))) () B h hr rfl rfl dX12_rankOf_10
set_option maxHeartbeats 4000000 in
set_option maxRecDepth 100000 in
theorem k157_X12_laysTable (l : Launch) (D : va_G) (cI cJ cB cZ : ClassId) (ad bd : Nat → Nat) : MetV l yX12_laysTable wsX12_laysTable 1 23 0 0 D (TYS cI cJ cB cZ) (WM cI cJ cB cZ bd) [.ref (bd 0), .int 1, .int 1] (fun _ : Unit => True) (fun _ => (WM cI cJ cB cZ bd)) := by
  refine x_startV (ty := .int) (cc := cX12_laysTable) (by decide) rfl (Nat.le_of_ble_eq_true rfl) ?_
  intro p e s m args below meth c A ls B hr hnm h hl
  have hx := B.1.1
  have hb := B.1.2.1
  have hml := B.1.2.2.1
  have hts := B.1.2.2.2.2
  have hown : s.vm.findClass RX12 = some m.cls := B.1.2.2.2.1
  have hin12 : ∀ w ∈ u_ws RX12 TX12 31, w ∈ wsX12_laysTable := by decide +kernel
  have hl : lv_has ls 7 [(0, .ref (bd 0)), (1, .int 1), (2, .int 1)] := hl
  refine lv_aload_n hx hb dX12_laysTable_0 rfl (lv_at hl 0 rfl) ?_
  refine lv_aload_n hx hb dX12_laysTable_1 rfl (lv_at hl 0 rfl) ?_
  refine lv_iload_n hx hb dX12_laysTable_2 rfl (lv_at hl 1 rfl) ?_
  refine x_cVIF (n := 1) (As := [.int 1]) (rest := [.ref (bd 0)]) B h (k132_X12_takenOf l D cI cJ cB cZ ad bd) ⟨⟨_, rfl⟩, by decide +kernel, Nat.le_of_ble_eq_true rfl, Nat.le_of_ble_eq_true rfl⟩ gX12_laysTable_X12_takenOf (show ((WM cI cJ cB cZ bd) : va_W)[0]? = some (_, .inr (12, _)) from rfl) rfl rfl hl.1 rfl (Nat.le_of_ble_eq_true rfl) dX12_laysTable_3 ⟨Nat.le_of_ble_eq_true rfl, Nat.le_of_ble_eq_true rfl⟩ (fun r_1 u_1 H locs hp_1 h => ?_)
  obtain rfl := hp_1
  have h : Hp D A s.heap (WM cI cJ cB cZ bd) H locs := h
  refine x_put (ci := 12) (C := RX12) (T := TX12) (N := 31) (v := .int 0) (ty := .int) B h hin12 tyX12 tyX12_ok nmX12 0 23 rfl rfl (by decide) (by decide +kernel) rfl rfl rfl rfl (Nat.le_of_ble_eq_true rfl) dX12_laysTable_6 (fun H locs h => ?_)
  have h : Hp D A s.heap (WM cI cJ cB cZ bd) H locs := h
  refine lv_aload_n hx hb dX12_laysTable_9 rfl (lv_at hl 0 rfl) ?_
  refine lv_aload_n hx hb dX12_laysTable_10 rfl (lv_at hl 0 rfl) ?_
  refine lv_iload_n hx hb dX12_laysTable_11 rfl (lv_at hl 1 rfl) ?_
  refine lv_iconst (v := 1) hx hb dX12_laysTable_12 (by decide) ?_
  refine lv_isub hx hb dX12_laysTable_13 ?_
  refine lv_topi (fun v_2 ev_2 => ?_)
  obtain rfl : v_2 = 0 := ev_2.trans (by decide)
  refine x_cVIF (n := 1) (As := [.int 0]) (rest := [.ref (bd 0)]) B h (k128_X12_takenOf l D cI cJ cB cZ ad bd) ⟨⟨_, rfl⟩, by decide +kernel, Nat.le_of_ble_eq_true rfl, Nat.le_of_ble_eq_true rfl⟩ gX12_laysTable_X12_takenOf (show ((WM cI cJ cB cZ bd) : va_W)[0]? = some (_, .inr (12, _)) from rfl) rfl rfl hl.1 rfl (Nat.le_of_ble_eq_true rfl) dX12_laysTable_14 ⟨Nat.le_of_ble_eq_true rfl, Nat.le_of_ble_eq_true rfl⟩ (fun r_3 u_3 H locs hp_3 h => ?_)
  obtain rfl := hp_3
  have h : Hp D A s.heap (WM cI cJ cB cZ bd) H locs := h
  refine x_put (ci := 12) (C := RX12) (T := TX12) (N := 31) (v := .int 0) (ty := .int) B h hin12 tyX12 tyX12_ok nmX12 0 24 rfl rfl (by decide) (by decide +kernel) rfl rfl rfl rfl (Nat.le_of_ble_eq_true rfl) dX12_laysTable_17 (fun H locs h => ?_)
  have h : Hp D A s.heap (WM cI cJ cB cZ bd) H locs := h
  refine lv_iconst (v := 0) hx hb dX12_laysTable_20 (by decide) ?_
  refine lv_istore_n (lv' := [(3, .int 0), (0, .ref (bd 0)), (1, .int 1), (2, .int 1)]) hx hb dX12_laysTable_21 rfl hl (by decide) rfl (fun ls hl => ?_)
  refine lv_iconst (v := 0) hx hb dX12_laysTable_22 (by decide) ?_
  refine lv_istore (lv' := [(4, .int 0), (3, .int 0), (0, .ref (bd 0)), (1, .int 1), (2, .int 1)]) hx hb dX12_laysTable_23 hl (by decide) rfl (fun ls hl => ?_)
  refine lv_iload hx hb dX12_laysTable_25 (lv_at hl 0 rfl) ?_
  refine lv_aload_n hx hb dX12_laysTable_27 rfl (lv_at hl 2 rfl) ?_
  refine x_get (ci := 12) (C := RX12) (T := TX12) (N := 31) (v := .int 0) B h hin12 0 5 rfl rfl (by decide) (by decide +kernel) rfl dX12_laysTable_28 ?_
  refine lv_icmp_ge (tgt := 164) hx hb dX12_laysTable_31 (by decide) (fun c_4 => ?_) (fun c_4 => absurd c_4 (by decide))
  exact x_vret (w1 := (fun _ => (WM cI cJ cB cZ bd))) () B h hr trivial dX12_laysTable_164
set_option maxHeartbeats 4000000 in
set_option maxRecDepth 100000 in
theorem k158_X12_rankOf (l : Launch) (D : va_G) (cI cJ cB cZ : ClassId) (ad bd : Nat → Nat) : MetI l yX12_rankOf wsX12_rankOf 2 49 0 0 D (TYS cI cJ cB cZ) (WM cI cJ cB cZ bd) [.ref (bd 0), .int 1, .int 1] (fun (r : Int32) (_ : Unit) => r = 0) (fun _ => (WM cI cJ cB cZ bd)) := by
  refine x_startI (ty := .int) (cc := cX12_rankOf) (by decide) rfl (Nat.le_of_ble_eq_true rfl) ?_
  intro p e s m args below meth c A ls B hr hnm h hl
  have hx := B.1.1
  have hb := B.1.2.1
  have hml := B.1.2.2.1
  have hts := B.1.2.2.2.2
  have hown : s.vm.findClass RX12 = some m.cls := B.1.2.2.2.1
  have hl : lv_has ls 3 [(0, .ref (bd 0)), (1, .int 1), (2, .int 1)] := hl
  refine lv_iload_n hx hb dX12_rankOf_0 rfl (lv_at hl 1 rfl) ?_
  refine lv_iconst (v := 1) hx hb dX12_rankOf_1 (by decide) ?_
  refine lv_iconst (v := 4) hx hb dX12_rankOf_2 (by decide) ?_
  refine x_cSIE (n := 3) (As := [.int 1, .int 1, .int 4]) (rest := []) B h (k131_X12_in l D cI cJ cB cZ ad bd) ⟨⟨_, rfl⟩, by decide +kernel, Nat.le_of_ble_eq_true rfl, Nat.le_of_ble_eq_true rfl⟩ gX12_rankOf_X12_in rfl hl.1 rfl (Nat.le_of_ble_eq_true rfl) dX12_rankOf_3 ⟨Nat.le_of_ble_eq_true rfl, Nat.le_of_ble_eq_true rfl⟩ (fun r_1 u_1 H locs hp_1 h => ?_)
  obtain rfl := hp_1
  have h : Hp D A s.heap (WM cI cJ cB cZ bd) H locs := h
  refine lv_if_ne (tgt := 11) hx hb dX12_rankOf_6 (by decide) (fun c_2 => ?_) (fun c_2 => absurd c_2 (by decide))
  refine lv_aload_n hx hb dX12_rankOf_11 rfl (lv_at hl 0 rfl) ?_
  refine lv_iload_n hx hb dX12_rankOf_12 rfl (lv_at hl 1 rfl) ?_
  refine lv_iload_n hx hb dX12_rankOf_13 rfl (lv_at hl 2 rfl) ?_
  refine x_cVVF (n := 2) (As := [.int 1, .int 1]) (rest := []) B h (k157_X12_laysTable l D cI cJ cB cZ ad bd) ⟨⟨_, rfl⟩, by decide +kernel, Nat.le_of_ble_eq_true rfl, Nat.le_of_ble_eq_true rfl⟩ gX12_rankOf_X12_laysTable (show ((WM cI cJ cB cZ bd) : va_W)[0]? = some (_, .inr (12, _)) from rfl) rfl rfl hl.1 rfl (Nat.le_of_ble_eq_true rfl) dX12_rankOf_14 ⟨Nat.le_of_ble_eq_true rfl, Nat.le_of_ble_eq_true rfl⟩ (fun u_3 H locs hp_3 h => ?_)
  have h : Hp D A s.heap (WM cI cJ cB cZ bd) H locs := h
  refine lv_aload_n hx hb dX12_rankOf_17 rfl (lv_at hl 0 rfl) ?_
  refine x_cVIF (n := 0) (As := []) (rest := []) B h (k134_X12_laysSteps l D cI cJ cB cZ ad bd) ⟨⟨_, rfl⟩, by decide +kernel, Nat.le_of_ble_eq_true rfl, Nat.le_of_ble_eq_true rfl⟩ gX12_rankOf_X12_laysSteps (show ((WM cI cJ cB cZ bd) : va_W)[0]? = some (_, .inr (12, _)) from rfl) rfl rfl hl.1 rfl (Nat.le_of_ble_eq_true rfl) dX12_rankOf_18 ⟨Nat.le_of_ble_eq_true rfl, Nat.le_of_ble_eq_true rfl⟩ (fun r_4 u_4 H locs hp_4 h => ?_)
  obtain rfl := hp_4
  have h : Hp D A s.heap (WM cI cJ cB cZ bd) H locs := h
  exact x_iret (w1 := (fun _ => (WM cI cJ cB cZ bd))) () B h hr rfl rfl dX12_rankOf_21
set_option maxHeartbeats 4000000 in
set_option maxRecDepth 100000 in
theorem k159_X12_bettiTaken (l : Launch) (D : va_G) (cI cJ cB cZ : ClassId) (ad bd : Nat → Nat) : MetI l yX12_bettiTaken wsX12_bettiTaken 3 71 0 0 D (TYS cI cJ cB cZ) (WM cI cJ cB cZ bd) [.ref (bd 0), .int 0, .int 1] (fun (r : Int32) (_ : Unit) => r = 0) (fun _ => (WM cI cJ cB cZ bd)) := by
  refine x_startI (ty := .int) (cc := cX12_bettiTaken) (by decide) rfl (Nat.le_of_ble_eq_true rfl) ?_
  intro p e s m args below meth c A ls B hr hnm h hl
  have hx := B.1.1
  have hb := B.1.2.1
  have hml := B.1.2.2.1
  have hts := B.1.2.2.2.2
  have hown : s.vm.findClass RX12 = some m.cls := B.1.2.2.2.1
  have hl : lv_has ls 3 [(0, .ref (bd 0)), (1, .int 0), (2, .int 1)] := hl
  refine lv_aload_n hx hb dX12_bettiTaken_0 rfl (lv_at hl 0 rfl) ?_
  refine lv_iload_n hx hb dX12_bettiTaken_1 rfl (lv_at hl 1 rfl) ?_
  refine x_cVIF (n := 1) (As := [.int 0]) (rest := []) B h (k128_X12_takenOf l D cI cJ cB cZ ad bd) ⟨⟨_, rfl⟩, by decide +kernel, Nat.le_of_ble_eq_true rfl, Nat.le_of_ble_eq_true rfl⟩ gX12_bettiTaken_X12_takenOf (show ((WM cI cJ cB cZ bd) : va_W)[0]? = some (_, .inr (12, _)) from rfl) rfl rfl hl.1 rfl (Nat.le_of_ble_eq_true rfl) dX12_bettiTaken_2 ⟨Nat.le_of_ble_eq_true rfl, Nat.le_of_ble_eq_true rfl⟩ (fun r_1 u_1 H locs hp_1 h => ?_)
  obtain rfl := hp_1
  have h : Hp D A s.heap (WM cI cJ cB cZ bd) H locs := h
  refine lv_aload_n hx hb dX12_bettiTaken_5 rfl (lv_at hl 0 rfl) ?_
  refine lv_iload_n hx hb dX12_bettiTaken_6 rfl (lv_at hl 1 rfl) ?_
  refine lv_iload_n hx hb dX12_bettiTaken_7 rfl (lv_at hl 2 rfl) ?_
  refine x_cVIF (n := 2) (As := [.int 0, .int 1]) (rest := [.int 0]) B h (k156_X12_rankOf l D cI cJ cB cZ ad bd) ⟨⟨_, rfl⟩, by decide +kernel, Nat.le_of_ble_eq_true rfl, Nat.le_of_ble_eq_true rfl⟩ gX12_bettiTaken_X12_rankOf (show ((WM cI cJ cB cZ bd) : va_W)[0]? = some (_, .inr (12, _)) from rfl) rfl rfl hl.1 rfl (Nat.le_of_ble_eq_true rfl) dX12_bettiTaken_8 ⟨Nat.le_of_ble_eq_true rfl, Nat.le_of_ble_eq_true rfl⟩ (fun r_2 u_2 H locs hp_2 h => ?_)
  obtain rfl := hp_2
  have h : Hp D A s.heap (WM cI cJ cB cZ bd) H locs := h
  refine lv_isub hx hb dX12_bettiTaken_11 ?_
  refine lv_topi (fun v_3 ev_3 => ?_)
  obtain rfl : v_3 = 0 := ev_3.trans (by decide)
  refine lv_aload_n hx hb dX12_bettiTaken_12 rfl (lv_at hl 0 rfl) ?_
  refine lv_iload_n hx hb dX12_bettiTaken_13 rfl (lv_at hl 1 rfl) ?_
  refine lv_iconst (v := 1) hx hb dX12_bettiTaken_14 (by decide) ?_
  refine lv_iadd hx hb dX12_bettiTaken_15 ?_
  refine lv_topi (fun v_4 ev_4 => ?_)
  obtain rfl : v_4 = 1 := ev_4.trans (by decide)
  refine lv_iload_n hx hb dX12_bettiTaken_16 rfl (lv_at hl 2 rfl) ?_
  refine x_cVIF (n := 2) (As := [.int 1, .int 1]) (rest := [.int 0]) B h (k158_X12_rankOf l D cI cJ cB cZ ad bd) ⟨⟨_, rfl⟩, by decide +kernel, Nat.le_of_ble_eq_true rfl, Nat.le_of_ble_eq_true rfl⟩ gX12_bettiTaken_X12_rankOf (show ((WM cI cJ cB cZ bd) : va_W)[0]? = some (_, .inr (12, _)) from rfl) rfl rfl hl.1 rfl (Nat.le_of_ble_eq_true rfl) dX12_bettiTaken_17 ⟨Nat.le_of_ble_eq_true rfl, Nat.le_of_ble_eq_true rfl⟩ (fun r_5 u_5 H locs hp_5 h => ?_)
  obtain rfl := hp_5
  have h : Hp D A s.heap (WM cI cJ cB cZ bd) H locs := h
  refine lv_isub hx hb dX12_bettiTaken_20 ?_
  refine lv_topi (fun v_6 ev_6 => ?_)
  obtain rfl : v_6 = 0 := ev_6.trans (by decide)
  exact x_iret (w1 := (fun _ => (WM cI cJ cB cZ bd))) () B h hr rfl rfl dX12_bettiTaken_21
set_option maxHeartbeats 4000000 in
set_option maxRecDepth 100000 in
theorem k160_X12_laysTable (l : Launch) (D : va_G) (cI cJ cB cZ : ClassId) (ad bd : Nat → Nat) : MetV l yX12_laysTable wsX12_laysTable 1 23 0 0 D (TYS cI cJ cB cZ) (WM cI cJ cB cZ bd) [.ref (bd 0), .int 2, .int 1] (fun _ : Unit => True) (fun _ => (WM cI cJ cB cZ bd)) := by
  refine x_startV (ty := .int) (cc := cX12_laysTable) (by decide) rfl (Nat.le_of_ble_eq_true rfl) ?_
  intro p e s m args below meth c A ls B hr hnm h hl
  have hx := B.1.1
  have hb := B.1.2.1
  have hml := B.1.2.2.1
  have hts := B.1.2.2.2.2
  have hown : s.vm.findClass RX12 = some m.cls := B.1.2.2.2.1
  have hin12 : ∀ w ∈ u_ws RX12 TX12 31, w ∈ wsX12_laysTable := by decide +kernel
  have hl : lv_has ls 7 [(0, .ref (bd 0)), (1, .int 2), (2, .int 1)] := hl
  refine lv_aload_n hx hb dX12_laysTable_0 rfl (lv_at hl 0 rfl) ?_
  refine lv_aload_n hx hb dX12_laysTable_1 rfl (lv_at hl 0 rfl) ?_
  refine lv_iload_n hx hb dX12_laysTable_2 rfl (lv_at hl 1 rfl) ?_
  refine x_cVIF (n := 1) (As := [.int 2]) (rest := [.ref (bd 0)]) B h (k138_X12_takenOf l D cI cJ cB cZ ad bd) ⟨⟨_, rfl⟩, by decide +kernel, Nat.le_of_ble_eq_true rfl, Nat.le_of_ble_eq_true rfl⟩ gX12_laysTable_X12_takenOf (show ((WM cI cJ cB cZ bd) : va_W)[0]? = some (_, .inr (12, _)) from rfl) rfl rfl hl.1 rfl (Nat.le_of_ble_eq_true rfl) dX12_laysTable_3 ⟨Nat.le_of_ble_eq_true rfl, Nat.le_of_ble_eq_true rfl⟩ (fun r_1 u_1 H locs hp_1 h => ?_)
  obtain rfl := hp_1
  have h : Hp D A s.heap (WM cI cJ cB cZ bd) H locs := h
  refine x_put (ci := 12) (C := RX12) (T := TX12) (N := 31) (v := .int 0) (ty := .int) B h hin12 tyX12 tyX12_ok nmX12 0 23 rfl rfl (by decide) (by decide +kernel) rfl rfl rfl rfl (Nat.le_of_ble_eq_true rfl) dX12_laysTable_6 (fun H locs h => ?_)
  have h : Hp D A s.heap (WM cI cJ cB cZ bd) H locs := h
  refine lv_aload_n hx hb dX12_laysTable_9 rfl (lv_at hl 0 rfl) ?_
  refine lv_aload_n hx hb dX12_laysTable_10 rfl (lv_at hl 0 rfl) ?_
  refine lv_iload_n hx hb dX12_laysTable_11 rfl (lv_at hl 1 rfl) ?_
  refine lv_iconst (v := 1) hx hb dX12_laysTable_12 (by decide) ?_
  refine lv_isub hx hb dX12_laysTable_13 ?_
  refine lv_topi (fun v_2 ev_2 => ?_)
  obtain rfl : v_2 = 1 := ev_2.trans (by decide)
  refine x_cVIF (n := 1) (As := [.int 1]) (rest := [.ref (bd 0)]) B h (k132_X12_takenOf l D cI cJ cB cZ ad bd) ⟨⟨_, rfl⟩, by decide +kernel, Nat.le_of_ble_eq_true rfl, Nat.le_of_ble_eq_true rfl⟩ gX12_laysTable_X12_takenOf (show ((WM cI cJ cB cZ bd) : va_W)[0]? = some (_, .inr (12, _)) from rfl) rfl rfl hl.1 rfl (Nat.le_of_ble_eq_true rfl) dX12_laysTable_14 ⟨Nat.le_of_ble_eq_true rfl, Nat.le_of_ble_eq_true rfl⟩ (fun r_3 u_3 H locs hp_3 h => ?_)
  obtain rfl := hp_3
  have h : Hp D A s.heap (WM cI cJ cB cZ bd) H locs := h
  refine x_put (ci := 12) (C := RX12) (T := TX12) (N := 31) (v := .int 0) (ty := .int) B h hin12 tyX12 tyX12_ok nmX12 0 24 rfl rfl (by decide) (by decide +kernel) rfl rfl rfl rfl (Nat.le_of_ble_eq_true rfl) dX12_laysTable_17 (fun H locs h => ?_)
  have h : Hp D A s.heap (WM cI cJ cB cZ bd) H locs := h
  refine lv_iconst (v := 0) hx hb dX12_laysTable_20 (by decide) ?_
  refine lv_istore_n (lv' := [(3, .int 0), (0, .ref (bd 0)), (1, .int 2), (2, .int 1)]) hx hb dX12_laysTable_21 rfl hl (by decide) rfl (fun ls hl => ?_)
  refine lv_iconst (v := 0) hx hb dX12_laysTable_22 (by decide) ?_
  refine lv_istore (lv' := [(4, .int 0), (3, .int 0), (0, .ref (bd 0)), (1, .int 2), (2, .int 1)]) hx hb dX12_laysTable_23 hl (by decide) rfl (fun ls hl => ?_)
  refine lv_iload hx hb dX12_laysTable_25 (lv_at hl 0 rfl) ?_
  refine lv_aload_n hx hb dX12_laysTable_27 rfl (lv_at hl 2 rfl) ?_
  refine x_get (ci := 12) (C := RX12) (T := TX12) (N := 31) (v := .int 0) B h hin12 0 5 rfl rfl (by decide) (by decide +kernel) rfl dX12_laysTable_28 ?_
  refine lv_icmp_ge (tgt := 164) hx hb dX12_laysTable_31 (by decide) (fun c_4 => ?_) (fun c_4 => absurd c_4 (by decide))
  exact x_vret (w1 := (fun _ => (WM cI cJ cB cZ bd))) () B h hr trivial dX12_laysTable_164
set_option maxHeartbeats 4000000 in
set_option maxRecDepth 100000 in
theorem k161_X12_rankOf (l : Launch) (D : va_G) (cI cJ cB cZ : ClassId) (ad bd : Nat → Nat) : MetI l yX12_rankOf wsX12_rankOf 2 49 0 0 D (TYS cI cJ cB cZ) (WM cI cJ cB cZ bd) [.ref (bd 0), .int 2, .int 1] (fun (r : Int32) (_ : Unit) => r = 0) (fun _ => (WM cI cJ cB cZ bd)) := by
  refine x_startI (ty := .int) (cc := cX12_rankOf) (by decide) rfl (Nat.le_of_ble_eq_true rfl) ?_
  intro p e s m args below meth c A ls B hr hnm h hl
  have hx := B.1.1
  have hb := B.1.2.1
  have hml := B.1.2.2.1
  have hts := B.1.2.2.2.2
  have hown : s.vm.findClass RX12 = some m.cls := B.1.2.2.2.1
  have hl : lv_has ls 3 [(0, .ref (bd 0)), (1, .int 2), (2, .int 1)] := hl
  refine lv_iload_n hx hb dX12_rankOf_0 rfl (lv_at hl 1 rfl) ?_
  refine lv_iconst (v := 1) hx hb dX12_rankOf_1 (by decide) ?_
  refine lv_iconst (v := 4) hx hb dX12_rankOf_2 (by decide) ?_
  refine x_cSIE (n := 3) (As := [.int 2, .int 1, .int 4]) (rest := []) B h (k137_X12_in l D cI cJ cB cZ ad bd) ⟨⟨_, rfl⟩, by decide +kernel, Nat.le_of_ble_eq_true rfl, Nat.le_of_ble_eq_true rfl⟩ gX12_rankOf_X12_in rfl hl.1 rfl (Nat.le_of_ble_eq_true rfl) dX12_rankOf_3 ⟨Nat.le_of_ble_eq_true rfl, Nat.le_of_ble_eq_true rfl⟩ (fun r_1 u_1 H locs hp_1 h => ?_)
  obtain rfl := hp_1
  have h : Hp D A s.heap (WM cI cJ cB cZ bd) H locs := h
  refine lv_if_ne (tgt := 11) hx hb dX12_rankOf_6 (by decide) (fun c_2 => ?_) (fun c_2 => absurd c_2 (by decide))
  refine lv_aload_n hx hb dX12_rankOf_11 rfl (lv_at hl 0 rfl) ?_
  refine lv_iload_n hx hb dX12_rankOf_12 rfl (lv_at hl 1 rfl) ?_
  refine lv_iload_n hx hb dX12_rankOf_13 rfl (lv_at hl 2 rfl) ?_
  refine x_cVVF (n := 2) (As := [.int 2, .int 1]) (rest := []) B h (k160_X12_laysTable l D cI cJ cB cZ ad bd) ⟨⟨_, rfl⟩, by decide +kernel, Nat.le_of_ble_eq_true rfl, Nat.le_of_ble_eq_true rfl⟩ gX12_rankOf_X12_laysTable (show ((WM cI cJ cB cZ bd) : va_W)[0]? = some (_, .inr (12, _)) from rfl) rfl rfl hl.1 rfl (Nat.le_of_ble_eq_true rfl) dX12_rankOf_14 ⟨Nat.le_of_ble_eq_true rfl, Nat.le_of_ble_eq_true rfl⟩ (fun u_3 H locs hp_3 h => ?_)
  have h : Hp D A s.heap (WM cI cJ cB cZ bd) H locs := h
  refine lv_aload_n hx hb dX12_rankOf_17 rfl (lv_at hl 0 rfl) ?_
  refine x_cVIF (n := 0) (As := []) (rest := []) B h (k134_X12_laysSteps l D cI cJ cB cZ ad bd) ⟨⟨_, rfl⟩, by decide +kernel, Nat.le_of_ble_eq_true rfl, Nat.le_of_ble_eq_true rfl⟩ gX12_rankOf_X12_laysSteps (show ((WM cI cJ cB cZ bd) : va_W)[0]? = some (_, .inr (12, _)) from rfl) rfl rfl hl.1 rfl (Nat.le_of_ble_eq_true rfl) dX12_rankOf_18 ⟨Nat.le_of_ble_eq_true rfl, Nat.le_of_ble_eq_true rfl⟩ (fun r_4 u_4 H locs hp_4 h => ?_)
  obtain rfl := hp_4
  have h : Hp D A s.heap (WM cI cJ cB cZ bd) H locs := h
  exact x_iret (w1 := (fun _ => (WM cI cJ cB cZ bd))) () B h hr rfl rfl dX12_rankOf_21
set_option maxHeartbeats 4000000 in
set_option maxRecDepth 100000 in
theorem k162_X12_bettiTaken (l : Launch) (D : va_G) (cI cJ cB cZ : ClassId) (ad bd : Nat → Nat) : MetI l yX12_bettiTaken wsX12_bettiTaken 3 71 0 0 D (TYS cI cJ cB cZ) (WM cI cJ cB cZ bd) [.ref (bd 0), .int 1, .int 1] (fun (r : Int32) (_ : Unit) => r = 0) (fun _ => (WM cI cJ cB cZ bd)) := by
  refine x_startI (ty := .int) (cc := cX12_bettiTaken) (by decide) rfl (Nat.le_of_ble_eq_true rfl) ?_
  intro p e s m args below meth c A ls B hr hnm h hl
  have hx := B.1.1
  have hb := B.1.2.1
  have hml := B.1.2.2.1
  have hts := B.1.2.2.2.2
  have hown : s.vm.findClass RX12 = some m.cls := B.1.2.2.2.1
  have hl : lv_has ls 3 [(0, .ref (bd 0)), (1, .int 1), (2, .int 1)] := hl
  refine lv_aload_n hx hb dX12_bettiTaken_0 rfl (lv_at hl 0 rfl) ?_
  refine lv_iload_n hx hb dX12_bettiTaken_1 rfl (lv_at hl 1 rfl) ?_
  refine x_cVIF (n := 1) (As := [.int 1]) (rest := []) B h (k132_X12_takenOf l D cI cJ cB cZ ad bd) ⟨⟨_, rfl⟩, by decide +kernel, Nat.le_of_ble_eq_true rfl, Nat.le_of_ble_eq_true rfl⟩ gX12_bettiTaken_X12_takenOf (show ((WM cI cJ cB cZ bd) : va_W)[0]? = some (_, .inr (12, _)) from rfl) rfl rfl hl.1 rfl (Nat.le_of_ble_eq_true rfl) dX12_bettiTaken_2 ⟨Nat.le_of_ble_eq_true rfl, Nat.le_of_ble_eq_true rfl⟩ (fun r_1 u_1 H locs hp_1 h => ?_)
  obtain rfl := hp_1
  have h : Hp D A s.heap (WM cI cJ cB cZ bd) H locs := h
  refine lv_aload_n hx hb dX12_bettiTaken_5 rfl (lv_at hl 0 rfl) ?_
  refine lv_iload_n hx hb dX12_bettiTaken_6 rfl (lv_at hl 1 rfl) ?_
  refine lv_iload_n hx hb dX12_bettiTaken_7 rfl (lv_at hl 2 rfl) ?_
  refine x_cVIF (n := 2) (As := [.int 1, .int 1]) (rest := [.int 0]) B h (k158_X12_rankOf l D cI cJ cB cZ ad bd) ⟨⟨_, rfl⟩, by decide +kernel, Nat.le_of_ble_eq_true rfl, Nat.le_of_ble_eq_true rfl⟩ gX12_bettiTaken_X12_rankOf (show ((WM cI cJ cB cZ bd) : va_W)[0]? = some (_, .inr (12, _)) from rfl) rfl rfl hl.1 rfl (Nat.le_of_ble_eq_true rfl) dX12_bettiTaken_8 ⟨Nat.le_of_ble_eq_true rfl, Nat.le_of_ble_eq_true rfl⟩ (fun r_2 u_2 H locs hp_2 h => ?_)
  obtain rfl := hp_2
  have h : Hp D A s.heap (WM cI cJ cB cZ bd) H locs := h
  refine lv_isub hx hb dX12_bettiTaken_11 ?_
  refine lv_topi (fun v_3 ev_3 => ?_)
  obtain rfl : v_3 = 0 := ev_3.trans (by decide)
  refine lv_aload_n hx hb dX12_bettiTaken_12 rfl (lv_at hl 0 rfl) ?_
  refine lv_iload_n hx hb dX12_bettiTaken_13 rfl (lv_at hl 1 rfl) ?_
  refine lv_iconst (v := 1) hx hb dX12_bettiTaken_14 (by decide) ?_
  refine lv_iadd hx hb dX12_bettiTaken_15 ?_
  refine lv_topi (fun v_4 ev_4 => ?_)
  obtain rfl : v_4 = 2 := ev_4.trans (by decide)
  refine lv_iload_n hx hb dX12_bettiTaken_16 rfl (lv_at hl 2 rfl) ?_
  refine x_cVIF (n := 2) (As := [.int 2, .int 1]) (rest := [.int 0]) B h (k161_X12_rankOf l D cI cJ cB cZ ad bd) ⟨⟨_, rfl⟩, by decide +kernel, Nat.le_of_ble_eq_true rfl, Nat.le_of_ble_eq_true rfl⟩ gX12_bettiTaken_X12_rankOf (show ((WM cI cJ cB cZ bd) : va_W)[0]? = some (_, .inr (12, _)) from rfl) rfl rfl hl.1 rfl (Nat.le_of_ble_eq_true rfl) dX12_bettiTaken_17 ⟨Nat.le_of_ble_eq_true rfl, Nat.le_of_ble_eq_true rfl⟩ (fun r_5 u_5 H locs hp_5 h => ?_)
  obtain rfl := hp_5
  have h : Hp D A s.heap (WM cI cJ cB cZ bd) H locs := h
  refine lv_isub hx hb dX12_bettiTaken_20 ?_
  refine lv_topi (fun v_6 ev_6 => ?_)
  obtain rfl : v_6 = 0 := ev_6.trans (by decide)
  exact x_iret (w1 := (fun _ => (WM cI cJ cB cZ bd))) () B h hr rfl rfl dX12_bettiTaken_21
