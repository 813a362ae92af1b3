set_option maxHeartbeats 4000000 in
set_option maxRecDepth 100000 in
theorem k198_X12_in (l : Launch) (D : va_G) (cI cJ cB cZ : ClassId) (ad bd : Nat → Nat) : MetI l yX12_in wsX12_in 0 0 0 0 D (TYS cI cJ cB cZ) [] [.int 0, .int 0, .int 1] (fun (r : Int32) (_ : Unit) => r = 1) (fun _ => []) := by
  refine x_startI (ty := .boolean) (cc := cX12_in) (by decide) rfl (Nat.le_of_ble_eq_true rfl) ?_
  intro p e s m args below meth c A ls B hr hnm h hl
  have hx := B.1.1
  have hb := B.1.2.1
  have hml := B.1.2.2.1
  have hts := B.1.2.2.2.2
  have hown : s.vm.findClass RX12 = some m.cls := B.1.2.2.2.1
  have hl : lv_has ls 3 [(0, .int 0), (1, .int 0), (2, .int 1)] := hl
  refine lv_iload_n hx hb dX12_in_0 rfl (lv_at hl 0 rfl) ?_
  refine lv_iload_n hx hb dX12_in_1 rfl (lv_at hl 1 rfl) ?_
  refine lv_icmp_lt (tgt := 14) hx hb dX12_in_2 (by decide) (fun c_1 => absurd c_1 (by decide)) (fun c_1 => ?_)
  refine lv_iload_n hx hb dX12_in_5 rfl (lv_at hl 0 rfl) ?_
  refine lv_iload_n hx hb dX12_in_6 rfl (lv_at hl 2 rfl) ?_
  refine lv_icmp_gt (tgt := 14) hx hb dX12_in_7 (by decide) (fun c_2 => absurd c_2 (by decide)) (fun c_2 => ?_)
  refine lv_iconst (v := 1) hx hb dX12_in_10 (by decide) ?_
  refine lv_goto (tgt := 15) hx hb dX12_in_11 (by decide) ?_
  exact x_iret (w1 := (fun _ => [])) () B h hr rfl rfl dX12_in_15
set_option maxHeartbeats 4000000 in
set_option maxRecDepth 100000 in
theorem k199_X12_betti (l : Launch) (D : va_G) (cI cJ cB cZ : ClassId) (ad bd : Nat → Nat) : MetI l yX12_betti wsX12_betti 4 93 0 0 D (TYS cI cJ cB cZ) (WM cI cJ cB cZ bd) [.ref (bd 0), .int 0, .int 0] (fun (r : Int32) (_ : Unit) => r = 0) (fun _ => (WM cI cJ cB cZ bd)) := by
  refine x_startI (ty := .int) (cc := cX12_betti) (by decide) rfl (Nat.le_of_ble_eq_true rfl) ?_
  intro p e s m args below meth c A ls B hr hnm h hl
  have hx := B.1.1
  have hb := B.1.2.1
  have hml := B.1.2.2.1
  have hts := B.1.2.2.2.2
  have hown : s.vm.findClass RX12 = some m.cls := B.1.2.2.2.1
  have hl : lv_has ls 3 [(0, .ref (bd 0)), (1, .int 0), (2, .int 0)] := hl
  refine lv_iload_n hx hb dX12_betti_0 rfl (lv_at hl 1 rfl) ?_
  refine lv_iconst (v := 0) hx hb dX12_betti_1 (by decide) ?_
  refine lv_iconst (v := 4) hx hb dX12_betti_2 (by decide) ?_
  refine x_cSIE (n := 3) (As := [.int 0, .int 0, .int 4]) (rest := []) B h (k196_X12_in l D cI cJ cB cZ ad bd) ⟨⟨_, rfl⟩, by decide +kernel, Nat.le_of_ble_eq_true rfl, Nat.le_of_ble_eq_true rfl⟩ gX12_betti_X12_in rfl hl.1 rfl (Nat.le_of_ble_eq_true rfl) dX12_betti_3 ⟨Nat.le_of_ble_eq_true rfl, Nat.le_of_ble_eq_true rfl⟩ (fun r_1 u_1 H locs hp_1 h => ?_)
  obtain rfl := hp_1
  have h : Hp D A s.heap (WM cI cJ cB cZ bd) H locs := h
  refine lv_if_eq (tgt := 18) hx hb dX12_betti_6 (by decide) (fun c_2 => absurd c_2 (by decide)) (fun c_2 => ?_)
  refine lv_iload_n hx hb dX12_betti_9 rfl (lv_at hl 2 rfl) ?_
  refine lv_iconst (v := 0) hx hb dX12_betti_10 (by decide) ?_
  refine lv_iconst (v := 1) hx hb dX12_betti_11 (by decide) ?_
  refine x_cSIE (n := 3) (As := [.int 0, .int 0, .int 1]) (rest := []) B h (k198_X12_in l D cI cJ cB cZ ad bd) ⟨⟨_, rfl⟩, by decide +kernel, Nat.le_of_ble_eq_true rfl, Nat.le_of_ble_eq_true rfl⟩ gX12_betti_X12_in rfl hl.1 rfl (Nat.le_of_ble_eq_true rfl) dX12_betti_12 ⟨Nat.le_of_ble_eq_true rfl, Nat.le_of_ble_eq_true rfl⟩ (fun r_3 u_3 H locs hp_3 h => ?_)
  obtain rfl := hp_3
  have h : Hp D A s.heap (WM cI cJ cB cZ bd) H locs := h
  refine lv_if_ne (tgt := 20) hx hb dX12_betti_15 (by decide) (fun c_4 => ?_) (fun c_4 => absurd c_4 (by decide))
  refine lv_aload_n hx hb dX12_betti_20 rfl (lv_at hl 0 rfl) ?_
  refine lv_iload_n hx hb dX12_betti_21 rfl (lv_at hl 2 rfl) ?_
  refine x_cVVF (n := 1) (As := [.int 0]) (rest := []) B h (k127_X12_takes l D cI cJ cB cZ ad bd) ⟨⟨_, rfl⟩, by decide +kernel, Nat.le_of_ble_eq_true rfl, Nat.le_of_ble_eq_true rfl⟩ gX12_betti_X12_takes (show ((WM cI cJ cB cZ bd) : va_W)[0]? = some (_, .inr (12, _)) from rfl) rfl rfl hl.1 rfl (Nat.le_of_ble_eq_true rfl) dX12_betti_22 ⟨Nat.le_of_ble_eq_true rfl, Nat.le_of_ble_eq_true rfl⟩ (fun u_5 H locs hp_5 h => ?_)
  have h : Hp D A s.heap (WM cI cJ cB cZ bd) H locs := h
  refine lv_aload_n hx hb dX12_betti_25 rfl (lv_at hl 0 rfl) ?_
  refine lv_iload_n hx hb dX12_betti_26 rfl (lv_at hl 1 rfl) ?_
  refine lv_iload_n hx hb dX12_betti_27 rfl (lv_at hl 2 rfl) ?_
  refine x_cVIF (n := 2) (As := [.int 0, .int 0]) (rest := []) B h (k136_X12_bettiTaken l D cI cJ cB cZ ad bd) ⟨⟨_, rfl⟩, by decide +kernel, Nat.le_of_ble_eq_true rfl, Nat.le_of_ble_eq_true rfl⟩ gX12_betti_X12_bettiTaken (show ((WM cI cJ cB cZ bd) : va_W)[0]? = some (_, .inr (12, _)) from rfl) rfl rfl hl.1 rfl (Nat.le_of_ble_eq_true rfl) dX12_betti_28 ⟨Nat.le_of_ble_eq_true rfl, Nat.le_of_ble_eq_true rfl⟩ (fun r_6 u_6 H locs hp_6 h => ?_)
  obtain rfl := hp_6
  have h : Hp D A s.heap (WM cI cJ cB cZ bd) H locs := h
  exact x_iret (w1 := (fun _ => (WM cI cJ cB cZ bd))) () B h hr rfl rfl dX12_betti_31
set_option maxHeartbeats 4000000 in
set_option maxRecDepth 100000 in
theorem k200_X12_in (l : Launch) (D : va_G) (cI cJ cB cZ : ClassId) (ad bd : Nat → Nat) : MetI l yX12_in wsX12_in 0 0 0 0 D (TYS cI cJ cB cZ) [] [.int 1, .int 0, .int 4] (fun (r : Int32) (_ : Unit) => r = 1) (fun _ => []) := by
  refine x_startI (ty := .boolean) (cc := cX12_in) (by decide) rfl (Nat.le_of_ble_eq_true rfl) ?_
  intro p e s m args below meth c A ls B hr hnm h hl
  have hx := B.1.1
  have hb := B.1.2.1
  have hml := B.1.2.2.1
  have hts := B.1.2.2.2.2
  have hown : s.vm.findClass RX12 = some m.cls := B.1.2.2.2.1
  have hl : lv_has ls 3 [(0, .int 1), (1, .int 0), (2, .int 4)] := hl
  refine lv_iload_n hx hb dX12_in_0 rfl (lv_at hl 0 rfl) ?_
  refine lv_iload_n hx hb dX12_in_1 rfl (lv_at hl 1 rfl) ?_
  refine lv_icmp_lt (tgt := 14) hx hb dX12_in_2 (by decide) (fun c_1 => absurd c_1 (by decide)) (fun c_1 => ?_)
  refine lv_iload_n hx hb dX12_in_5 rfl (lv_at hl 0 rfl) ?_
  refine lv_iload_n hx hb dX12_in_6 rfl (lv_at hl 2 rfl) ?_
  refine lv_icmp_gt (tgt := 14) hx hb dX12_in_7 (by decide) (fun c_2 => absurd c_2 (by decide)) (fun c_2 => ?_)
  refine lv_iconst (v := 1) hx hb dX12_in_10 (by decide) ?_
  refine lv_goto (tgt := 15) hx hb dX12_in_11 (by decide) ?_
  exact x_iret (w1 := (fun _ => [])) () B h hr rfl rfl dX12_in_15
set_option maxHeartbeats 4000000 in
set_option maxRecDepth 100000 in
theorem k201_X12_critical (l : Launch) (D : va_G) (cI cJ cB cZ : ClassId) (ad bd : Nat → Nat) : MetI l yX12_critical wsX12_critical 1 22 0 0 D (TYS cI cJ cB cZ) (WM cI cJ cB cZ bd) [.ref (bd 0), .int 1, .int (-1)] (fun (r : Int32) (_ : Unit) => r = 0) (fun _ => (WM cI cJ cB cZ bd)) := by
  refine x_startI (ty := .int) (cc := cX12_critical) (by decide) rfl (Nat.le_of_ble_eq_true rfl) ?_
  intro p e s m args below meth c A ls B hr hnm h hl
  have hx := B.1.1
  have hb := B.1.2.1
  have hml := B.1.2.2.1
  have hts := B.1.2.2.2.2
  have hown : s.vm.findClass RX12 = some m.cls := B.1.2.2.2.1
  have hin12 : ∀ w ∈ u_ws RX12 TX12 31, w ∈ wsX12_critical := by decide +kernel
  have hl : lv_has ls 5 [(0, .ref (bd 0)), (1, .int 1), (2, .int (-1))] := hl
  refine lv_iload_n hx hb dX12_critical_0 rfl (lv_at hl 1 rfl) ?_
  refine lv_iconst (v := 0) hx hb dX12_critical_1 (by decide) ?_
  refine lv_iconst (v := 4) hx hb dX12_critical_2 (by decide) ?_
  refine x_cSIE (n := 3) (As := [.int 1, .int 0, .int 4]) (rest := []) B h (k200_X12_in l D cI cJ cB cZ ad bd) ⟨⟨_, rfl⟩, by decide +kernel, Nat.le_of_ble_eq_true rfl, Nat.le_of_ble_eq_true rfl⟩ gX12_critical_X12_in rfl hl.1 rfl (Nat.le_of_ble_eq_true rfl) dX12_critical_3 ⟨Nat.le_of_ble_eq_true rfl, Nat.le_of_ble_eq_true rfl⟩ (fun r_1 u_1 H locs hp_1 h => ?_)
  obtain rfl := hp_1
  have h : Hp D A s.heap (WM cI cJ cB cZ bd) H locs := h
  refine lv_if_eq (tgt := 14) hx hb dX12_critical_6 (by decide) (fun c_2 => absurd c_2 (by decide)) (fun c_2 => ?_)
  refine lv_iload_n hx hb dX12_critical_9 rfl (lv_at hl 2 rfl) ?_
  refine lv_iconst (v := (-1)) hx hb dX12_critical_10 (by decide) ?_
  refine lv_icmp_ge (tgt := 16) hx hb dX12_critical_11 (by decide) (fun c_3 => ?_) (fun c_3 => absurd c_3 (by decide))
  refine lv_iconst (v := 0) hx hb dX12_critical_16 (by decide) ?_
  refine lv_istore_n (lv' := [(3, .int 0), (0, .ref (bd 0)), (1, .int 1), (2, .int (-1))]) hx hb dX12_critical_17 rfl hl (by decide) rfl (fun ls hl => ?_)
  refine lv_iconst (v := 0) hx hb dX12_critical_18 (by decide) ?_
  refine lv_istore (lv' := [(4, .int 0), (3, .int 0), (0, .ref (bd 0)), (1, .int 1), (2, .int (-1))]) hx hb dX12_critical_19 hl (by decide) rfl (fun ls hl => ?_)
  refine lv_iload hx hb dX12_critical_21 (lv_at hl 0 rfl) ?_
  refine lv_aload_n hx hb dX12_critical_23 rfl (lv_at hl 2 rfl) ?_
  refine x_get (ci := 12) (C := RX12) (T := TX12) (N := 31) (v := .int 0) B h hin12 0 5 rfl rfl (by decide) (by decide +kernel) rfl dX12_critical_24 ?_
  refine lv_icmp_ge (tgt := 66) hx hb dX12_critical_27 (by decide) (fun c_4 => ?_) (fun c_4 => absurd c_4 (by decide))
  refine lv_iload_n hx hb dX12_critical_66 rfl (lv_at hl 4 rfl) ?_
  refine lv_iconst (v := (-1)) hx hb dX12_critical_67 (by decide) ?_
  refine lv_icmp_ne (tgt := 75) hx hb dX12_critical_68 (by decide) (fun c_5 => absurd c_5 (by decide)) (fun c_5 => ?_)
  refine lv_iload_n hx hb dX12_critical_71 rfl (lv_at hl 1 rfl) ?_
  refine lv_goto (tgt := 77) hx hb dX12_critical_72 (by decide) ?_
  exact x_iret (w1 := (fun _ => (WM cI cJ cB cZ bd))) () B h hr rfl rfl dX12_critical_77
set_option maxHeartbeats 4000000 in
set_option maxRecDepth 100000 in
theorem k202_X12_betti (l : Launch) (D : va_G) (cI cJ cB cZ : ClassId) (ad bd : Nat → Nat) : MetI l yX12_betti wsX12_betti 4 93 0 0 D (TYS cI cJ cB cZ) (WM cI cJ cB cZ bd) [.ref (bd 0), .int 1, .int 0] (fun (r : Int32) (_ : Unit) => r = 0) (fun _ => (WM cI cJ cB cZ bd)) := by
  refine x_startI (ty := .int) (cc := cX12_betti) (by decide) rfl (Nat.le_of_ble_eq_true rfl) ?_
  intro p e s m args below meth c A ls B hr hnm h hl
  have hx := B.1.1
  have hb := B.1.2.1
  have hml := B.1.2.2.1
  have hts := B.1.2.2.2.2
  have hown : s.vm.findClass RX12 = some m.cls := B.1.2.2.2.1
  have hl : lv_has ls 3 [(0, .ref (bd 0)), (1, .int 1), (2, .int 0)] := hl
  refine lv_iload_n hx hb dX12_betti_0 rfl (lv_at hl 1 rfl) ?_
  refine lv_iconst (v := 0) hx hb dX12_betti_1 (by decide) ?_
  refine lv_iconst (v := 4) hx hb dX12_betti_2 (by decide) ?_
  refine x_cSIE (n := 3) (As := [.int 1, .int 0, .int 4]) (rest := []) B h (k200_X12_in l D cI cJ cB cZ ad bd) ⟨⟨_, rfl⟩, by decide +kernel, Nat.le_of_ble_eq_true rfl, Nat.le_of_ble_eq_true rfl⟩ gX12_betti_X12_in rfl hl.1 rfl (Nat.le_of_ble_eq_true rfl) dX12_betti_3 ⟨Nat.le_of_ble_eq_true rfl, Nat.le_of_ble_eq_true rfl⟩ (fun r_1 u_1 H locs hp_1 h => ?_)
  obtain rfl := hp_1
  have h : Hp D A s.heap (WM cI cJ cB cZ bd) H locs := h
  refine lv_if_eq (tgt := 18) hx hb dX12_betti_6 (by decide) (fun c_2 => absurd c_2 (by decide)) (fun c_2 => ?_)
  refine lv_iload_n hx hb dX12_betti_9 rfl (lv_at hl 2 rfl) ?_
  refine lv_iconst (v := 0) hx hb dX12_betti_10 (by decide) ?_
  refine lv_iconst (v := 1) hx hb dX12_betti_11 (by decide) ?_
  refine x_cSIE (n := 3) (As := [.int 0, .int 0, .int 1]) (rest := []) B h (k198_X12_in l D cI cJ cB cZ ad bd) ⟨⟨_, rfl⟩, by decide +kernel, Nat.le_of_ble_eq_true rfl, Nat.le_of_ble_eq_true rfl⟩ gX12_betti_X12_in rfl hl.1 rfl (Nat.le_of_ble_eq_true rfl) dX12_betti_12 ⟨Nat.le_of_ble_eq_true rfl, Nat.le_of_ble_eq_true rfl⟩ (fun r_3 u_3 H locs hp_3 h => ?_)
  obtain rfl := hp_3
  have h : Hp D A s.heap (WM cI cJ cB cZ bd) H locs := h
  refine lv_if_ne (tgt := 20) hx hb dX12_betti_15 (by decide) (fun c_4 => ?_) (fun c_4 => absurd c_4 (by decide))
  refine lv_aload_n hx hb dX12_betti_20 rfl (lv_at hl 0 rfl) ?_
  refine lv_iload_n hx hb dX12_betti_21 rfl (lv_at hl 2 rfl) ?_
  refine x_cVVF (n := 1) (As := [.int 0]) (rest := []) B h (k127_X12_takes l D cI cJ cB cZ ad bd) ⟨⟨_, rfl⟩, by decide +kernel, Nat.le_of_ble_eq_true rfl, Nat.le_of_ble_eq_true rfl⟩ gX12_betti_X12_takes (show ((WM cI cJ cB cZ bd) : va_W)[0]? = some (_, .inr (12, _)) from rfl) rfl rfl hl.1 rfl (Nat.le_of_ble_eq_true rfl) dX12_betti_22 ⟨Nat.le_of_ble_eq_true rfl, Nat.le_of_ble_eq_true rfl⟩ (fun u_5 H locs hp_5 h => ?_)
  have h : Hp D A s.heap (WM cI cJ cB cZ bd) H locs := h
  refine lv_aload_n hx hb dX12_betti_25 rfl (lv_at hl 0 rfl) ?_
  refine lv_iload_n hx hb dX12_betti_26 rfl (lv_at hl 1 rfl) ?_
  refine lv_iload_n hx hb dX12_betti_27 rfl (lv_at hl 2 rfl) ?_
  refine x_cVIF (n := 2) (As := [.int 1, .int 0]) (rest := []) B h (k141_X12_bettiTaken l D cI cJ cB cZ ad bd) ⟨⟨_, rfl⟩, by decide +kernel, Nat.le_of_ble_eq_true rfl, Nat.le_of_ble_eq_true rfl⟩ gX12_betti_X12_bettiTaken (show ((WM cI cJ cB cZ bd) : va_W)[0]? = some (_, .inr (12, _)) from rfl) rfl rfl hl.1 rfl (Nat.le_of_ble_eq_true rfl) dX12_betti_28 ⟨Nat.le_of_ble_eq_true rfl, Nat.le_of_ble_eq_true rfl⟩ (fun r_6 u_6 H locs hp_6 h => ?_)
  obtain rfl := hp_6
  have h : Hp D A s.heap (WM cI cJ cB cZ bd) H locs := h
  exact x_iret (w1 := (fun _ => (WM cI cJ cB cZ bd))) () B h hr rfl rfl dX12_betti_31
set_option maxHeartbeats 4000000 in
set_option maxRecDepth 100000 in
theorem k203_X12_in (l : Launch) (D : va_G) (cI cJ cB cZ : ClassId) (ad bd : Nat → Nat) : MetI l yX12_in wsX12_in 0 0 0 0 D (TYS cI cJ cB cZ) [] [.int 2, .int 0, .int 4] (fun (r : Int32) (_ : Unit) => r = 1) (fun _ => []) := by
  refine x_startI (ty := .boolean) (cc := cX12_in) (by decide) rfl (Nat.le_of_ble_eq_true rfl) ?_
  intro p e s m args below meth c A ls B hr hnm h hl
  have hx := B.1.1
  have hb := B.1.2.1
  have hml := B.1.2.2.1
  have hts := B.1.2.2.2.2
  have hown : s.vm.findClass RX12 = some m.cls := B.1.2.2.2.1
  have hl : lv_has ls 3 [(0, .int 2), (1, .int 0), (2, .int 4)] := hl
  refine lv_iload_n hx hb dX12_in_0 rfl (lv_at hl 0 rfl) ?_
  refine lv_iload_n hx hb dX12_in_1 rfl (lv_at hl 1 rfl) ?_
  refine lv_icmp_lt (tgt := 14) hx hb dX12_in_2 (by decide) (fun c_1 => absurd c_1 (by decide)) (fun c_1 => ?_)
  refine lv_iload_n hx hb dX12_in_5 rfl (lv_at hl 0 rfl) ?_
  refine lv_iload_n hx hb dX12_in_6 rfl (lv_at hl 2 rfl) ?_
  refine lv_icmp_gt (tgt := 14) hx hb dX12_in_7 (by decide) (fun c_2 => absurd c_2 (by decide)) (fun c_2 => ?_)
  refine lv_iconst (v := 1) hx hb dX12_in_10 (by decide) ?_
  refine lv_goto (tgt := 15) hx hb dX12_in_11 (by decide) ?_
  exact x_iret (w1 := (fun _ => [])) () B h hr rfl rfl dX12_in_15
set_option maxHeartbeats 4000000 in
set_option maxRecDepth 100000 in
theorem k204_X12_critical (l : Launch) (D : va_G) (cI cJ cB cZ : ClassId) (ad bd : Nat → Nat) : MetI l yX12_critical wsX12_critical 1 22 0 0 D (TYS cI cJ cB cZ) (WM cI cJ cB cZ bd) [.ref (bd 0), .int 2, .int (-1)] (fun (r : Int32) (_ : Unit) => r = 0) (fun _ => (WM cI cJ cB cZ bd)) := by
  refine x_startI (ty := .int) (cc := cX12_critical) (by decide) rfl (Nat.le_of_ble_eq_true rfl) ?_
  intro p e s m args below meth c A ls B hr hnm h hl
  have hx := B.1.1
  have hb := B.1.2.1
  have hml := B.1.2.2.1
  have hts := B.1.2.2.2.2
  have hown : s.vm.findClass RX12 = some m.cls := B.1.2.2.2.1
  have hin12 : ∀ w ∈ u_ws RX12 TX12 31, w ∈ wsX12_critical := by decide +kernel
  have hl : lv_has ls 5 [(0, .ref (bd 0)), (1, .int 2), (2, .int (-1))] := hl
  refine lv_iload_n hx hb dX12_critical_0 rfl (lv_at hl 1 rfl) ?_
  refine lv_iconst (v := 0) hx hb dX12_critical_1 (by decide) ?_
  refine lv_iconst (v := 4) hx hb dX12_critical_2 (by decide) ?_
  refine x_cSIE (n := 3) (As := [.int 2, .int 0, .int 4]) (rest := []) B h (k203_X12_in l D cI cJ cB cZ ad bd) ⟨⟨_, rfl⟩, by decide +kernel, Nat.le_of_ble_eq_true rfl, Nat.le_of_ble_eq_true rfl⟩ gX12_critical_X12_in rfl hl.1 rfl (Nat.le_of_ble_eq_true rfl) dX12_critical_3 ⟨Nat.le_of_ble_eq_true rfl, Nat.le_of_ble_eq_true rfl⟩ (fun r_1 u_1 H locs hp_1 h => ?_)
  obtain rfl := hp_1
  have h : Hp D A s.heap (WM cI cJ cB cZ bd) H locs := h
  refine lv_if_eq (tgt := 14) hx hb dX12_critical_6 (by decide) (fun c_2 => absurd c_2 (by decide)) (fun c_2 => ?_)
  refine lv_iload_n hx hb dX12_critical_9 rfl (lv_at hl 2 rfl) ?_
  refine lv_iconst (v := (-1)) hx hb dX12_critical_10 (by decide) ?_
  refine lv_icmp_ge (tgt := 16) hx hb dX12_critical_11 (by decide) (fun c_3 => ?_) (fun c_3 => absurd c_3 (by decide))
  refine lv_iconst (v := 0) hx hb dX12_critical_16 (by decide) ?_
  refine lv_istore_n (lv' := [(3, .int 0), (0, .ref (bd 0)), (1, .int 2), (2, .int (-1))]) hx hb dX12_critical_17 rfl hl (by decide) rfl (fun ls hl => ?_)
  refine lv_iconst (v := 0) hx hb dX12_critical_18 (by decide) ?_
  refine lv_istore (lv' := [(4, .int 0), (3, .int 0), (0, .ref (bd 0)), (1, .int 2), (2, .int (-1))]) hx hb dX12_critical_19 hl (by decide) rfl (fun ls hl => ?_)
  refine lv_iload hx hb dX12_critical_21 (lv_at hl 0 rfl) ?_
  refine lv_aload_n hx hb dX12_critical_23 rfl (lv_at hl 2 rfl) ?_
  refine x_get (ci := 12) (C := RX12) (T := TX12) (N := 31) (v := .int 0) B h hin12 0 5 rfl rfl (by decide) (by decide +kernel) rfl dX12_critical_24 ?_
  refine lv_icmp_ge (tgt := 66) hx hb dX12_critical_27 (by decide) (fun c_4 => ?_) (fun c_4 => absurd c_4 (by decide))
  refine lv_iload_n hx hb dX12_critical_66 rfl (lv_at hl 4 rfl) ?_
  refine lv_iconst (v := (-1)) hx hb dX12_critical_67 (by decide) ?_
  refine lv_icmp_ne (tgt := 75) hx hb dX12_critical_68 (by decide) (fun c_5 => absurd c_5 (by decide)) (fun c_5 => ?_)
  refine lv_iload_n hx hb dX12_critical_71 rfl (lv_at hl 1 rfl) ?_
  refine lv_goto (tgt := 77) hx hb dX12_critical_72 (by decide) ?_
  exact x_iret (w1 := (fun _ => (WM cI cJ cB cZ bd))) () B h hr rfl rfl dX12_critical_77
set_option maxHeartbeats 4000000 in
set_option maxRecDepth 100000 in
theorem k205_X12_betti (l : Launch) (D : va_G) (cI cJ cB cZ : ClassId) (ad bd : Nat → Nat) : MetI l yX12_betti wsX12_betti 4 93 0 0 D (TYS cI cJ cB cZ) (WM cI cJ cB cZ bd) [.ref (bd 0), .int 2, .int 0] (fun (r : Int32) (_ : Unit) => r = 0) (fun _ => (WM cI cJ cB cZ bd)) := by
  refine x_startI (ty := .int) (cc := cX12_betti) (by decide) rfl (Nat.le_of_ble_eq_true rfl) ?_
  intro p e s m args below meth c A ls B hr hnm h hl
  have hx := B.1.1
  have hb := B.1.2.1
  have hml := B.1.2.2.1
  have hts := B.1.2.2.2.2
  have hown : s.vm.findClass RX12 = some m.cls := B.1.2.2.2.1
  have hl : lv_has ls 3 [(0, .ref (bd 0)), (1, .int 2), (2, .int 0)] := hl
  refine lv_iload_n hx hb dX12_betti_0 rfl (lv_at hl 1 rfl) ?_
  refine lv_iconst (v := 0) hx hb dX12_betti_1 (by decide) ?_
  refine lv_iconst (v := 4) hx hb dX12_betti_2 (by decide) ?_
  refine x_cSIE (n := 3) (As := [.int 2, .int 0, .int 4]) (rest := []) B h (k203_X12_in l D cI cJ cB cZ ad bd) ⟨⟨_, rfl⟩, by decide +kernel, Nat.le_of_ble_eq_true rfl, Nat.le_of_ble_eq_true rfl⟩ gX12_betti_X12_in rfl hl.1 rfl (Nat.le_of_ble_eq_true rfl) dX12_betti_3 ⟨Nat.le_of_ble_eq_true rfl, Nat.le_of_ble_eq_true rfl⟩ (fun r_1 u_1 H locs hp_1 h => ?_)
  obtain rfl := hp_1
  have h : Hp D A s.heap (WM cI cJ cB cZ bd) H locs := h
  refine lv_if_eq (tgt := 18) hx hb dX12_betti_6 (by decide) (fun c_2 => absurd c_2 (by decide)) (fun c_2 => ?_)
  refine lv_iload_n hx hb dX12_betti_9 rfl (lv_at hl 2 rfl) ?_
  refine lv_iconst (v := 0) hx hb dX12_betti_10 (by decide) ?_
  refine lv_iconst (v := 1) hx hb dX12_betti_11 (by decide) ?_
  refine x_cSIE (n := 3) (As := [.int 0, .int 0, .int 1]) (rest := []) B h (k198_X12_in l D cI cJ cB cZ ad bd) ⟨⟨_, rfl⟩, by decide +kernel, Nat.le_of_ble_eq_true rfl, Nat.le_of_ble_eq_true rfl⟩ gX12_betti_X12_in rfl hl.1 rfl (Nat.le_of_ble_eq_true rfl) dX12_betti_12 ⟨Nat.le_of_ble_eq_true rfl, Nat.le_of_ble_eq_true rfl⟩ (fun r_3 u_3 H locs hp_3 h => ?_)
  obtain rfl := hp_3
  have h : Hp D A s.heap (WM cI cJ cB cZ bd) H locs := h
  refine lv_if_ne (tgt := 20) hx hb dX12_betti_15 (by decide) (fun c_4 => ?_) (fun c_4 => absurd c_4 (by decide))
  refine lv_aload_n hx hb dX12_betti_20 rfl (lv_at hl 0 rfl) ?_
  refine lv_iload_n hx hb dX12_betti_21 rfl (lv_at hl 2 rfl) ?_
  refine x_cVVF (n := 1) (As := [.int 0]) (rest := []) B h (k127_X12_takes l D cI cJ cB cZ ad bd) ⟨⟨_, rfl⟩, by decide +kernel, Nat.le_of_ble_eq_true rfl, Nat.le_of_ble_eq_true rfl⟩ gX12_betti_X12_takes (show ((WM cI cJ cB cZ bd) : va_W)[0]? = some (_, .inr (12, _)) from rfl) rfl rfl hl.1 rfl (Nat.le_of_ble_eq_true rfl) dX12_betti_22 ⟨Nat.le_of_ble_eq_true rfl, Nat.le_of_ble_eq_true rfl⟩ (fun u_5 H locs hp_5 h => ?_)
  have h : Hp D A s.heap (WM cI cJ cB cZ bd) H locs := h
  refine lv_aload_n hx hb dX12_betti_25 rfl (lv_at hl 0 rfl) ?_
  refine lv_iload_n hx hb dX12_betti_26 rfl (lv_at hl 1 rfl) ?_
  refine lv_iload_n hx hb dX12_betti_27 rfl (lv_at hl 2 rfl) ?_
  refine x_cVIF (n := 2) (As := [.int 2, .int 0]) (rest := []) B h (k146_X12_bettiTaken l D cI cJ cB cZ ad bd) ⟨⟨_, rfl⟩, by decide +kernel, Nat.le_of_ble_eq_true rfl, Nat.le_of_ble_eq_true rfl⟩ gX12_betti_X12_bettiTaken (show ((WM cI cJ cB cZ bd) : va_W)[0]? = some (_, .inr (12, _)) from rfl) rfl rfl hl.1 rfl (Nat.le_of_ble_eq_true rfl) dX12_betti_28 ⟨Nat.le_of_ble_eq_true rfl, Nat.le_of_ble_eq_true rfl⟩ (fun r_6 u_6 H locs hp_6 h => ?_)
  obtain rfl := hp_6
  have h : Hp D A s.heap (WM cI cJ cB cZ bd) H locs := h
  exact x_iret (w1 := (fun _ => (WM cI cJ cB cZ bd))) () B h hr rfl rfl dX12_betti_31
set_option maxHeartbeats 4000000 in
set_option maxRecDepth 100000 in
theorem k206_X12_in (l : Launch) (D : va_G) (cI cJ cB cZ : ClassId) (ad bd : Nat → Nat) : MetI l yX12_in wsX12_in 0 0 0 0 D (TYS cI cJ cB cZ) [] [.int 3, .int 0, .int 4] (fun (r : Int32) (_ : Unit) => r = 1) (fun _ => []) := by
  refine x_startI (ty := .boolean) (cc := cX12_in) (by decide) rfl (Nat.le_of_ble_eq_true rfl) ?_
  intro p e s m args below meth c A ls B hr hnm h hl
  have hx := B.1.1
  have hb := B.1.2.1
  have hml := B.1.2.2.1
  have hts := B.1.2.2.2.2
  have hown : s.vm.findClass RX12 = some m.cls := B.1.2.2.2.1
  have hl : lv_has ls 3 [(0, .int 3), (1, .int 0), (2, .int 4)] := hl
  refine lv_iload_n hx hb dX12_in_0 rfl (lv_at hl 0 rfl) ?_
  refine lv_iload_n hx hb dX12_in_1 rfl (lv_at hl 1 rfl) ?_
  refine lv_icmp_lt (tgt := 14) hx hb dX12_in_2 (by decide) (fun c_1 => absurd c_1 (by decide)) (fun c_1 => ?_)
  refine lv_iload_n hx hb dX12_in_5 rfl (lv_at hl 0 rfl) ?_
  refine lv_iload_n hx hb dX12_in_6 rfl (lv_at hl 2 rfl) ?_
  refine lv_icmp_gt (tgt := 14) hx hb dX12_in_7 (by decide) (fun c_2 => absurd c_2 (by decide)) (fun c_2 => ?_)
  refine lv_iconst (v := 1) hx hb dX12_in_10 (by decide) ?_
  refine lv_goto (tgt := 15) hx hb dX12_in_11 (by decide) ?_
  exact x_iret (w1 := (fun _ => [])) () B h hr rfl rfl dX12_in_15
set_option maxHeartbeats 4000000 in
set_option maxRecDepth 100000 in
theorem k207_X12_critical (l : Launch) (D : va_G) (cI cJ cB cZ : ClassId) (ad bd : Nat → Nat) : MetI l yX12_critical wsX12_critical 1 22 0 0 D (TYS cI cJ cB cZ) (WM cI cJ cB cZ bd) [.ref (bd 0), .int 3, .int (-1)] (fun (r : Int32) (_ : Unit) => r = 0) (fun _ => (WM cI cJ cB cZ bd)) := by
  refine x_startI (ty := .int) (cc := cX12_critical) (by decide) rfl (Nat.le_of_ble_eq_true rfl) ?_
  intro p e s m args below meth c A ls B hr hnm h hl
  have hx := B.1.1
  have hb := B.1.2.1
  have hml := B.1.2.2.1
  have hts := B.1.2.2.2.2
  have hown : s.vm.findClass RX12 = some m.cls := B.1.2.2.2.1
  have hin12 : ∀ w ∈ u_ws RX12 TX12 31, w ∈ wsX12_critical := by decide +kernel
  have hl : lv_has ls 5 [(0, .ref (bd 0)), (1, .int 3), (2, .int (-1))] := hl
  refine lv_iload_n hx hb dX12_critical_0 rfl (lv_at hl 1 rfl) ?_
  refine lv_iconst (v := 0) hx hb dX12_critical_1 (by decide) ?_
  refine lv_iconst (v := 4) hx hb dX12_critical_2 (by decide) ?_
  refine x_cSIE (n := 3) (As := [.int 3, .int 0, .int 4]) (rest := []) B h (k206_X12_in l D cI cJ cB cZ ad bd) ⟨⟨_, rfl⟩, by decide +kernel, Nat.le_of_ble_eq_true rfl, Nat.le_of_ble_eq_true rfl⟩ gX12_critical_X12_in rfl hl.1 rfl (Nat.le_of_ble_eq_true rfl) dX12_critical_3 ⟨Nat.le_of_ble_eq_true rfl, Nat.le_of_ble_eq_true rfl⟩ (fun r_1 u_1 H locs hp_1 h => ?_)
  obtain rfl := hp_1
  have h : Hp D A s.heap (WM cI cJ cB cZ bd) H locs := h
  refine lv_if_eq (tgt := 14) hx hb dX12_critical_6 (by decide) (fun c_2 => absurd c_2 (by decide)) (fun c_2 => ?_)
  refine lv_iload_n hx hb dX12_critical_9 rfl (lv_at hl 2 rfl) ?_
  refine lv_iconst (v := (-1)) hx hb dX12_critical_10 (by decide) ?_
  refine lv_icmp_ge (tgt := 16) hx hb dX12_critical_11 (by decide) (fun c_3 => ?_) (fun c_3 => absurd c_3 (by decide))
  refine lv_iconst (v := 0) hx hb dX12_critical_16 (by decide) ?_
  refine lv_istore_n (lv' := [(3, .int 0), (0, .ref (bd 0)), (1, .int 3), (2, .int (-1))]) hx hb dX12_critical_17 rfl hl (by decide) rfl (fun ls hl => ?_)
  refine lv_iconst (v := 0) hx hb dX12_critical_18 (by decide) ?_
  refine lv_istore (lv' := [(4, .int 0), (3, .int 0), (0, .ref (bd 0)), (1, .int 3), (2, .int (-1))]) hx hb dX12_critical_19 hl (by decide) rfl (fun ls hl => ?_)
  refine lv_iload hx hb dX12_critical_21 (lv_at hl 0 rfl) ?_
  refine lv_aload_n hx hb dX12_critical_23 rfl (lv_at hl 2 rfl) ?_
  refine x_get (ci := 12) (C := RX12) (T := TX12) (N := 31) (v := .int 0) B h hin12 0 5 rfl rfl (by decide) (by decide +kernel) rfl dX12_critical_24 ?_
  refine lv_icmp_ge (tgt := 66) hx hb dX12_critical_27 (by decide) (fun c_4 => ?_) (fun c_4 => absurd c_4 (by decide))
  refine lv_iload_n hx hb dX12_critical_66 rfl (lv_at hl 4 rfl) ?_
  refine lv_iconst (v := (-1)) hx hb dX12_critical_67 (by decide) ?_
  refine lv_icmp_ne (tgt := 75) hx hb dX12_critical_68 (by decide) (fun c_5 => absurd c_5 (by decide)) (fun c_5 => ?_)
  refine lv_iload_n hx hb dX12_critical_71 rfl (lv_at hl 1 rfl) ?_
  refine lv_goto (tgt := 77) hx hb dX12_critical_72 (by decide) ?_
  exact x_iret (w1 := (fun _ => (WM cI cJ cB cZ bd))) () B h hr rfl rfl dX12_critical_77
set_option maxHeartbeats 4000000 in
set_option maxRecDepth 100000 in
theorem k208_X12_betti (l : Launch) (D : va_G) (cI cJ cB cZ : ClassId) (ad bd : Nat → Nat) : MetI l yX12_betti wsX12_betti 4 93 0 0 D (TYS cI cJ cB cZ) (WM cI cJ cB cZ bd) [.ref (bd 0), .int 3, .int 0] (fun (r : Int32) (_ : Unit) => r = 0) (fun _ => (WM cI cJ cB cZ bd)) := by
  refine x_startI (ty := .int) (cc := cX12_betti) (by decide) rfl (Nat.le_of_ble_eq_true rfl) ?_
  intro p e s m args below meth c A ls B hr hnm h hl
  have hx := B.1.1
  have hb := B.1.2.1
  have hml := B.1.2.2.1
  have hts := B.1.2.2.2.2
  have hown : s.vm.findClass RX12 = some m.cls := B.1.2.2.2.1
  have hl : lv_has ls 3 [(0, .ref (bd 0)), (1, .int 3), (2, .int 0)] := hl
  refine lv_iload_n hx hb dX12_betti_0 rfl (lv_at hl 1 rfl) ?_
  refine lv_iconst (v := 0) hx hb dX12_betti_1 (by decide) ?_
  refine lv_iconst (v := 4) hx hb dX12_betti_2 (by decide) ?_
  refine x_cSIE (n := 3) (As := [.int 3, .int 0, .int 4]) (rest := []) B h (k206_X12_in l D cI cJ cB cZ ad bd) ⟨⟨_, rfl⟩, by decide +kernel, Nat.le_of_ble_eq_true rfl, Nat.le_of_ble_eq_true rfl⟩ gX12_betti_X12_in rfl hl.1 rfl (Nat.le_of_ble_eq_true rfl) dX12_betti_3 ⟨Nat.le_of_ble_eq_true rfl, Nat.le_of_ble_eq_true rfl⟩ (fun r_1 u_1 H locs hp_1 h => ?_)
  obtain rfl := hp_1
  have h : Hp D A s.heap (WM cI cJ cB cZ bd) H locs := h
  refine lv_if_eq (tgt := 18) hx hb dX12_betti_6 (by decide) (fun c_2 => absurd c_2 (by decide)) (fun c_2 => ?_)
  refine lv_iload_n hx hb dX12_betti_9 rfl (lv_at hl 2 rfl) ?_
  refine lv_iconst (v := 0) hx hb dX12_betti_10 (by decide) ?_
  refine lv_iconst (v := 1) hx hb dX12_betti_11 (by decide) ?_
  refine x_cSIE (n := 3) (As := [.int 0, .int 0, .int 1]) (rest := []) B h (k198_X12_in l D cI cJ cB cZ ad bd) ⟨⟨_, rfl⟩, by decide +kernel, Nat.le_of_ble_eq_true rfl, Nat.le_of_ble_eq_true rfl⟩ gX12_betti_X12_in rfl hl.1 rfl (Nat.le_of_ble_eq_true rfl) dX12_betti_12 ⟨Nat.le_of_ble_eq_true rfl, Nat.le_of_ble_eq_true rfl⟩ (fun r_3 u_3 H locs hp_3 h => ?_)
  obtain rfl := hp_3
  have h : Hp D A s.heap (WM cI cJ cB cZ bd) H locs := h
  refine lv_if_ne (tgt := 20) hx hb dX12_betti_15 (by decide) (fun c_4 => ?_) (fun c_4 => absurd c_4 (by decide))
  refine lv_aload_n hx hb dX12_betti_20 rfl (lv_at hl 0 rfl) ?_
  refine lv_iload_n hx hb dX12_betti_21 rfl (lv_at hl 2 rfl) ?_
  refine x_cVVF (n := 1) (As := [.int 0]) (rest := []) B h (k127_X12_takes l D cI cJ cB cZ ad bd) ⟨⟨_, rfl⟩, by decide +kernel, Nat.le_of_ble_eq_true rfl, Nat.le_of_ble_eq_true rfl⟩ gX12_betti_X12_takes (show ((WM cI cJ cB cZ bd) : va_W)[0]? = some (_, .inr (12, _)) from rfl) rfl rfl hl.1 rfl (Nat.le_of_ble_eq_true rfl) dX12_betti_22 ⟨Nat.le_of_ble_eq_true rfl, Nat.le_of_ble_eq_true rfl⟩ (fun u_5 H locs hp_5 h => ?_)
  have h : Hp D A s.heap (WM cI cJ cB cZ bd) H locs := h
  refine lv_aload_n hx hb dX12_betti_25 rfl (lv_at hl 0 rfl) ?_
  refine lv_iload_n hx hb dX12_betti_26 rfl (lv_at hl 1 rfl) ?_
  refine lv_iload_n hx hb dX12_betti_27 rfl (lv_at hl 2 rfl) ?_
  refine x_cVIF (n := 2) (As := [.int 3, .int 0]) (rest := []) B h (k151_X12_bettiTaken l D cI cJ cB cZ ad bd) ⟨⟨_, rfl⟩, by decide +kernel, Nat.le_of_ble_eq_true rfl, Nat.le_of_ble_eq_true rfl⟩ gX12_betti_X12_bettiTaken (show ((WM cI cJ cB cZ bd) : va_W)[0]? = some (_, .inr (12, _)) from rfl) rfl rfl hl.1 rfl (Nat.le_of_ble_eq_true rfl) dX12_betti_28 ⟨Nat.le_of_ble_eq_true rfl, Nat.le_of_ble_eq_true rfl⟩ (fun r_6 u_6 H locs hp_6 h => ?_)
  obtain rfl := hp_6
  have h : Hp D A s.heap (WM cI cJ cB cZ bd) H locs := h
  exact x_iret (w1 := (fun _ => (WM cI cJ cB cZ bd))) () B h hr rfl rfl dX12_betti_31
set_option maxHeartbeats 4000000 in
set_option maxRecDepth 100000 in
theorem k209_X12_in (l : Launch) (D : va_G) (cI cJ cB cZ : ClassId) (ad bd : Nat → Nat) : MetI l yX12_in wsX12_in 0 0 0 0 D (TYS cI cJ cB cZ) [] [.int 4, .int 0, .int 4] (fun (r : Int32) (_ : Unit) => r = 1) (fun _ => []) := by
  refine x_startI (ty := .boolean) (cc := cX12_in) (by decide) rfl (Nat.le_of_ble_eq_true rfl) ?_
  intro p e s m args below meth c A ls B hr hnm h hl
  have hx := B.1.1
  have hb := B.1.2.1
  have hml := B.1.2.2.1
  have hts := B.1.2.2.2.2
  have hown : s.vm.findClass RX12 = some m.cls := B.1.2.2.2.1
  have hl : lv_has ls 3 [(0, .int 4), (1, .int 0), (2, .int 4)] := hl
  refine lv_iload_n hx hb dX12_in_0 rfl (lv_at hl 0 rfl) ?_
  refine lv_iload_n hx hb dX12_in_1 rfl (lv_at hl 1 rfl) ?_
  refine lv_icmp_lt (tgt := 14) hx hb dX12_in_2 (by decide) (fun c_1 => absurd c_1 (by decide)) (fun c_1 => ?_)
  refine lv_iload_n hx hb dX12_in_5 rfl (lv_at hl 0 rfl) ?_
  refine lv_iload_n hx hb dX12_in_6 rfl (lv_at hl 2 rfl) ?_
  refine lv_icmp_gt (tgt := 14) hx hb dX12_in_7 (by decide) (fun c_2 => absurd c_2 (by decide)) (fun c_2 => ?_)
  refine lv_iconst (v := 1) hx hb dX12_in_10 (by decide) ?_
  refine lv_goto (tgt := 15) hx hb dX12_in_11 (by decide) ?_
  exact x_iret (w1 := (fun _ => [])) () B h hr rfl rfl dX12_in_15
set_option maxHeartbeats 4000000 in
set_option maxRecDepth 100000 in
theorem k210_X12_critical (l : Launch) (D : va_G) (cI cJ cB cZ : ClassId) (ad bd : Nat → Nat) : MetI l yX12_critical wsX12_critical 1 22 0 0 D (TYS cI cJ cB cZ) (WM cI cJ cB cZ bd) [.ref (bd 0), .int 4, .int (-1)] (fun (r : Int32) (_ : Unit) => r = 0) (fun _ => (WM cI cJ cB cZ bd)) := by
  refine x_startI (ty := .int) (cc := cX12_critical) (by decide) rfl (Nat.le_of_ble_eq_true rfl) ?_
  intro p e s m args below meth c A ls B hr hnm h hl
  have hx := B.1.1
  have hb := B.1.2.1
  have hml := B.1.2.2.1
  have hts := B.1.2.2.2.2
  have hown : s.vm.findClass RX12 = some m.cls := B.1.2.2.2.1
  have hin12 : ∀ w ∈ u_ws RX12 TX12 31, w ∈ wsX12_critical := by decide +kernel
  have hl : lv_has ls 5 [(0, .ref (bd 0)), (1, .int 4), (2, .int (-1))] := hl
  refine lv_iload_n hx hb dX12_critical_0 rfl (lv_at hl 1 rfl) ?_
  refine lv_iconst (v := 0) hx hb dX12_critical_1 (by decide) ?_
  refine lv_iconst (v := 4) hx hb dX12_critical_2 (by decide) ?_
  refine x_cSIE (n := 3) (As := [.int 4, .int 0, .int 4]) (rest := []) B h (k209_X12_in l D cI cJ cB cZ ad bd) ⟨⟨_, rfl⟩, by decide +kernel, Nat.le_of_ble_eq_true rfl, Nat.le_of_ble_eq_true rfl⟩ gX12_critical_X12_in rfl hl.1 rfl (Nat.le_of_ble_eq_true rfl) dX12_critical_3 ⟨Nat.le_of_ble_eq_true rfl, Nat.le_of_ble_eq_true rfl⟩ (fun r_1 u_1 H locs hp_1 h => ?_)
  obtain rfl := hp_1
  have h : Hp D A s.heap (WM cI cJ cB cZ bd) H locs := h
  refine lv_if_eq (tgt := 14) hx hb dX12_critical_6 (by decide) (fun c_2 => absurd c_2 (by decide)) (fun c_2 => ?_)
  refine lv_iload_n hx hb dX12_critical_9 rfl (lv_at hl 2 rfl) ?_
  refine lv_iconst (v := (-1)) hx hb dX12_critical_10 (by decide) ?_
  refine lv_icmp_ge (tgt := 16) hx hb dX12_critical_11 (by decide) (fun c_3 => ?_) (fun c_3 => absurd c_3 (by decide))
  refine lv_iconst (v := 0) hx hb dX12_critical_16 (by decide) ?_
  refine lv_istore_n (lv' := [(3, .int 0), (0, .ref (bd 0)), (1, .int 4), (2, .int (-1))]) hx hb dX12_critical_17 rfl hl (by decide) rfl (fun ls hl => ?_)
  refine lv_iconst (v := 0) hx hb dX12_critical_18 (by decide) ?_
  refine lv_istore (lv' := [(4, .int 0), (3, .int 0), (0, .ref (bd 0)), (1, .int 4), (2, .int (-1))]) hx hb dX12_critical_19 hl (by decide) rfl (fun ls hl => ?_)
  refine lv_iload hx hb dX12_critical_21 (lv_at hl 0 rfl) ?_
  refine lv_aload_n hx hb dX12_critical_23 rfl (lv_at hl 2 rfl) ?_
  refine x_get (ci := 12) (C := RX12) (T := TX12) (N := 31) (v := .int 0) B h hin12 0 5 rfl rfl (by decide) (by decide +kernel) rfl dX12_critical_24 ?_
  refine lv_icmp_ge (tgt := 66) hx hb dX12_critical_27 (by decide) (fun c_4 => ?_) (fun c_4 => absurd c_4 (by decide))
  refine lv_iload_n hx hb dX12_critical_66 rfl (lv_at hl 4 rfl) ?_
  refine lv_iconst (v := (-1)) hx hb dX12_critical_67 (by decide) ?_
  refine lv_icmp_ne (tgt := 75) hx hb dX12_critical_68 (by decide) (fun c_5 => absurd c_5 (by decide)) (fun c_5 => ?_)
  refine lv_iload_n hx hb dX12_critical_71 rfl (lv_at hl 1 rfl) ?_
  refine lv_goto (tgt := 77) hx hb dX12_critical_72 (by decide) ?_
  exact x_iret (w1 := (fun _ => (WM cI cJ cB cZ bd))) () B h hr rfl rfl dX12_critical_77
set_option maxHeartbeats 4000000 in
set_option maxRecDepth 100000 in
theorem k211_X12_betti (l : Launch) (D : va_G) (cI cJ cB cZ : ClassId) (ad bd : Nat → Nat) : MetI l yX12_betti wsX12_betti 4 93 0 0 D (TYS cI cJ cB cZ) (WM cI cJ cB cZ bd) [.ref (bd 0), .int 4, .int 0] (fun (r : Int32) (_ : Unit) => r = 0) (fun _ => (WM cI cJ cB cZ bd)) := by
  refine x_startI (ty := .int) (cc := cX12_betti) (by decide) rfl (Nat.le_of_ble_eq_true rfl) ?_
  intro p e s m args below meth c A ls B hr hnm h hl
  have hx := B.1.1
  have hb := B.1.2.1
  have hml := B.1.2.2.1
  have hts := B.1.2.2.2.2
  have hown : s.vm.findClass RX12 = some m.cls := B.1.2.2.2.1
  have hl : lv_has ls 3 [(0, .ref (bd 0)), (1, .int 4), (2, .int 0)] := hl
  refine lv_iload_n hx hb dX12_betti_0 rfl (lv_at hl 1 rfl) ?_
  refine lv_iconst (v := 0) hx hb dX12_betti_1 (by decide) ?_
  refine lv_iconst (v := 4) hx hb dX12_betti_2 (by decide) ?_
  refine x_cSIE (n := 3) (As := [.int 4, .int 0, .int 4]) (rest := []) B h (k209_X12_in l D cI cJ cB cZ ad bd) ⟨⟨_, rfl⟩, by decide +kernel, Nat.le_of_ble_eq_true rfl, Nat.le_of_ble_eq_true rfl⟩ gX12_betti_X12_in rfl hl.1 rfl (Nat.le_of_ble_eq_true rfl) dX12_betti_3 ⟨Nat.le_of_ble_eq_true rfl, Nat.le_of_ble_eq_true rfl⟩ (fun r_1 u_1 H locs hp_1 h => ?_)
  obtain rfl := hp_1
  have h : Hp D A s.heap (WM cI cJ cB cZ bd) H locs := h
  refine lv_if_eq (tgt := 18) hx hb dX12_betti_6 (by decide) (fun c_2 => absurd c_2 (by decide)) (fun c_2 => ?_)
  refine lv_iload_n hx hb dX12_betti_9 rfl (lv_at hl 2 rfl) ?_
  refine lv_iconst (v := 0) hx hb dX12_betti_10 (by decide) ?_
  refine lv_iconst (v := 1) hx hb dX12_betti_11 (by decide) ?_
  refine x_cSIE (n := 3) (As := [.int 0, .int 0, .int 1]) (rest := []) B h (k198_X12_in l D cI cJ cB cZ ad bd) ⟨⟨_, rfl⟩, by decide +kernel, Nat.le_of_ble_eq_true rfl, Nat.le_of_ble_eq_true rfl⟩ gX12_betti_X12_in rfl hl.1 rfl (Nat.le_of_ble_eq_true rfl) dX12_betti_12 ⟨Nat.le_of_ble_eq_true rfl, Nat.le_of_ble_eq_true rfl⟩ (fun r_3 u_3 H locs hp_3 h => ?_)
  obtain rfl := hp_3
  have h : Hp D A s.heap (WM cI cJ cB cZ bd) H locs := h
  refine lv_if_ne (tgt := 20) hx hb dX12_betti_15 (by decide) (fun c_4 => ?_) (fun c_4 => absurd c_4 (by decide))
  refine lv_aload_n hx hb dX12_betti_20 rfl (lv_at hl 0 rfl) ?_
  refine lv_iload_n hx hb dX12_betti_21 rfl (lv_at hl 2 rfl) ?_
  refine x_cVVF (n := 1) (As := [.int 0]) (rest := []) B h (k127_X12_takes l D cI cJ cB cZ ad bd) ⟨⟨_, rfl⟩, by decide +kernel, Nat.le_of_ble_eq_true rfl, Nat.le_of_ble_eq_true rfl⟩ gX12_betti_X12_takes (show ((WM cI cJ cB cZ bd) : va_W)[0]? = some (_, .inr (12, _)) from rfl) rfl rfl hl.1 rfl (Nat.le_of_ble_eq_true rfl) dX12_betti_22 ⟨Nat.le_of_ble_eq_true rfl, Nat.le_of_ble_eq_true rfl⟩ (fun u_5 H locs hp_5 h => ?_)
  have h : Hp D A s.heap (WM cI cJ cB cZ bd) H locs := h
  refine lv_aload_n hx hb dX12_betti_25 rfl (lv_at hl 0 rfl) ?_
  refine lv_iload_n hx hb dX12_betti_26 rfl (lv_at hl 1 rfl) ?_
  refine lv_iload_n hx hb dX12_betti_27 rfl (lv_at hl 2 rfl) ?_
  refine x_cVIF (n := 2) (As := [.int 4, .int 0]) (rest := []) B h (k154_X12_bettiTaken l D cI cJ cB cZ ad bd) ⟨⟨_, rfl⟩, by decide +kernel, Nat.le_of_ble_eq_true rfl, Nat.le_of_ble_eq_true rfl⟩ gX12_betti_X12_bettiTaken (show ((WM cI cJ cB cZ bd) : va_W)[0]? = some (_, .inr (12, _)) from rfl) rfl rfl hl.1 rfl (Nat.le_of_ble_eq_true rfl) dX12_betti_28 ⟨Nat.le_of_ble_eq_true rfl, Nat.le_of_ble_eq_true rfl⟩ (fun r_6 u_6 H locs hp_6 h => ?_)
  obtain rfl := hp_6
  have h : Hp D A s.heap (WM cI cJ cB cZ bd) H locs := h
  exact x_iret (w1 := (fun _ => (WM cI cJ cB cZ bd))) () B h hr rfl rfl dX12_betti_31
set_option maxHeartbeats 4000000 in
set_option maxRecDepth 100000 in
theorem k212_X12_slack (l : Launch) (D : va_G) (cI cJ cB cZ : ClassId) (ad bd : Nat → Nat) (p1 : Int32) : MetI l yX12_slack wsX12_slack 5 115 0 0 D (TYS cI cJ cB cZ) (WM cI cJ cB cZ bd) [.ref (bd 0), .int p1] (fun (r : Int32) (u : Nat) => (u = 0 ∧ (p1 < 0) ∧ r = (-2147483648)) ∨ (u = 1 ∧ (¬ p1 < 0) ∧ (4 < p1) ∧ r = (-2147483648)) ∨ (u = 2 ∧ (¬ p1 < 0) ∧ (¬ 4 < p1) ∧ (¬ p1 < 0) ∧ (p1 < 1) ∧ r = 0) ∨ (u = 3 ∧ (¬ p1 < 0) ∧ (¬ 4 < p1) ∧ (¬ p1 < 0) ∧ (¬ p1 < 1) ∧ (p1 < 2) ∧ r = 0) ∨ (u = 4 ∧ (¬ p1 < 0) ∧ (¬ 4 < p1) ∧ (¬ p1 < 0) ∧ (¬ p1 < 1) ∧ (¬ p1 < 2) ∧ (p1 < 3) ∧ r = 0) ∨ (u = 5 ∧ (¬ p1 < 0) ∧ (¬ 4 < p1) ∧ (¬ p1 < 0) ∧ (¬ p1 < 1) ∧ (¬ p1 < 2) ∧ (¬ p1 < 3) ∧ (p1 < 4) ∧ r = 0) ∨ (u = 6 ∧ (¬ p1 < 0) ∧ (¬ 4 < p1) ∧ (¬ p1 < 0) ∧ (¬ p1 < 1) ∧ (¬ p1 < 2) ∧ (¬ p1 < 3) ∧ (¬ p1 < 4) ∧ (p1 < 5) ∧ r = 0)) (fun _ => (WM cI cJ cB cZ bd)) := by
  refine x_startI (ty := .int) (cc := cX12_slack) (by decide) rfl (Nat.le_of_ble_eq_true rfl) ?_
  intro p e s m args below meth c A ls B hr hnm h hl
  have hx := B.1.1
  have hb := B.1.2.1
  have hml := B.1.2.2.1
  have hts := B.1.2.2.2.2
  have hown : s.vm.findClass RX12 = some m.cls := B.1.2.2.2.1
  have hl : lv_has ls 4 [(0, .ref (bd 0)), (1, .int p1)] := hl
  refine lv_iload_n hx hb dX12_slack_0 rfl (lv_at hl 1 rfl) ?_
  refine lv_iconst (v := 0) hx hb dX12_slack_1 (by decide) ?_
  refine lv_iconst (v := 4) hx hb dX12_slack_2 (by decide) ?_
  refine x_cSIE (n := 3) (As := [.int p1, .int 0, .int 4]) (rest := []) B h (k71_X12_in l D cI cJ cB cZ ad bd p1) ⟨⟨_, rfl⟩, by decide +kernel, Nat.le_of_ble_eq_true rfl, Nat.le_of_ble_eq_true rfl⟩ gX12_slack_X12_in rfl hl.1 rfl (Nat.le_of_ble_eq_true rfl) dX12_slack_3 ⟨Nat.le_of_ble_eq_true rfl, Nat.le_of_ble_eq_true rfl⟩ (fun r_1 u_1 H locs hp_1 h => ?_)
  rcases hp_1 with ⟨rfl, k_1_0, rfl⟩ | ⟨rfl, k_1_0, k_1_1, rfl⟩ | ⟨rfl, k_1_0, k_1_1, rfl⟩
  · skip
    have h : Hp D A s.heap (WM cI cJ cB cZ bd) H locs := h
    refine lv_if_ne (tgt := 12) hx hb dX12_slack_6 (by decide) (fun c_2 => absurd c_2 (by decide)) (fun c_2 => ?_)
    refine lv_ldc (v := (-2147483648)) hx hb hown (hts (.constant RX12 165 (-2147483648)) (by decide +kernel)) dX12_slack_9 ?_
    exact x_iret (w1 := (fun _ => (WM cI cJ cB cZ bd))) 0 B h hr rfl (Or.inl ⟨rfl, k_1_0, rfl⟩) dX12_slack_11
  · skip
    have h : Hp D A s.heap (WM cI cJ cB cZ bd) H locs := h
    refine lv_if_ne (tgt := 12) hx hb dX12_slack_6 (by decide) (fun c_3 => absurd c_3 (by decide)) (fun c_3 => ?_)
    refine lv_ldc (v := (-2147483648)) hx hb hown (hts (.constant RX12 165 (-2147483648)) (by decide +kernel)) dX12_slack_9 ?_
    exact x_iret (w1 := (fun _ => (WM cI cJ cB cZ bd))) 1 B h hr rfl (Or.inr (Or.inl ⟨rfl, k_1_0, k_1_1, rfl⟩)) dX12_slack_11
  · skip
    have h : Hp D A s.heap (WM cI cJ cB cZ bd) H locs := h
    refine lv_if_ne (tgt := 12) hx hb dX12_slack_6 (by decide) (fun c_4 => ?_) (fun c_4 => absurd c_4 (by decide))
    refine lv_iconst (v := 0) hx hb dX12_slack_12 (by decide) ?_
    refine lv_istore_n (lv' := [(2, .int 0), (0, .ref (bd 0)), (1, .int p1)]) hx hb dX12_slack_13 rfl hl (by decide) rfl (fun ls hl => ?_)
    refine lv_iconst (v := 0) hx hb dX12_slack_14 (by decide) ?_
    refine lv_istore_n (lv' := [(3, .int 0), (2, .int 0), (0, .ref (bd 0)), (1, .int p1)]) hx hb dX12_slack_15 rfl hl (by decide) rfl (fun ls hl => ?_)
    refine lv_iload_n hx hb dX12_slack_16 rfl (lv_at hl 0 rfl) ?_
    refine lv_iload_n hx hb dX12_slack_17 rfl (lv_at hl 3 rfl) ?_
    refine lv_icmp_gt (tgt := 43) hx hb dX12_slack_18 (by decide) (fun c_5 => absurd c_5 (by simp only [Int32.lt_iff_toInt_lt, Int32.le_iff_toInt_le, ← Int32.toInt_inj, show ((0 : Int32)).toInt = 0 from by decide, show ((4 : Int32)).toInt = 4 from by decide] at k_1_0 k_1_1 ⊢; omega)) (fun c_5 => ?_)
    refine lv_aload_n hx hb dX12_slack_21 rfl (lv_at hl 2 rfl) ?_
    refine lv_iload_n hx hb dX12_slack_22 rfl (lv_at hl 0 rfl) ?_
    refine lv_iconst (v := (-1)) hx hb dX12_slack_23 (by decide) ?_
    refine x_cVIF (n := 2) (As := [.int 0, .int (-1)]) (rest := []) B h (k197_X12_critical l D cI cJ cB cZ ad bd) ⟨⟨_, rfl⟩, by decide +kernel, Nat.le_of_ble_eq_true rfl, Nat.le_of_ble_eq_true rfl⟩ gX12_slack_X12_critical (show ((WM cI cJ cB cZ bd) : va_W)[0]? = some (_, .inr (12, _)) from rfl) rfl rfl hl.1 rfl (Nat.le_of_ble_eq_true rfl) dX12_slack_24 ⟨Nat.le_of_ble_eq_true rfl, Nat.le_of_ble_eq_true rfl⟩ (fun r_6 u_6 H locs hp_6 h => ?_)
    obtain rfl := hp_6
    have h : Hp D A s.heap (WM cI cJ cB cZ bd) H locs := h
    refine lv_aload_n hx hb dX12_slack_27 rfl (lv_at hl 2 rfl) ?_
    refine lv_iload_n hx hb dX12_slack_28 rfl (lv_at hl 0 rfl) ?_
    refine lv_iconst (v := 0) hx hb dX12_slack_29 (by decide) ?_
    refine x_cVIF (n := 2) (As := [.int 0, .int 0]) (rest := [.int 0]) B h (k199_X12_betti l D cI cJ cB cZ ad bd) ⟨⟨_, rfl⟩, by decide +kernel, Nat.le_of_ble_eq_true rfl, Nat.le_of_ble_eq_true rfl⟩ gX12_slack_X12_betti (show ((WM cI cJ cB cZ bd) : va_W)[0]? = some (_, .inr (12, _)) from rfl) rfl rfl hl.1 rfl (Nat.le_of_ble_eq_true rfl) dX12_slack_30 ⟨Nat.le_of_ble_eq_true rfl, Nat.le_of_ble_eq_true rfl⟩ (fun r_7 u_7 H locs hp_7 h => ?_)
    obtain rfl := hp_7
    have h : Hp D A s.heap (WM cI cJ cB cZ bd) H locs := h
    refine lv_isub hx hb dX12_slack_33 ?_
    refine lv_topi (fun v_8 ev_8 => ?_)
    obtain rfl : v_8 = 0 := ev_8.trans (by decide)
    refine lv_iload_n hx hb dX12_slack_34 rfl (lv_at hl 1 rfl) ?_
    refine lv_isub hx hb dX12_slack_35 ?_
    refine lv_topi (fun v_9 ev_9 => ?_)
    obtain rfl : v_9 = 0 := ev_9.trans (by decide)
    refine lv_istore_n (lv' := [(2, .int 0), (3, .int 0), (0, .ref (bd 0)), (1, .int p1)]) hx hb dX12_slack_36 rfl hl (by decide) rfl (fun ls hl => ?_)
    refine lv_iinc (v := 1) (lv' := [(3, .int 1), (2, .int 0), (0, .ref (bd 0)), (1, .int p1)]) hx hb dX12_slack_37 hl (k := 1) rfl (by decide) (by decide) rfl (fun ls hl => ?_)
    refine lv_goto (tgt := 16) hx hb dX12_slack_40 (by decide) ?_
    refine lv_iload_n hx hb dX12_slack_16 rfl (lv_at hl 0 rfl) ?_
    refine lv_iload_n hx hb dX12_slack_17 rfl (lv_at hl 3 rfl) ?_
    refine lv_icmp_gt (tgt := 43) hx hb dX12_slack_18 (by decide) (fun c_10 => ?_) (fun c_10 => ?_)
    · skip
      refine lv_iload_n hx hb dX12_slack_43 rfl (lv_at hl 1 rfl) ?_
      exact x_iret (w1 := (fun _ => (WM cI cJ cB cZ bd))) 2 B h hr rfl (Or.inr (Or.inr (Or.inl ⟨rfl, k_1_0, k_1_1, c_5, c_10, rfl⟩))) dX12_slack_44
    · skip
      refine lv_aload_n hx hb dX12_slack_21 rfl (lv_at hl 2 rfl) ?_
      refine lv_iload_n hx hb dX12_slack_22 rfl (lv_at hl 0 rfl) ?_
      refine lv_iconst (v := (-1)) hx hb dX12_slack_23 (by decide) ?_
      refine x_cVIF (n := 2) (As := [.int 1, .int (-1)]) (rest := []) B h (k201_X12_critical l D cI cJ cB cZ ad bd) ⟨⟨_, rfl⟩, by decide +kernel, Nat.le_of_ble_eq_true rfl, Nat.le_of_ble_eq_true rfl⟩ gX12_slack_X12_critical (show ((WM cI cJ cB cZ bd) : va_W)[0]? = some (_, .inr (12, _)) from rfl) rfl rfl hl.1 rfl (Nat.le_of_ble_eq_true rfl) dX12_slack_24 ⟨Nat.le_of_ble_eq_true rfl, Nat.le_of_ble_eq_true rfl⟩ (fun r_11 u_11 H locs hp_11 h => ?_)
      obtain rfl := hp_11
      have h : Hp D A s.heap (WM cI cJ cB cZ bd) H locs := h
      refine lv_aload_n hx hb dX12_slack_27 rfl (lv_at hl 2 rfl) ?_
      refine lv_iload_n hx hb dX12_slack_28 rfl (lv_at hl 0 rfl) ?_
      refine lv_iconst (v := 0) hx hb dX12_slack_29 (by decide) ?_
      refine x_cVIF (n := 2) (As := [.int 1, .int 0]) (rest := [.int 0]) B h (k202_X12_betti l D cI cJ cB cZ ad bd) ⟨⟨_, rfl⟩, by decide +kernel, Nat.le_of_ble_eq_true rfl, Nat.le_of_ble_eq_true rfl⟩ gX12_slack_X12_betti (show ((WM cI cJ cB cZ bd) : va_W)[0]? = some (_, .inr (12, _)) from rfl) rfl rfl hl.1 rfl (Nat.le_of_ble_eq_true rfl) dX12_slack_30 ⟨Nat.le_of_ble_eq_true rfl, Nat.le_of_ble_eq_true rfl⟩ (fun r_12 u_12 H locs hp_12 h => ?_)
      obtain rfl := hp_12
      have h : Hp D A s.heap (WM cI cJ cB cZ bd) H locs := h
      refine lv_isub hx hb dX12_slack_33 ?_
      refine lv_topi (fun v_13 ev_13 => ?_)
      obtain rfl : v_13 = 0 := ev_13.trans (by decide)
      refine lv_iload_n hx hb dX12_slack_34 rfl (lv_at hl 1 rfl) ?_
      refine lv_isub hx hb dX12_slack_35 ?_
      refine lv_topi (fun v_14 ev_14 => ?_)
      obtain rfl : v_14 = 0 := ev_14.trans (by decide)
      refine lv_istore_n (lv' := [(2, .int 0), (3, .int 1), (0, .ref (bd 0)), (1, .int p1)]) hx hb dX12_slack_36 rfl hl (by decide) rfl (fun ls hl => ?_)
      refine lv_iinc (v := 2) (lv' := [(3, .int 2), (2, .int 0), (0, .ref (bd 0)), (1, .int p1)]) hx hb dX12_slack_37 hl (k := 1) rfl (by decide) (by decide) rfl (fun ls hl => ?_)
      refine lv_goto (tgt := 16) hx hb dX12_slack_40 (by decide) ?_
      refine lv_iload_n hx hb dX12_slack_16 rfl (lv_at hl 0 rfl) ?_
      refine lv_iload_n hx hb dX12_slack_17 rfl (lv_at hl 3 rfl) ?_
      refine lv_icmp_gt (tgt := 43) hx hb dX12_slack_18 (by decide) (fun c_15 => ?_) (fun c_15 => ?_)
      · skip
        refine lv_iload_n hx hb dX12_slack_43 rfl (lv_at hl 1 rfl) ?_
        exact x_iret (w1 := (fun _ => (WM cI cJ cB cZ bd))) 3 B h hr rfl (Or.inr (Or.inr (Or.inr (Or.inl ⟨rfl, k_1_0, k_1_1, c_5, c_10, c_15, rfl⟩)))) dX12_slack_44
      · skip
        refine lv_aload_n hx hb dX12_slack_21 rfl (lv_at hl 2 rfl) ?_
        refine lv_iload_n hx hb dX12_slack_22 rfl (lv_at hl 0 rfl) ?_
        refine lv_iconst (v := (-1)) hx hb dX12_slack_23 (by decide) ?_
        refine x_cVIF (n := 2) (As := [.int 2, .int (-1)]) (rest := []) B h (k204_X12_critical l D cI cJ cB cZ ad bd) ⟨⟨_, rfl⟩, by decide +kernel, Nat.le_of_ble_eq_true rfl, Nat.le_of_ble_eq_true rfl⟩ gX12_slack_X12_critical (show ((WM cI cJ cB cZ bd) : va_W)[0]? = some (_, .inr (12, _)) from rfl) rfl rfl hl.1 rfl (Nat.le_of_ble_eq_true rfl) dX12_slack_24 ⟨Nat.le_of_ble_eq_true rfl, Nat.le_of_ble_eq_true rfl⟩ (fun r_16 u_16 H locs hp_16 h => ?_)
        obtain rfl := hp_16
        have h : Hp D A s.heap (WM cI cJ cB cZ bd) H locs := h
        refine lv_aload_n hx hb dX12_slack_27 rfl (lv_at hl 2 rfl) ?_
        refine lv_iload_n hx hb dX12_slack_28 rfl (lv_at hl 0 rfl) ?_
        refine lv_iconst (v := 0) hx hb dX12_slack_29 (by decide) ?_
        refine x_cVIF (n := 2) (As := [.int 2, .int 0]) (rest := [.int 0]) B h (k205_X12_betti l D cI cJ cB cZ ad bd) ⟨⟨_, rfl⟩, by decide +kernel, Nat.le_of_ble_eq_true rfl, Nat.le_of_ble_eq_true rfl⟩ gX12_slack_X12_betti (show ((WM cI cJ cB cZ bd) : va_W)[0]? = some (_, .inr (12, _)) from rfl) rfl rfl hl.1 rfl (Nat.le_of_ble_eq_true rfl) dX12_slack_30 ⟨Nat.le_of_ble_eq_true rfl, Nat.le_of_ble_eq_true rfl⟩ (fun r_17 u_17 H locs hp_17 h => ?_)
        obtain rfl := hp_17
        have h : Hp D A s.heap (WM cI cJ cB cZ bd) H locs := h
        refine lv_isub hx hb dX12_slack_33 ?_
        refine lv_topi (fun v_18 ev_18 => ?_)
        obtain rfl : v_18 = 0 := ev_18.trans (by decide)
        refine lv_iload_n hx hb dX12_slack_34 rfl (lv_at hl 1 rfl) ?_
        refine lv_isub hx hb dX12_slack_35 ?_
        refine lv_topi (fun v_19 ev_19 => ?_)
        obtain rfl : v_19 = 0 := ev_19.trans (by decide)
        refine lv_istore_n (lv' := [(2, .int 0), (3, .int 2), (0, .ref (bd 0)), (1, .int p1)]) hx hb dX12_slack_36 rfl hl (by decide) rfl (fun ls hl => ?_)
        refine lv_iinc (v := 3) (lv' := [(3, .int 3), (2, .int 0), (0, .ref (bd 0)), (1, .int p1)]) hx hb dX12_slack_37 hl (k := 1) rfl (by decide) (by decide) rfl (fun ls hl => ?_)
        refine lv_goto (tgt := 16) hx hb dX12_slack_40 (by decide) ?_
        refine lv_iload_n hx hb dX12_slack_16 rfl (lv_at hl 0 rfl) ?_
        refine lv_iload_n hx hb dX12_slack_17 rfl (lv_at hl 3 rfl) ?_
        refine lv_icmp_gt (tgt := 43) hx hb dX12_slack_18 (by decide) (fun c_20 => ?_) (fun c_20 => ?_)
        · skip
          refine lv_iload_n hx hb dX12_slack_43 rfl (lv_at hl 1 rfl) ?_
          exact x_iret (w1 := (fun _ => (WM cI cJ cB cZ bd))) 4 B h hr rfl (Or.inr (Or.inr (Or.inr (Or.inr (Or.inl ⟨rfl, k_1_0, k_1_1, c_5, c_10, c_15, c_20, rfl⟩))))) dX12_slack_44
        · skip
          refine lv_aload_n hx hb dX12_slack_21 rfl (lv_at hl 2 rfl) ?_
          refine lv_iload_n hx hb dX12_slack_22 rfl (lv_at hl 0 rfl) ?_
          refine lv_iconst (v := (-1)) hx hb dX12_slack_23 (by decide) ?_
          refine x_cVIF (n := 2) (As := [.int 3, .int (-1)]) (rest := []) B h (k207_X12_critical l D cI cJ cB cZ ad bd) ⟨⟨_, rfl⟩, by decide +kernel, Nat.le_of_ble_eq_true rfl, Nat.le_of_ble_eq_true rfl⟩ gX12_slack_X12_critical (show ((WM cI cJ cB cZ bd) : va_W)[0]? = some (_, .inr (12, _)) from rfl) rfl rfl hl.1 rfl (Nat.le_of_ble_eq_true rfl) dX12_slack_24 ⟨Nat.le_of_ble_eq_true rfl, Nat.le_of_ble_eq_true rfl⟩ (fun r_21 u_21 H locs hp_21 h => ?_)
          obtain rfl := hp_21
          have h : Hp D A s.heap (WM cI cJ cB cZ bd) H locs := h
          refine lv_aload_n hx hb dX12_slack_27 rfl (lv_at hl 2 rfl) ?_
          refine lv_iload_n hx hb dX12_slack_28 rfl (lv_at hl 0 rfl) ?_
          refine lv_iconst (v := 0) hx hb dX12_slack_29 (by decide) ?_
          refine x_cVIF (n := 2) (As := [.int 3, .int 0]) (rest := [.int 0]) B h (k208_X12_betti l D cI cJ cB cZ ad bd) ⟨⟨_, rfl⟩, by decide +kernel, Nat.le_of_ble_eq_true rfl, Nat.le_of_ble_eq_true rfl⟩ gX12_slack_X12_betti (show ((WM cI cJ cB cZ bd) : va_W)[0]? = some (_, .inr (12, _)) from rfl) rfl rfl hl.1 rfl (Nat.le_of_ble_eq_true rfl) dX12_slack_30 ⟨Nat.le_of_ble_eq_true rfl, Nat.le_of_ble_eq_true rfl⟩ (fun r_22 u_22 H locs hp_22 h => ?_)
          obtain rfl := hp_22
          have h : Hp D A s.heap (WM cI cJ cB cZ bd) H locs := h
          refine lv_isub hx hb dX12_slack_33 ?_
          refine lv_topi (fun v_23 ev_23 => ?_)
          obtain rfl : v_23 = 0 := ev_23.trans (by decide)
          refine lv_iload_n hx hb dX12_slack_34 rfl (lv_at hl 1 rfl) ?_
          refine lv_isub hx hb dX12_slack_35 ?_
          refine lv_topi (fun v_24 ev_24 => ?_)
          obtain rfl : v_24 = 0 := ev_24.trans (by decide)
          refine lv_istore_n (lv' := [(2, .int 0), (3, .int 3), (0, .ref (bd 0)), (1, .int p1)]) hx hb dX12_slack_36 rfl hl (by decide) rfl (fun ls hl => ?_)
          refine lv_iinc (v := 4) (lv' := [(3, .int 4), (2, .int 0), (0, .ref (bd 0)), (1, .int p1)]) hx hb dX12_slack_37 hl (k := 1) rfl (by decide) (by decide) rfl (fun ls hl => ?_)
          refine lv_goto (tgt := 16) hx hb dX12_slack_40 (by decide) ?_
          refine lv_iload_n hx hb dX12_slack_16 rfl (lv_at hl 0 rfl) ?_
          refine lv_iload_n hx hb dX12_slack_17 rfl (lv_at hl 3 rfl) ?_
          refine lv_icmp_gt (tgt := 43) hx hb dX12_slack_18 (by decide) (fun c_25 => ?_) (fun c_25 => ?_)
          · skip
            refine lv_iload_n hx hb dX12_slack_43 rfl (lv_at hl 1 rfl) ?_
            exact x_iret (w1 := (fun _ => (WM cI cJ cB cZ bd))) 5 B h hr rfl (Or.inr (Or.inr (Or.inr (Or.inr (Or.inr (Or.inl ⟨rfl, k_1_0, k_1_1, c_5, c_10, c_15, c_20, c_25, rfl⟩)))))) dX12_slack_44
          · skip
            refine lv_aload_n hx hb dX12_slack_21 rfl (lv_at hl 2 rfl) ?_
            refine lv_iload_n hx hb dX12_slack_22 rfl (lv_at hl 0 rfl) ?_
            refine lv_iconst (v := (-1)) hx hb dX12_slack_23 (by decide) ?_
            refine x_cVIF (n := 2) (As := [.int 4, .int (-1)]) (rest := []) B h (k210_X12_critical l D cI cJ cB cZ ad bd) ⟨⟨_, rfl⟩, by decide +kernel, Nat.le_of_ble_eq_true rfl, Nat.le_of_ble_eq_true rfl⟩ gX12_slack_X12_critical (show ((WM cI cJ cB cZ bd) : va_W)[0]? = some (_, .inr (12, _)) from rfl) rfl rfl hl.1 rfl (Nat.le_of_ble_eq_true rfl) dX12_slack_24 ⟨Nat.le_of_ble_eq_true rfl, Nat.le_of_ble_eq_true rfl⟩ (fun r_26 u_26 H locs hp_26 h => ?_)
            obtain rfl := hp_26
            have h : Hp D A s.heap (WM cI cJ cB cZ bd) H locs := h
            refine lv_aload_n hx hb dX12_slack_27 rfl (lv_at hl 2 rfl) ?_
            refine lv_iload_n hx hb dX12_slack_28 rfl (lv_at hl 0 rfl) ?_
            refine lv_iconst (v := 0) hx hb dX12_slack_29 (by decide) ?_
            refine x_cVIF (n := 2) (As := [.int 4, .int 0]) (rest := [.int 0]) B h (k211_X12_betti l D cI cJ cB cZ ad bd) ⟨⟨_, rfl⟩, by decide +kernel, Nat.le_of_ble_eq_true rfl, Nat.le_of_ble_eq_true rfl⟩ gX12_slack_X12_betti (show ((WM cI cJ cB cZ bd) : va_W)[0]? = some (_, .inr (12, _)) from rfl) rfl rfl hl.1 rfl (Nat.le_of_ble_eq_true rfl) dX12_slack_30 ⟨Nat.le_of_ble_eq_true rfl, Nat.le_of_ble_eq_true rfl⟩ (fun r_27 u_27 H locs hp_27 h => ?_)
            obtain rfl := hp_27
            have h : Hp D A s.heap (WM cI cJ cB cZ bd) H locs := h
            refine lv_isub hx hb dX12_slack_33 ?_
            refine lv_topi (fun v_28 ev_28 => ?_)
            obtain rfl : v_28 = 0 := ev_28.trans (by decide)
            refine lv_iload_n hx hb dX12_slack_34 rfl (lv_at hl 1 rfl) ?_
            refine lv_isub hx hb dX12_slack_35 ?_
            refine lv_topi (fun v_29 ev_29 => ?_)
            obtain rfl : v_29 = 0 := ev_29.trans (by decide)
            refine lv_istore_n (lv' := [(2, .int 0), (3, .int 4), (0, .ref (bd 0)), (1, .int p1)]) hx hb dX12_slack_36 rfl hl (by decide) rfl (fun ls hl => ?_)
            refine lv_iinc (v := 5) (lv' := [(3, .int 5), (2, .int 0), (0, .ref (bd 0)), (1, .int p1)]) hx hb dX12_slack_37 hl (k := 1) rfl (by decide) (by decide) rfl (fun ls hl => ?_)
            refine lv_goto (tgt := 16) hx hb dX12_slack_40 (by decide) ?_
            refine lv_iload_n hx hb dX12_slack_16 rfl (lv_at hl 0 rfl) ?_
            refine lv_iload_n hx hb dX12_slack_17 rfl (lv_at hl 3 rfl) ?_
            refine lv_icmp_gt (tgt := 43) hx hb dX12_slack_18 (by decide) (fun c_30 => ?_) (fun c_30 => absurd c_30 (by simp only [Int32.lt_iff_toInt_lt, Int32.le_iff_toInt_le, ← Int32.toInt_inj, show ((0 : Int32)).toInt = 0 from by decide, show ((1 : Int32)).toInt = 1 from by decide, show ((2 : Int32)).toInt = 2 from by decide, show ((3 : Int32)).toInt = 3 from by decide, show ((4 : Int32)).toInt = 4 from by decide, show ((5 : Int32)).toInt = 5 from by decide] at k_1_0 k_1_1 c_5 c_10 c_15 c_20 c_25 ⊢; omega))
            refine lv_iload_n hx hb dX12_slack_43 rfl (lv_at hl 1 rfl) ?_
            exact x_iret (w1 := (fun _ => (WM cI cJ cB cZ bd))) 6 B h hr rfl (Or.inr (Or.inr (Or.inr (Or.inr (Or.inr (Or.inr (⟨rfl, k_1_0, k_1_1, c_5, c_10, c_15, c_20, c_25, c_30, rfl⟩))))))) dX12_slack_44
set_option maxHeartbeats 4000000 in
set_option maxRecDepth 100000 in
theorem k213_X11_free (l : Launch) (D : va_G) (cI cJ cB cZ : ClassId) (ad bd : Nat → Nat) (p1 : Int32) : MetI l yX11_free wsX11_free 4 90 0 0 D (TYS cI cJ cB cZ) (WX cI cJ cB cZ ad) [.ref (ad 0), .int p1] (fun (r : Int32) (u : Nat) => (u = 0 ∧ ((-1) ≤ p1) ∧ (¬ p1 = (-1)) ∧ (0 ≤ p1) ∧ r = (-2)) ∨ (u = 1 ∧ ((-1) ≤ p1) ∧ (¬ p1 = (-1)) ∧ (¬ 0 ≤ p1) ∧ r = 0) ∨ (u = 2 ∧ ((-1) ≤ p1) ∧ (p1 = (-1)) ∧ r = 0) ∨ (u = 3 ∧ (¬ (-1) ≤ p1) ∧ r = (-1))) (fun _ => (WX cI cJ cB cZ ad)) := by
  refine x_startI (ty := .int) (cc := cX11_free) (by decide) rfl (Nat.le_of_ble_eq_true rfl) ?_
  intro p e s m args below meth c A ls B hr hnm h hl
  have hx := B.1.1
  have hb := B.1.2.1
  have hml := B.1.2.2.1
  have hts := B.1.2.2.2.2
  have hown : s.vm.findClass RX11 = some m.cls := B.1.2.2.2.1
  have hin9 : ∀ w ∈ u_ws RX9 TX9 7, w ∈ wsX11_free := by decide +kernel
  have hin11 : ∀ w ∈ u_ws RX11 TX11 11, w ∈ wsX11_free := by decide +kernel
  have hl : lv_has ls 5 [(0, .ref (ad 0)), (1, .int p1)] := hl
  refine lv_iload_n hx hb dX11_free_0 rfl (lv_at hl 1 rfl) ?_
  refine lv_iconst (v := (-1)) hx hb dX11_free_1 (by decide) ?_
  refine lv_icmp_ge (tgt := 7) hx hb dX11_free_2 (by decide) (fun c_1 => ?_) (fun c_1 => ?_)
  · skip
    refine lv_lconst (v := 0) hx hb dX11_free_7 (by decide) ?_
    refine lv_lstore_n (lv' := [(2, .long 0), (0, .ref (ad 0)), (1, .int p1)]) hx hb dX11_free_8 rfl hl (by decide) rfl (fun ls hl => ?_)
    refine lv_iconst (v := 0) hx hb dX11_free_9 (by decide) ?_
    refine lv_istore (lv' := [(4, .int 0), (2, .long 0), (0, .ref (ad 0)), (1, .int p1)]) hx hb dX11_free_10 hl (by decide) rfl (fun ls hl => ?_)
    refine lv_iload hx hb dX11_free_12 (lv_at hl 0 rfl) ?_
    refine lv_aload_n hx hb dX11_free_14 rfl (lv_at hl 2 rfl) ?_
    refine x_get (ci := 11) (C := RX11) (T := TX11) (N := 11) (v := .ref (ad 3)) B h hin11 0 2 rfl rfl (by decide) (by decide +kernel) rfl dX11_free_15 ?_
    refine x_get (ci := 9) (C := RX9) (T := TX9) (N := 7) (v := .int 0) B h hin9 3 0 rfl rfl (by decide) (by decide +kernel) rfl dX11_free_18 ?_
    refine lv_icmp_ge (tgt := 56) hx hb dX11_free_21 (by decide) (fun c_2 => ?_) (fun c_2 => absurd c_2 (by decide))
    refine lv_lload_n hx hb dX11_free_56 rfl (lv_at hl 1 rfl) ?_
    refine lv_iload_n hx hb dX11_free_57 rfl (lv_at hl 3 rfl) ?_
    refine x_cSIE (n := 2) (As := [.long 0, .int p1]) (rest := []) B h (k69_X11_listed l D cI cJ cB cZ ad bd p1) ⟨⟨_, rfl⟩, by decide +kernel, Nat.le_of_ble_eq_true rfl, Nat.le_of_ble_eq_true rfl⟩ gX11_free_X11_listed rfl hl.1 rfl (Nat.le_of_ble_eq_true rfl) dX11_free_58 ⟨Nat.le_of_ble_eq_true rfl, Nat.le_of_ble_eq_true rfl⟩ (fun r_3 u_3 H locs hp_3 h => ?_)
    rcases hp_3 with ⟨rfl, k_3_0, k_3_1, rfl⟩ | ⟨rfl, k_3_0, k_3_1, rfl⟩ | ⟨rfl, k_3_0, rfl⟩
    · skip
      have h : Hp D A s.heap (WX cI cJ cB cZ ad) H locs := h
      exact x_iret (w1 := (fun _ => (WX cI cJ cB cZ ad))) 0 B h hr rfl (Or.inl ⟨rfl, c_1, k_3_0, k_3_1, rfl⟩) dX11_free_61
    · skip
      have h : Hp D A s.heap (WX cI cJ cB cZ ad) H locs := h
      exact x_iret (w1 := (fun _ => (WX cI cJ cB cZ ad))) 1 B h hr rfl (Or.inr (Or.inl ⟨rfl, c_1, k_3_0, k_3_1, rfl⟩)) dX11_free_61
    · skip
      have h : Hp D A s.heap (WX cI cJ cB cZ ad) H locs := h
      exact x_iret (w1 := (fun _ => (WX cI cJ cB cZ ad))) 2 B h hr rfl (Or.inr (Or.inr (Or.inl ⟨rfl, c_1, k_3_0, rfl⟩))) dX11_free_61
  · skip
    refine lv_iconst (v := (-1)) hx hb dX11_free_5 (by decide) ?_
    exact x_iret (w1 := (fun _ => (WX cI cJ cB cZ ad))) 3 B h hr rfl (Or.inr (Or.inr (Or.inr (⟨rfl, c_1, rfl⟩)))) dX11_free_6
set_option maxHeartbeats 4000000 in
set_option maxRecDepth 100000 in
theorem k214_X12_free (l : Launch) (D : va_G) (cI cJ cB cZ : ClassId) (ad bd : Nat → Nat) (p1 : Int32) : MetI l yX12_free wsX12_free 0 0 0 0 D (TYS cI cJ cB cZ) (WM cI cJ cB cZ bd) [.ref (bd 0), .int p1] (fun (r : Int32) (u : Nat) => (u = 0 ∧ ((-1) ≤ p1) ∧ (¬ p1 = (-1)) ∧ r = (-2)) ∨ (u = 1 ∧ ((-1) ≤ p1) ∧ (p1 = (-1)) ∧ r = 0) ∨ (u = 2 ∧ (¬ (-1) ≤ p1) ∧ r = (-1))) (fun _ => (WM cI cJ cB cZ bd)) := by
  refine x_startI (ty := .int) (cc := cX12_free) (by decide) rfl (Nat.le_of_ble_eq_true rfl) ?_
  intro p e s m args below meth c A ls B hr hnm h hl
  have hx := B.1.1
  have hb := B.1.2.1
  have hml := B.1.2.2.1
  have hts := B.1.2.2.2.2
  have hown : s.vm.findClass RX12 = some m.cls := B.1.2.2.2.1
  have hin12 : ∀ w ∈ u_ws RX12 TX12 31, w ∈ wsX12_free := by decide +kernel
  have hl : lv_has ls 4 [(0, .ref (bd 0)), (1, .int p1)] := hl
  refine lv_iload_n hx hb dX12_free_0 rfl (lv_at hl 1 rfl) ?_
  refine lv_iconst (v := (-1)) hx hb dX12_free_1 (by decide) ?_
  refine lv_icmp_ge (tgt := 7) hx hb dX12_free_2 (by decide) (fun c_1 => ?_) (fun c_1 => ?_)
  · skip
    refine lv_iconst (v := 0) hx hb dX12_free_7 (by decide) ?_
    refine lv_istore_n (lv' := [(2, .int 0), (0, .ref (bd 0)), (1, .int p1)]) hx hb dX12_free_8 rfl hl (by decide) rfl (fun ls hl => ?_)
    refine lv_iconst (v := 0) hx hb dX12_free_9 (by decide) ?_
    refine lv_istore_n (lv' := [(3, .int 0), (2, .int 0), (0, .ref (bd 0)), (1, .int p1)]) hx hb dX12_free_10 rfl hl (by decide) rfl (fun ls hl => ?_)
    refine lv_iload_n hx hb dX12_free_11 rfl (lv_at hl 0 rfl) ?_
    refine lv_aload_n hx hb dX12_free_12 rfl (lv_at hl 2 rfl) ?_
    refine x_get (ci := 12) (C := RX12) (T := TX12) (N := 31) (v := .int 0) B h hin12 0 5 rfl rfl (by decide) (by decide +kernel) rfl dX12_free_13 ?_
    refine lv_icmp_ge (tgt := 43) hx hb dX12_free_16 (by decide) (fun c_2 => ?_) (fun c_2 => absurd c_2 (by decide))
    refine lv_iload_n hx hb dX12_free_43 rfl (lv_at hl 3 rfl) ?_
    refine lv_iconst (v := (-1)) hx hb dX12_free_44 (by decide) ?_
    refine lv_icmp_ne (tgt := 52) hx hb dX12_free_45 (by decide) (fun c_3 => ?_) (fun c_3 => ?_)
    · skip
      refine lv_bipush (v := (-2)) hx hb dX12_free_52 (by decide) ?_
      exact x_iret (w1 := (fun _ => (WM cI cJ cB cZ bd))) 0 B h hr rfl (Or.inl ⟨rfl, c_1, c_3, rfl⟩) dX12_free_54
    · skip
      refine lv_iload_n hx hb dX12_free_48 rfl (lv_at hl 1 rfl) ?_
      refine lv_goto (tgt := 54) hx hb dX12_free_49 (by decide) ?_
      exact x_iret (w1 := (fun _ => (WM cI cJ cB cZ bd))) 1 B h hr rfl (Or.inr (Or.inl ⟨rfl, c_1, c_3, rfl⟩)) dX12_free_54
  · skip
    refine lv_iconst (v := (-1)) hx hb dX12_free_5 (by decide) ?_
    exact x_iret (w1 := (fun _ => (WM cI cJ cB cZ bd))) 2 B h hr rfl (Or.inr (Or.inr (⟨rfl, c_1, rfl⟩))) dX12_free_6
set_option maxHeartbeats 4000000 in
set_option maxRecDepth 100000 in
theorem k215_X11_facet (l : Launch) (D : va_G) (cI cJ cB cZ : ClassId) (ad bd : Nat → Nat) (p1 : Int32) : MetI l yX11_facet wsX11_facet 4 90 0 0 D (TYS cI cJ cB cZ) (WX cI cJ cB cZ ad) [.ref (ad 0), .int p1] (fun (r : Int32) (u : Nat) => (u = 0 ∧ ((-1) ≤ p1) ∧ (¬ p1 = (-1)) ∧ (0 ≤ p1) ∧ r = (-2)) ∨ (u = 1 ∧ ((-1) ≤ p1) ∧ (¬ p1 = (-1)) ∧ (¬ 0 ≤ p1) ∧ r = 0) ∨ (u = 2 ∧ ((-1) ≤ p1) ∧ (p1 = (-1)) ∧ r = 0) ∨ (u = 3 ∧ (¬ (-1) ≤ p1) ∧ r = (-1))) (fun _ => (WX cI cJ cB cZ ad)) := by
  refine x_startI (ty := .int) (cc := cX11_facet) (by decide) rfl (Nat.le_of_ble_eq_true rfl) ?_
  intro p e s m args below meth c A ls B hr hnm h hl
  have hx := B.1.1
  have hb := B.1.2.1
  have hml := B.1.2.2.1
  have hts := B.1.2.2.2.2
  have hown : s.vm.findClass RX11 = some m.cls := B.1.2.2.2.1
  have hin9 : ∀ w ∈ u_ws RX9 TX9 7, w ∈ wsX11_facet := by decide +kernel
  have hin11 : ∀ w ∈ u_ws RX11 TX11 11, w ∈ wsX11_facet := by decide +kernel
  have hl : lv_has ls 5 [(0, .ref (ad 0)), (1, .int p1)] := hl
  refine lv_iload_n hx hb dX11_facet_0 rfl (lv_at hl 1 rfl) ?_
  refine lv_iconst (v := (-1)) hx hb dX11_facet_1 (by decide) ?_
  refine lv_icmp_ge (tgt := 7) hx hb dX11_facet_2 (by decide) (fun c_1 => ?_) (fun c_1 => ?_)
  · skip
    refine lv_lconst (v := 0) hx hb dX11_facet_7 (by decide) ?_
    refine lv_lstore_n (lv' := [(2, .long 0), (0, .ref (ad 0)), (1, .int p1)]) hx hb dX11_facet_8 rfl hl (by decide) rfl (fun ls hl => ?_)
    refine lv_iconst (v := 0) hx hb dX11_facet_9 (by decide) ?_
    refine lv_istore (lv' := [(4, .int 0), (2, .long 0), (0, .ref (ad 0)), (1, .int p1)]) hx hb dX11_facet_10 hl (by decide) rfl (fun ls hl => ?_)
    refine lv_iload hx hb dX11_facet_12 (lv_at hl 0 rfl) ?_
    refine lv_aload_n hx hb dX11_facet_14 rfl (lv_at hl 2 rfl) ?_
    refine x_get (ci := 11) (C := RX11) (T := TX11) (N := 11) (v := .ref (ad 3)) B h hin11 0 2 rfl rfl (by decide) (by decide +kernel) rfl dX11_facet_15 ?_
    refine x_get (ci := 9) (C := RX9) (T := TX9) (N := 7) (v := .int 0) B h hin9 3 0 rfl rfl (by decide) (by decide +kernel) rfl dX11_facet_18 ?_
    refine lv_icmp_ge (tgt := 70) hx hb dX11_facet_21 (by decide) (fun c_2 => ?_) (fun c_2 => absurd c_2 (by decide))
    refine lv_lload_n hx hb dX11_facet_70 rfl (lv_at hl 1 rfl) ?_
    refine lv_iload_n hx hb dX11_facet_71 rfl (lv_at hl 3 rfl) ?_
    refine x_cSIE (n := 2) (As := [.long 0, .int p1]) (rest := []) B h (k69_X11_listed l D cI cJ cB cZ ad bd p1) ⟨⟨_, rfl⟩, by decide +kernel, Nat.le_of_ble_eq_true rfl, Nat.le_of_ble_eq_true rfl⟩ gX11_facet_X11_listed rfl hl.1 rfl (Nat.le_of_ble_eq_true rfl) dX11_facet_72 ⟨Nat.le_of_ble_eq_true rfl, Nat.le_of_ble_eq_true rfl⟩ (fun r_3 u_3 H locs hp_3 h => ?_)
    rcases hp_3 with ⟨rfl, k_3_0, k_3_1, rfl⟩ | ⟨rfl, k_3_0, k_3_1, rfl⟩ | ⟨rfl, k_3_0, rfl⟩
    · skip
      have h : Hp D A s.heap (WX cI cJ cB cZ ad) H locs := h
      exact x_iret (w1 := (fun _ => (WX cI cJ cB cZ ad))) 0 B h hr rfl (Or.inl ⟨rfl, c_1, k_3_0, k_3_1, rfl⟩) dX11_facet_75
    · skip
      have h : Hp D A s.heap (WX cI cJ cB cZ ad) H locs := h
      exact x_iret (w1 := (fun _ => (WX cI cJ cB cZ ad))) 1 B h hr rfl (Or.inr (Or.inl ⟨rfl, c_1, k_3_0, k_3_1, rfl⟩)) dX11_facet_75
    · skip
      have h : Hp D A s.heap (WX cI cJ cB cZ ad) H locs := h
      exact x_iret (w1 := (fun _ => (WX cI cJ cB cZ ad))) 2 B h hr rfl (Or.inr (Or.inr (Or.inl ⟨rfl, c_1, k_3_0, rfl⟩))) dX11_facet_75
  · skip
    refine lv_iconst (v := (-1)) hx hb dX11_facet_5 (by decide) ?_
    exact x_iret (w1 := (fun _ => (WX cI cJ cB cZ ad))) 3 B h hr rfl (Or.inr (Or.inr (Or.inr (⟨rfl, c_1, rfl⟩)))) dX11_facet_6
set_option maxHeartbeats 4000000 in
set_option maxRecDepth 100000 in
theorem k216_X12_facet (l : Launch) (D : va_G) (cI cJ cB cZ : ClassId) (ad bd : Nat → Nat) (p1 : Int32) : MetI l yX12_facet wsX12_facet 0 0 0 0 D (TYS cI cJ cB cZ) (WM cI cJ cB cZ bd) [.ref (bd 0), .int p1] (fun (r : Int32) (u : Nat) => (u = 0 ∧ ((-1) ≤ p1) ∧ (¬ p1 = (-1)) ∧ r = (-2)) ∨ (u = 1 ∧ ((-1) ≤ p1) ∧ (p1 = (-1)) ∧ r = 0) ∨ (u = 2 ∧ (¬ (-1) ≤ p1) ∧ r = (-1))) (fun _ => (WM cI cJ cB cZ bd)) := by
  refine x_startI (ty := .int) (cc := cX12_facet) (by decide) rfl (Nat.le_of_ble_eq_true rfl) ?_
  intro p e s m args below meth c A ls B hr hnm h hl
  have hx := B.1.1
  have hb := B.1.2.1
  have hml := B.1.2.2.1
  have hts := B.1.2.2.2.2
  have hown : s.vm.findClass RX12 = some m.cls := B.1.2.2.2.1
  have hin12 : ∀ w ∈ u_ws RX12 TX12 31, w ∈ wsX12_facet := by decide +kernel
  have hl : lv_has ls 4 [(0, .ref (bd 0)), (1, .int p1)] := hl
  refine lv_iload_n hx hb dX12_facet_0 rfl (lv_at hl 1 rfl) ?_
  refine lv_iconst (v := (-1)) hx hb dX12_facet_1 (by decide) ?_
  refine lv_icmp_ge (tgt := 7) hx hb dX12_facet_2 (by decide) (fun c_1 => ?_) (fun c_1 => ?_)
  · skip
    refine lv_iconst (v := 0) hx hb dX12_facet_7 (by decide) ?_
    refine lv_istore_n (lv' := [(2, .int 0), (0, .ref (bd 0)), (1, .int p1)]) hx hb dX12_facet_8 rfl hl (by decide) rfl (fun ls hl => ?_)
    refine lv_iconst (v := 0) hx hb dX12_facet_9 (by decide) ?_
    refine lv_istore_n (lv' := [(3, .int 0), (2, .int 0), (0, .ref (bd 0)), (1, .int p1)]) hx hb dX12_facet_10 rfl hl (by decide) rfl (fun ls hl => ?_)
    refine lv_iload_n hx hb dX12_facet_11 rfl (lv_at hl 0 rfl) ?_
    refine lv_aload_n hx hb dX12_facet_12 rfl (lv_at hl 2 rfl) ?_
    refine x_get (ci := 12) (C := RX12) (T := TX12) (N := 31) (v := .int 0) B h hin12 0 5 rfl rfl (by decide) (by decide +kernel) rfl dX12_facet_13 ?_
    refine lv_icmp_ge (tgt := 51) hx hb dX12_facet_16 (by decide) (fun c_2 => ?_) (fun c_2 => absurd c_2 (by decide))
    refine lv_iload_n hx hb dX12_facet_51 rfl (lv_at hl 3 rfl) ?_
    refine lv_iconst (v := (-1)) hx hb dX12_facet_52 (by decide) ?_
    refine lv_icmp_ne (tgt := 60) hx hb dX12_facet_53 (by decide) (fun c_3 => ?_) (fun c_3 => ?_)
    · skip
      refine lv_bipush (v := (-2)) hx hb dX12_facet_60 (by decide) ?_
      exact x_iret (w1 := (fun _ => (WM cI cJ cB cZ bd))) 0 B h hr rfl (Or.inl ⟨rfl, c_1, c_3, rfl⟩) dX12_facet_62
    · skip
      refine lv_iload_n hx hb dX12_facet_56 rfl (lv_at hl 1 rfl) ?_
      refine lv_goto (tgt := 62) hx hb dX12_facet_57 (by decide) ?_
      exact x_iret (w1 := (fun _ => (WM cI cJ cB cZ bd))) 1 B h hr rfl (Or.inr (Or.inl ⟨rfl, c_1, c_3, rfl⟩)) dX12_facet_62
  · skip
    refine lv_iconst (v := (-1)) hx hb dX12_facet_5 (by decide) ?_
    exact x_iret (w1 := (fun _ => (WM cI cJ cB cZ bd))) 2 B h hr rfl (Or.inr (Or.inr (⟨rfl, c_1, rfl⟩))) dX12_facet_6
set_option maxHeartbeats 4000000 in
set_option maxRecDepth 100000 in
theorem k217_X11_link (l : Launch) (D : va_G) (cI cJ cB cZ : ClassId) (ad bd : Nat → Nat) (p1 : Int32) (p2 : Int32) : MetI l yX11_link wsX11_link 2 42 0 0 D (TYS cI cJ cB cZ) (WX cI cJ cB cZ ad) [.ref (ad 0), .int p1, .int p2] (fun (r : Int32) (_ : Unit) => r = (-2147483648)) (fun _ => (WX cI cJ cB cZ ad)) := by
  refine x_startI (ty := .int) (cc := cX11_link) (by decide) rfl (Nat.le_of_ble_eq_true rfl) ?_
  intro p e s m args below meth c A ls B hr hnm h hl
  have hx := B.1.1
  have hb := B.1.2.1
  have hml := B.1.2.2.1
  have hts := B.1.2.2.2.2
  have hown : s.vm.findClass RX11 = some m.cls := B.1.2.2.2.1
  have hl : lv_has ls 5 [(0, .ref (ad 0)), (1, .int p1), (2, .int p2)] := hl
  refine lv_aload_n hx hb dX11_link_0 rfl (lv_at hl 0 rfl) ?_
  refine lv_iload_n hx hb dX11_link_1 rfl (lv_at hl 1 rfl) ?_
  refine x_cVIF (n := 1) (As := [.int p1]) (rest := []) B h (k46_X11_isThere l D cI cJ cB cZ ad bd p1) ⟨⟨_, rfl⟩, by decide +kernel, Nat.le_of_ble_eq_true rfl, Nat.le_of_ble_eq_true rfl⟩ gX11_link_X11_isThere (show ((WX cI cJ cB cZ ad) : va_W)[0]? = some (_, .inr (11, _)) from rfl) rfl rfl hl.1 rfl (Nat.le_of_ble_eq_true rfl) dX11_link_2 ⟨Nat.le_of_ble_eq_true rfl, Nat.le_of_ble_eq_true rfl⟩ (fun r_1 u_1 H locs hp_1 h => ?_)
  obtain rfl := hp_1
  have h : Hp D A s.heap (WX cI cJ cB cZ ad) H locs := h
  refine lv_if_eq (tgt := 17) hx hb dX11_link_5 (by decide) (fun c_2 => ?_) (fun c_2 => absurd c_2 (by decide))
  refine lv_ldc (v := (-2147483648)) hx hb hown (hts (.constant RX11 160 (-2147483648)) (by decide +kernel)) dX11_link_17 ?_
  exact x_iret (w1 := (fun _ => (WX cI cJ cB cZ ad))) () B h hr rfl rfl dX11_link_19
set_option maxHeartbeats 4000000 in
set_option maxRecDepth 100000 in
theorem k218_X12_link (l : Launch) (D : va_G) (cI cJ cB cZ : ClassId) (ad bd : Nat → Nat) (p1 : Int32) (p2 : Int32) : MetI l yX12_link wsX12_link 3 64 0 0 D (TYS cI cJ cB cZ) (WM cI cJ cB cZ bd) [.ref (bd 0), .int p1, .int p2] (fun (r : Int32) (_ : Unit) => r = (-2147483648)) (fun _ => (WM cI cJ cB cZ bd)) := by
  refine x_startI (ty := .int) (cc := cX12_link) (by decide) rfl (Nat.le_of_ble_eq_true rfl) ?_
  intro p e s m args below meth c A ls B hr hnm h hl
  have hx := B.1.1
  have hb := B.1.2.1
  have hml := B.1.2.2.1
  have hts := B.1.2.2.2.2
  have hown : s.vm.findClass RX12 = some m.cls := B.1.2.2.2.1
  have hl : lv_has ls 6 [(0, .ref (bd 0)), (1, .int p1), (2, .int p2)] := hl
  refine lv_aload_n hx hb dX12_link_0 rfl (lv_at hl 0 rfl) ?_
  refine lv_iload_n hx hb dX12_link_1 rfl (lv_at hl 1 rfl) ?_
  refine x_cVIF (n := 1) (As := [.int p1]) (rest := []) B h (k48_X12_isThere l D cI cJ cB cZ ad bd p1) ⟨⟨_, rfl⟩, by decide +kernel, Nat.le_of_ble_eq_true rfl, Nat.le_of_ble_eq_true rfl⟩ gX12_link_X12_isThere (show ((WM cI cJ cB cZ bd) : va_W)[0]? = some (_, .inr (12, _)) from rfl) rfl rfl hl.1 rfl (Nat.le_of_ble_eq_true rfl) dX12_link_2 ⟨Nat.le_of_ble_eq_true rfl, Nat.le_of_ble_eq_true rfl⟩ (fun r_1 u_1 H locs hp_1 h => ?_)
  obtain rfl := hp_1
  have h : Hp D A s.heap (WM cI cJ cB cZ bd) H locs := h
  refine lv_if_eq (tgt := 17) hx hb dX12_link_5 (by decide) (fun c_2 => ?_) (fun c_2 => absurd c_2 (by decide))
  refine lv_ldc (v := (-2147483648)) hx hb hown (hts (.constant RX12 165 (-2147483648)) (by decide +kernel)) dX12_link_17 ?_
  exact x_iret (w1 := (fun _ => (WM cI cJ cB cZ bd))) () B h hr rfl rfl dX12_link_19
set_option maxHeartbeats 4000000 in
set_option maxRecDepth 100000 in
theorem k219_X11_room (l : Launch) (D : va_G) (cI cJ cB cZ : ClassId) (ad bd : Nat → Nat) (p1 : Int32) : MetI l yX11_room wsX11_room 1 20 0 0 D (TYS cI cJ cB cZ) (WX cI cJ cB cZ ad) [.ref (ad 0), .int p1] (fun (r : Int32) (u : Nat) => (u = 0 ∧ (p1 < 0) ∧ r = (-1)) ∨ (u = 1 ∧ (¬ p1 < 0) ∧ (5 ≤ p1) ∧ r = (-1)) ∨ (u = 2 ∧ (¬ p1 < 0) ∧ (¬ 5 ≤ p1) ∧ r = 0)) (fun _ => (WX cI cJ cB cZ ad)) := by
  refine x_startI (ty := .int) (cc := cX11_room) (by decide) rfl (Nat.le_of_ble_eq_true rfl) ?_
  intro p e s m args below meth c A ls B hr hnm h hl
  have hx := B.1.1
  have hb := B.1.2.1
  have hml := B.1.2.2.1
  have hts := B.1.2.2.2.2
  have hown : s.vm.findClass RX11 = some m.cls := B.1.2.2.2.1
  have hin9 : ∀ w ∈ u_ws RX9 TX9 7, w ∈ wsX11_room := by decide +kernel
  have hin11 : ∀ w ∈ u_ws RX11 TX11 11, w ∈ wsX11_room := by decide +kernel
  have hl : lv_has ls 6 [(0, .ref (ad 0)), (1, .int p1)] := hl
  refine lv_iload_n hx hb dX11_room_0 rfl (lv_at hl 1 rfl) ?_
  refine x_cSIE (n := 1) (As := [.int p1]) (rest := []) B h (k63_X11_isDim l D cI cJ cB cZ ad bd p1) ⟨⟨_, rfl⟩, by decide +kernel, Nat.le_of_ble_eq_true rfl, Nat.le_of_ble_eq_true rfl⟩ gX11_room_X11_isDim rfl hl.1 rfl (Nat.le_of_ble_eq_true rfl) dX11_room_1 ⟨Nat.le_of_ble_eq_true rfl, Nat.le_of_ble_eq_true rfl⟩ (fun r_1 u_1 H locs hp_1 h => ?_)
  rcases hp_1 with ⟨rfl, k_1_0, rfl⟩ | ⟨rfl, k_1_0, k_1_1, rfl⟩ | ⟨rfl, k_1_0, k_1_1, rfl⟩
  · skip
    have h : Hp D A s.heap (WX cI cJ cB cZ ad) H locs := h
    refine lv_if_ne (tgt := 9) hx hb dX11_room_4 (by decide) (fun c_2 => absurd c_2 (by decide)) (fun c_2 => ?_)
    refine lv_iconst (v := (-1)) hx hb dX11_room_7 (by decide) ?_
    exact x_iret (w1 := (fun _ => (WX cI cJ cB cZ ad))) 0 B h hr rfl (Or.inl ⟨rfl, k_1_0, rfl⟩) dX11_room_8
  · skip
    have h : Hp D A s.heap (WX cI cJ cB cZ ad) H locs := h
    refine lv_if_ne (tgt := 9) hx hb dX11_room_4 (by decide) (fun c_3 => absurd c_3 (by decide)) (fun c_3 => ?_)
    refine lv_iconst (v := (-1)) hx hb dX11_room_7 (by decide) ?_
    exact x_iret (w1 := (fun _ => (WX cI cJ cB cZ ad))) 1 B h hr rfl (Or.inr (Or.inl ⟨rfl, k_1_0, k_1_1, rfl⟩)) dX11_room_8
  · skip
    have h : Hp D A s.heap (WX cI cJ cB cZ ad) H locs := h
    refine lv_if_ne (tgt := 9) hx hb dX11_room_4 (by decide) (fun c_4 => ?_) (fun c_4 => absurd c_4 (by decide))
    refine lv_iconst (v := 0) hx hb dX11_room_9 (by decide) ?_
    refine lv_istore_n (lv' := [(2, .int 0), (0, .ref (ad 0)), (1, .int p1)]) hx hb dX11_room_10 rfl hl (by decide) rfl (fun ls hl => ?_)
    refine lv_aload_n hx hb dX11_room_11 rfl (lv_at hl 1 rfl) ?_
    refine x_get (ci := 11) (C := RX11) (T := TX11) (N := 11) (v := .ref (ad 4)) B h hin11 0 3 rfl rfl (by decide) (by decide +kernel) rfl dX11_room_12 ?_
    refine x_cVLF (n := 0) (As := []) (rest := []) B h (k64_X6_unpaired l D cI cJ cB cZ ad bd) ⟨⟨_, rfl⟩, by decide +kernel, Nat.le_of_ble_eq_true rfl, Nat.le_of_ble_eq_true rfl⟩ gX11_room_X6_unpaired (show ((WX cI cJ cB cZ ad) : va_W)[4]? = some (_, .inr (6, _)) from rfl) rfl rfl hl.1 rfl (Nat.le_of_ble_eq_true rfl) dX11_room_15 ⟨Nat.le_of_ble_eq_true rfl, Nat.le_of_ble_eq_true rfl⟩ (fun r_5 u_5 H locs hp_5 h => ?_)
    obtain rfl := hp_5
    have h : Hp D A s.heap (WX cI cJ cB cZ ad) H locs := h
    refine lv_lstore_n (lv' := [(3, .long 0), (2, .int 0), (0, .ref (ad 0)), (1, .int p1)]) hx hb dX11_room_18 rfl hl (by decide) rfl (fun ls hl => ?_)
    refine lv_iconst (v := 0) hx hb dX11_room_19 (by decide) ?_
    refine lv_istore (lv' := [(5, .int 0), (3, .long 0), (2, .int 0), (0, .ref (ad 0)), (1, .int p1)]) hx hb dX11_room_20 hl (by decide) rfl (fun ls hl => ?_)
    refine lv_iload hx hb dX11_room_22 (lv_at hl 0 rfl) ?_
    refine lv_aload_n hx hb dX11_room_24 rfl (lv_at hl 3 rfl) ?_
    refine x_get (ci := 11) (C := RX11) (T := TX11) (N := 11) (v := .ref (ad 3)) B h hin11 0 2 rfl rfl (by decide) (by decide +kernel) rfl dX11_room_25 ?_
    refine x_get (ci := 9) (C := RX9) (T := TX9) (N := 7) (v := .int 0) B h hin9 3 0 rfl rfl (by decide) (by decide +kernel) rfl dX11_room_28 ?_
    refine lv_icmp_ge (tgt := 84) hx hb dX11_room_31 (by decide) (fun c_6 => ?_) (fun c_6 => absurd c_6 (by decide))
    refine lv_iload_n hx hb dX11_room_84 rfl (lv_at hl 2 rfl) ?_
    exact x_iret (w1 := (fun _ => (WX cI cJ cB cZ ad))) 2 B h hr rfl (Or.inr (Or.inr (⟨rfl, k_1_0, k_1_1, rfl⟩))) dX11_room_85
set_option maxHeartbeats 4000000 in
set_option maxRecDepth 100000 in
theorem k220_X12_room (l : Launch) (D : va_G) (cI cJ cB cZ : ClassId) (ad bd : Nat → Nat) (p1 : Int32) : MetI l yX12_room wsX12_room 1 22 0 0 D (TYS cI cJ cB cZ) (WM cI cJ cB cZ bd) [.ref (bd 0), .int p1] (fun (r : Int32) (u : Nat) => (u = 0 ∧ (p1 < 0) ∧ r = (-1)) ∨ (u = 1 ∧ (¬ p1 < 0) ∧ (4 < p1) ∧ r = (-1)) ∨ (u = 2 ∧ (¬ p1 < 0) ∧ (¬ 4 < p1) ∧ r = 0)) (fun _ => (WM cI cJ cB cZ bd)) := by
  refine x_startI (ty := .int) (cc := cX12_room) (by decide) rfl (Nat.le_of_ble_eq_true rfl) ?_
  intro p e s m args below meth c A ls B hr hnm h hl
  have hx := B.1.1
  have hb := B.1.2.1
  have hml := B.1.2.2.1
  have hts := B.1.2.2.2.2
  have hown : s.vm.findClass RX12 = some m.cls := B.1.2.2.2.1
  have hin12 : ∀ w ∈ u_ws RX12 TX12 31, w ∈ wsX12_room := by decide +kernel
  have hl : lv_has ls 5 [(0, .ref (bd 0)), (1, .int p1)] := hl
  refine lv_iload_n hx hb dX12_room_0 rfl (lv_at hl 1 rfl) ?_
  refine lv_iconst (v := 0) hx hb dX12_room_1 (by decide) ?_
  refine lv_iconst (v := 4) hx hb dX12_room_2 (by decide) ?_
  refine x_cSIE (n := 3) (As := [.int p1, .int 0, .int 4]) (rest := []) B h (k71_X12_in l D cI cJ cB cZ ad bd p1) ⟨⟨_, rfl⟩, by decide +kernel, Nat.le_of_ble_eq_true rfl, Nat.le_of_ble_eq_true rfl⟩ gX12_room_X12_in rfl hl.1 rfl (Nat.le_of_ble_eq_true rfl) dX12_room_3 ⟨Nat.le_of_ble_eq_true rfl, Nat.le_of_ble_eq_true rfl⟩ (fun r_1 u_1 H locs hp_1 h => ?_)
  rcases hp_1 with ⟨rfl, k_1_0, rfl⟩ | ⟨rfl, k_1_0, k_1_1, rfl⟩ | ⟨rfl, k_1_0, k_1_1, rfl⟩
  · skip
    have h : Hp D A s.heap (WM cI cJ cB cZ bd) H locs := h
    refine lv_if_ne (tgt := 11) hx hb dX12_room_6 (by decide) (fun c_2 => absurd c_2 (by decide)) (fun c_2 => ?_)
    refine lv_iconst (v := (-1)) hx hb dX12_room_9 (by decide) ?_
    exact x_iret (w1 := (fun _ => (WM cI cJ cB cZ bd))) 0 B h hr rfl (Or.inl ⟨rfl, k_1_0, rfl⟩) dX12_room_10
  · skip
    have h : Hp D A s.heap (WM cI cJ cB cZ bd) H locs := h
    refine lv_if_ne (tgt := 11) hx hb dX12_room_6 (by decide) (fun c_3 => absurd c_3 (by decide)) (fun c_3 => ?_)
    refine lv_iconst (v := (-1)) hx hb dX12_room_9 (by decide) ?_
    exact x_iret (w1 := (fun _ => (WM cI cJ cB cZ bd))) 1 B h hr rfl (Or.inr (Or.inl ⟨rfl, k_1_0, k_1_1, rfl⟩)) dX12_room_10
  · skip
    have h : Hp D A s.heap (WM cI cJ cB cZ bd) H locs := h
    refine lv_if_ne (tgt := 11) hx hb dX12_room_6 (by decide) (fun c_4 => ?_) (fun c_4 => absurd c_4 (by decide))
    refine lv_iconst (v := 0) hx hb dX12_room_11 (by decide) ?_
    refine lv_istore_n (lv' := [(2, .int 0), (0, .ref (bd 0)), (1, .int p1)]) hx hb dX12_room_12 rfl hl (by decide) rfl (fun ls hl => ?_)
    refine lv_iconst (v := 0) hx hb dX12_room_13 (by decide) ?_
    refine lv_istore_n (lv' := [(3, .int 0), (2, .int 0), (0, .ref (bd 0)), (1, .int p1)]) hx hb dX12_room_14 rfl hl (by decide) rfl (fun ls hl => ?_)
    refine lv_iload_n hx hb dX12_room_15 rfl (lv_at hl 0 rfl) ?_
    refine lv_aload_n hx hb dX12_room_16 rfl (lv_at hl 2 rfl) ?_
    refine x_get (ci := 12) (C := RX12) (T := TX12) (N := 31) (v := .int 0) B h hin12 0 5 rfl rfl (by decide) (by decide +kernel) rfl dX12_room_17 ?_
    refine lv_icmp_ge (tgt := 94) hx hb dX12_room_20 (by decide) (fun c_5 => ?_) (fun c_5 => absurd c_5 (by decide))
    refine lv_iload_n hx hb dX12_room_94 rfl (lv_at hl 1 rfl) ?_
    exact x_iret (w1 := (fun _ => (WM cI cJ cB cZ bd))) 2 B h hr rfl (Or.inr (Or.inr (⟨rfl, k_1_0, k_1_1, rfl⟩))) dX12_room_95
set_option maxHeartbeats 4000000 in
set_option maxRecDepth 100000 in
theorem k221_X11_draws (l : Launch) (D : va_G) (cI cJ cB cZ : ClassId) (ad bd : Nat → Nat) (p1 : Int32) : MetI l yX11_draws wsX11_draws 0 0 0 0 D (TYS cI cJ cB cZ) (WX cI cJ cB cZ ad) [.ref (ad 0), .int p1] (fun (r : Int32) (u : Nat) => (u = 0 ∧ (0 ≤ p1) ∧ r = 0) ∨ (u = 1 ∧ (¬ 0 ≤ p1) ∧ r = (-1))) (fun u : Nat => match u with | 0 => (WX cI cJ cB cZ ad (D_x := p1)) | _ => (WX cI cJ cB cZ ad)) := by
  refine x_startI (ty := .int) (cc := cX11_draws) (by decide) rfl (Nat.le_of_ble_eq_true rfl) ?_
  intro p e s m args below meth c A ls B hr hnm h hl
  have hx := B.1.1
  have hb := B.1.2.1
  have hml := B.1.2.2.1
  have hts := B.1.2.2.2.2
  have hown : s.vm.findClass RX11 = some m.cls := B.1.2.2.2.1
  have hin11 : ∀ w ∈ u_ws RX11 TX11 11, w ∈ wsX11_draws := by decide +kernel
  have hl : lv_has ls 3 [(0, .ref (ad 0)), (1, .int p1)] := hl
  refine lv_iload_n hx hb dX11_draws_0 rfl (lv_at hl 1 rfl) ?_
  refine lv_if_ge (tgt := 6) hx hb dX11_draws_1 (by decide) (fun c_1 => ?_) (fun c_1 => ?_)
  · skip
    refine lv_aload_n hx hb dX11_draws_6 rfl (lv_at hl 0 rfl) ?_
    refine x_get (ci := 11) (C := RX11) (T := TX11) (N := 11) (v := .int 0) B h hin11 0 10 rfl rfl (by decide) (by decide +kernel) rfl dX11_draws_7 ?_
    refine lv_istore_n (lv' := [(2, .int 0), (0, .ref (ad 0)), (1, .int p1)]) hx hb dX11_draws_10 rfl hl (by decide) rfl (fun ls hl => ?_)
    refine lv_aload_n hx hb dX11_draws_11 rfl (lv_at hl 1 rfl) ?_
    refine lv_iload_n hx hb dX11_draws_12 rfl (lv_at hl 2 rfl) ?_
    refine x_put (ci := 11) (C := RX11) (T := TX11) (N := 11) (v := .int p1) (ty := .int) B h hin11 tyX11 tyX11_ok nmX11 0 10 rfl rfl (by decide) (by decide +kernel) rfl rfl rfl rfl (Nat.le_of_ble_eq_true rfl) dX11_draws_13 (fun H locs h => ?_)
    have h : Hp D A s.heap (WX cI cJ cB cZ ad (D_x := p1)) H locs := h
    refine lv_iload_n hx hb dX11_draws_16 rfl (lv_at hl 0 rfl) ?_
    exact x_iret (w1 := (fun u : Nat => match u with | 0 => (WX cI cJ cB cZ ad (D_x := p1)) | _ => (WX cI cJ cB cZ ad))) 0 B h hr rfl (Or.inl ⟨rfl, c_1, rfl⟩) dX11_draws_17
  · skip
    refine lv_iconst (v := (-1)) hx hb dX11_draws_4 (by decide) ?_
    exact x_iret (w1 := (fun u : Nat => match u with | 0 => (WX cI cJ cB cZ ad (D_x := p1)) | _ => (WX cI cJ cB cZ ad))) 1 B h hr rfl (Or.inr (⟨rfl, c_1, rfl⟩)) dX11_draws_5
set_option maxHeartbeats 4000000 in
set_option maxRecDepth 100000 in
theorem k222_X12_draws (l : Launch) (D : va_G) (cI cJ cB cZ : ClassId) (ad bd : Nat → Nat) (p1 : Int32) : MetI l yX12_draws wsX12_draws 0 0 0 0 D (TYS cI cJ cB cZ) (WM cI cJ cB cZ bd) [.ref (bd 0), .int p1] (fun (r : Int32) (u : Nat) => (u = 0 ∧ (0 ≤ p1) ∧ r = 0) ∨ (u = 1 ∧ (¬ 0 ≤ p1) ∧ r = (-1))) (fun u : Nat => match u with | 0 => (WM cI cJ cB cZ bd (x := p1)) | _ => (WM cI cJ cB cZ bd)) := by
  refine x_startI (ty := .int) (cc := cX12_draws) (by decide) rfl (Nat.le_of_ble_eq_true rfl) ?_
  intro p e s m args below meth c A ls B hr hnm h hl
  have hx := B.1.1
  have hb := B.1.2.1
  have hml := B.1.2.2.1
  have hts := B.1.2.2.2.2
  have hown : s.vm.findClass RX12 = some m.cls := B.1.2.2.2.1
  have hin12 : ∀ w ∈ u_ws RX12 TX12 31, w ∈ wsX12_draws := by decide +kernel
  have hl : lv_has ls 3 [(0, .ref (bd 0)), (1, .int p1)] := hl
  refine lv_iload_n hx hb dX12_draws_0 rfl (lv_at hl 1 rfl) ?_
  refine lv_if_ge (tgt := 6) hx hb dX12_draws_1 (by decide) (fun c_1 => ?_) (fun c_1 => ?_)
  · skip
    refine lv_aload_n hx hb dX12_draws_6 rfl (lv_at hl 0 rfl) ?_
    refine x_get (ci := 12) (C := RX12) (T := TX12) (N := 31) (v := .int 0) B h hin12 0 26 rfl rfl (by decide) (by decide +kernel) rfl dX12_draws_7 ?_
    refine lv_istore_n (lv' := [(2, .int 0), (0, .ref (bd 0)), (1, .int p1)]) hx hb dX12_draws_10 rfl hl (by decide) rfl (fun ls hl => ?_)
    refine lv_aload_n hx hb dX12_draws_11 rfl (lv_at hl 1 rfl) ?_
    refine lv_iload_n hx hb dX12_draws_12 rfl (lv_at hl 2 rfl) ?_
    refine x_put (ci := 12) (C := RX12) (T := TX12) (N := 31) (v := .int p1) (ty := .int) B h hin12 tyX12 tyX12_ok nmX12 0 26 rfl rfl (by decide) (by decide +kernel) rfl rfl rfl rfl (Nat.le_of_ble_eq_true rfl) dX12_draws_13 (fun H locs h => ?_)
    have h : Hp D A s.heap (WM cI cJ cB cZ bd (x := p1)) H locs := h
    refine lv_iload_n hx hb dX12_draws_16 rfl (lv_at hl 0 rfl) ?_
    exact x_iret (w1 := (fun u : Nat => match u with | 0 => (WM cI cJ cB cZ bd (x := p1)) | _ => (WM cI cJ cB cZ bd))) 0 B h hr rfl (Or.inl ⟨rfl, c_1, rfl⟩) dX12_draws_17
  · skip
    refine lv_iconst (v := (-1)) hx hb dX12_draws_4 (by decide) ?_
    exact x_iret (w1 := (fun u : Nat => match u with | 0 => (WM cI cJ cB cZ bd (x := p1)) | _ => (WM cI cJ cB cZ bd))) 1 B h hr rfl (Or.inr (⟨rfl, c_1, rfl⟩)) dX12_draws_5
set_option maxHeartbeats 4000000 in
set_option maxRecDepth 100000 in
theorem k223_X11_drawn (l : Launch) (D : va_G) (cI cJ cB cZ : ClassId) (ad bd : Nat → Nat) (p1 : Int32) (p2 : Int32) : MetI l yX11_drawn wsX11_drawn 0 0 0 0 D (TYS cI cJ cB cZ) (WX cI cJ cB cZ ad) [.ref (ad 0), .int p1, .int p2] (fun (r : Int32) (_ : Unit) => r = (-1)) (fun _ => (WX cI cJ cB cZ ad)) := by
  refine x_startI (ty := .int) (cc := cX11_drawn) (by decide) rfl (Nat.le_of_ble_eq_true rfl) ?_
  intro p e s m args below meth c A ls B hr hnm h hl
  have hx := B.1.1
  have hb := B.1.2.1
  have hml := B.1.2.2.1
  have hts := B.1.2.2.2.2
  have hown : s.vm.findClass RX11 = some m.cls := B.1.2.2.2.1
  have hin9 : ∀ w ∈ u_ws RX9 TX9 7, w ∈ wsX11_drawn := by decide +kernel
  have hin11 : ∀ w ∈ u_ws RX11 TX11 11, w ∈ wsX11_drawn := by decide +kernel
  have hl : lv_has ls 9 [(0, .ref (ad 0)), (1, .int p1), (2, .int p2)] := hl
  refine lv_iload_n hx hb dX11_drawn_0 rfl (lv_at hl 1 rfl) ?_
  refine lv_iconst (v := 1) hx hb dX11_drawn_1 (by decide) ?_
  refine lv_icmp_lt (tgt := 30) hx hb dX11_drawn_2 (by decide) (fun c_1 => ?_) (fun c_1 => ?_)
  · skip
    refine lv_iconst (v := (-1)) hx hb dX11_drawn_30 (by decide) ?_
    exact x_iret (w1 := (fun _ => (WX cI cJ cB cZ ad))) () B h hr rfl rfl dX11_drawn_31
  · skip
    refine lv_iload_n hx hb dX11_drawn_5 rfl (lv_at hl 1 rfl) ?_
    refine lv_bipush (v := 40) hx hb dX11_drawn_6 (by decide) ?_
    refine lv_icmp_gt (tgt := 30) hx hb dX11_drawn_8 (by decide) (fun c_2 => ?_) (fun c_2 => ?_)
    · skip
      refine lv_iconst (v := (-1)) hx hb dX11_drawn_30 (by decide) ?_
      exact x_iret (w1 := (fun _ => (WX cI cJ cB cZ ad))) () B h hr rfl rfl dX11_drawn_31
    · skip
      refine lv_iload_n hx hb dX11_drawn_11 rfl (lv_at hl 2 rfl) ?_
      refine lv_if_lt (tgt := 30) hx hb dX11_drawn_12 (by decide) (fun c_3 => ?_) (fun c_3 => ?_)
      · skip
        refine lv_iconst (v := (-1)) hx hb dX11_drawn_30 (by decide) ?_
        exact x_iret (w1 := (fun _ => (WX cI cJ cB cZ ad))) () B h hr rfl rfl dX11_drawn_31
      · skip
        refine lv_iload_n hx hb dX11_drawn_15 rfl (lv_at hl 2 rfl) ?_
        refine lv_iconst (v := 2) hx hb dX11_drawn_16 (by decide) ?_
        refine lv_icmp_gt (tgt := 30) hx hb dX11_drawn_17 (by decide) (fun c_4 => ?_) (fun c_4 => ?_)
        · skip
          refine lv_iconst (v := (-1)) hx hb dX11_drawn_30 (by decide) ?_
          exact x_iret (w1 := (fun _ => (WX cI cJ cB cZ ad))) () B h hr rfl rfl dX11_drawn_31
        · skip
          refine lv_aload_n hx hb dX11_drawn_20 rfl (lv_at hl 0 rfl) ?_
          refine x_get (ci := 11) (C := RX11) (T := TX11) (N := 11) (v := .ref (ad 3)) B h hin11 0 2 rfl rfl (by decide) (by decide +kernel) rfl dX11_drawn_21 ?_
          refine x_get (ci := 9) (C := RX9) (T := TX9) (N := 7) (v := .int 0) B h hin9 3 0 rfl rfl (by decide) (by decide +kernel) rfl dX11_drawn_24 ?_
          refine lv_if_ne (tgt := 32) hx hb dX11_drawn_27 (by decide) (fun c_5 => absurd c_5 (by decide)) (fun c_5 => ?_)
          refine lv_iconst (v := (-1)) hx hb dX11_drawn_30 (by decide) ?_
          exact x_iret (w1 := (fun _ => (WX cI cJ cB cZ ad))) () B h hr rfl rfl dX11_drawn_31
set_option maxHeartbeats 4000000 in
set_option maxRecDepth 100000 in
theorem k224_X12_drawn (l : Launch) (D : va_G) (cI cJ cB cZ : ClassId) (ad bd : Nat → Nat) (p1 : Int32) (p2 : Int32) : MetI l yX12_drawn wsX12_drawn 0 0 0 0 D (TYS cI cJ cB cZ) (WM cI cJ cB cZ bd) [.ref (bd 0), .int p1, .int p2] (fun (r : Int32) (_ : Unit) => r = (-1)) (fun _ => (WM cI cJ cB cZ bd)) := by
  refine x_startI (ty := .int) (cc := cX12_drawn) (by decide) rfl (Nat.le_of_ble_eq_true rfl) ?_
  intro p e s m args below meth c A ls B hr hnm h hl
  have hx := B.1.1
  have hb := B.1.2.1
  have hml := B.1.2.2.1
  have hts := B.1.2.2.2.2
  have hown : s.vm.findClass RX12 = some m.cls := B.1.2.2.2.1
  have hin12 : ∀ w ∈ u_ws RX12 TX12 31, w ∈ wsX12_drawn := by decide +kernel
  have hl : lv_has ls 9 [(0, .ref (bd 0)), (1, .int p1), (2, .int p2)] := hl
  refine lv_aload_n hx hb dX12_drawn_0 rfl (lv_at hl 0 rfl) ?_
  refine x_get (ci := 12) (C := RX12) (T := TX12) (N := 31) (v := .int 0) B h hin12 0 5 rfl rfl (by decide) (by decide +kernel) rfl dX12_drawn_1 ?_
  refine lv_if_eq (tgt := 26) hx hb dX12_drawn_4 (by decide) (fun c_1 => ?_) (fun c_1 => absurd c_1 (by decide))
  refine lv_iconst (v := (-1)) hx hb dX12_drawn_26 (by decide) ?_
  exact x_iret (w1 := (fun _ => (WM cI cJ cB cZ bd))) () B h hr rfl rfl dX12_drawn_27
set_option maxHeartbeats 4000000 in
set_option maxRecDepth 100000 in
theorem k225_X2_measure (l : Launch) (D : va_G) (cI cJ cB cZ : ClassId) (ad bd : Nat → Nat) : MetV l yX2_measure wsX2_measure 1 23 0 0 D (TYS cI cJ cB cZ) (WX cI cJ cB cZ ad) [.ref (ad 6)] (fun _ : Unit => True) (fun _ => (WX cI cJ cB cZ ad (Heights_height := fun _ => (-1)) (Heights_measuredAt := 0))) := by
  refine x_startV (ty := .int) (cc := cX2_measure) (by decide) rfl (Nat.le_of_ble_eq_true rfl) ?_
  intro p e s m args below meth c A ls B hr hnm h hl
  have hx := B.1.1
  have hb := B.1.2.1
  have hml := B.1.2.2.1
  have hts := B.1.2.2.2.2
  have hown : s.vm.findClass RX2 = some m.cls := B.1.2.2.2.1
  have hin2 : ∀ w ∈ u_ws RX2 TX2 6, w ∈ wsX2_measure := by decide +kernel
  have hin6 : ∀ w ∈ u_ws RX6 TX6 6, w ∈ wsX2_measure := by decide +kernel
  have hl : lv_has ls 4 [(0, .ref (ad 6))] := hl
  refine lv_aload_n hx hb dX2_measure_0 rfl (lv_at hl 0 rfl) ?_
  refine x_get (ci := 2) (C := RX2) (T := TX2) (N := 6) (v := .int (-1)) B h hin2 6 5 rfl rfl (by decide) (by decide +kernel) rfl dX2_measure_1 ?_
  refine lv_aload_n hx hb dX2_measure_4 rfl (lv_at hl 0 rfl) ?_
  refine x_get (ci := 2) (C := RX2) (T := TX2) (N := 6) (v := .ref (ad 4)) B h hin2 6 1 rfl rfl (by decide) (by decide +kernel) rfl dX2_measure_5 ?_
  refine x_get (ci := 6) (C := RX6) (T := TX6) (N := 6) (v := .int 0) B h hin6 4 5 rfl rfl (by decide) (by decide +kernel) rfl dX2_measure_8 ?_
  refine lv_icmp_ne (tgt := 15) hx hb dX2_measure_11 (by decide) (fun c_1 => ?_) (fun c_1 => absurd c_1 (by decide))
  refine lv_aload_n hx hb dX2_measure_15 rfl (lv_at hl 0 rfl) ?_
  refine lv_aload_n hx hb dX2_measure_16 rfl (lv_at hl 0 rfl) ?_
  refine x_get (ci := 2) (C := RX2) (T := TX2) (N := 6) (v := .ref (ad 4)) B h hin2 6 1 rfl rfl (by decide) (by decide +kernel) rfl dX2_measure_17 ?_
  refine x_get (ci := 6) (C := RX6) (T := TX6) (N := 6) (v := .int 0) B h hin6 4 5 rfl rfl (by decide) (by decide +kernel) rfl dX2_measure_20 ?_
  refine x_put (ci := 2) (C := RX2) (T := TX2) (N := 6) (v := .int 0) (ty := .int) B h hin2 tyX2 tyX2_ok nmX2 6 5 rfl rfl (by decide) (by decide +kernel) rfl rfl rfl rfl (Nat.le_of_ble_eq_true rfl) dX2_measure_23 (fun H locs h => ?_)
  have h : Hp D A s.heap (WX cI cJ cB cZ ad (Heights_measuredAt := 0)) H locs := h
  refine lv_aload_n hx hb dX2_measure_26 rfl (lv_at hl 0 rfl) ?_
  refine x_get (ci := 2) (C := RX2) (T := TX2) (N := 6) (v := .ref (ad 21)) B h hin2 6 2 rfl rfl (by decide) (by decide +kernel) rfl dX2_measure_27 ?_
  refine lv_iconst (v := (-1)) hx hb dX2_measure_30 (by decide) ?_
  refine x_cSV (n := 2) (pre := ((WX cI cJ cB cZ ad (Heights_measuredAt := 0)) : va_W).take 21) (post := ((WX cI cJ cB cZ ad (Heights_measuredAt := 0)) : va_W).drop 22) (wc := [((ad 21), .inl (cI, 64, .inl (fun _ => 0)))]) (As := [.ref (ad 21), .int (-1)]) (rest := []) B h (c_fillI l D (TYS cI cJ cB cZ) cI 0 rfl (ad 21) 64 (by decide) (fun _ => 0) ((-1))) ⟨⟨_, rfl⟩, by decide +kernel, Nat.le_of_ble_eq_true rfl, Nat.le_of_ble_eq_true rfl⟩ gX2_measure_J7_fill_53178 rfl hl.1 rfl (Nat.le_of_ble_eq_true rfl) dX2_measure_31 ⟨Nat.le_of_ble_eq_true rfl, Nat.le_of_ble_eq_true rfl⟩ (fun u_2 H locs hp_2 h => ?_)
  have h : Hp D A s.heap (WX cI cJ cB cZ ad (Heights_height := fun _ => (-1)) (Heights_measuredAt := 0)) H locs := h
  refine lv_aload_n hx hb dX2_measure_34 rfl (lv_at hl 0 rfl) ?_
  refine lv_iconst (v := 0) hx hb dX2_measure_35 (by decide) ?_
  refine x_put (ci := 2) (C := RX2) (T := TX2) (N := 6) (v := .int 0) (ty := .int) B h hin2 tyX2 tyX2_ok nmX2 6 4 rfl rfl (by decide) (by decide +kernel) rfl rfl rfl rfl (Nat.le_of_ble_eq_true rfl) dX2_measure_36 (fun H locs h => ?_)
  have h : Hp D A s.heap (WX cI cJ cB cZ ad (Heights_height := fun _ => (-1)) (Heights_measuredAt := 0)) H locs := h
  refine lv_aload_n hx hb dX2_measure_39 rfl (lv_at hl 0 rfl) ?_
  refine x_get (ci := 2) (C := RX2) (T := TX2) (N := 6) (v := .ref (ad 4)) B h hin2 6 1 rfl rfl (by decide) (by decide +kernel) rfl dX2_measure_40 ?_
  refine x_get (ci := 6) (C := RX6) (T := TX6) (N := 6) (v := .long 0) B h hin6 4 2 rfl rfl (by decide) (by decide +kernel) rfl dX2_measure_43 ?_
  refine lv_lstore_n (lv' := [(1, .long 0), (0, .ref (ad 6))]) hx hb dX2_measure_46 rfl hl (by decide) rfl (fun ls hl => ?_)
  refine lv_iconst (v := 0) hx hb dX2_measure_47 (by decide) ?_
  refine lv_istore_n (lv' := [(3, .int 0), (1, .long 0), (0, .ref (ad 6))]) hx hb dX2_measure_48 rfl hl (by decide) rfl (fun ls hl => ?_)
  refine lv_iload_n hx hb dX2_measure_49 rfl (lv_at hl 0 rfl) ?_
  refine lv_bipush (v := 64) hx hb dX2_measure_50 (by decide) ?_
  refine lv_icmp_ge (tgt := 80) hx hb dX2_measure_52 (by decide) (fun c_3 => absurd c_3 (by decide)) (fun c_3 => ?_)
  refine lv_lload_n hx hb dX2_measure_55 rfl (lv_at hl 1 rfl) ?_
  refine lv_lconst (v := 0) hx hb dX2_measure_56 (by decide) ?_
  refine W.lcmp hx hb dX2_measure_57 ?_
  refine lv_topi (fun v_4 ev_4 => ?_)
  obtain rfl : v_4 = 0 := ev_4.trans (by decide)
  refine lv_if_eq (tgt := 80) hx hb dX2_measure_58 (by decide) (fun c_5 => ?_) (fun c_5 => absurd c_5 (by decide))
  exact x_vret (w1 := (fun _ => (WX cI cJ cB cZ ad (Heights_height := fun _ => (-1)) (Heights_measuredAt := 0)))) () B h hr trivial dX2_measure_80
